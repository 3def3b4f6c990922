def wsL_walk_r4 : List Cond := [Cond.code yX4_isFurtherOut cX4_isFurtherOut 8 (some .boolean), Cond.methodLink RX9 123 yX9_momentX, Cond.instanceMethod yX9_momentX, Cond.selects RX9 yX9_momentX yX9_momentX, Cond.code yX9_momentX cX9_momentX 1 (some .int), Cond.fieldLink RX9 20 "Gaitwright$Stance" "bodyX" "I", Cond.fieldLink RX9 108 "Gaitwright$Frame" "loadWeight" "I", Cond.fieldLink RX9 111 "Gaitwright$Frame" "loadX" "I", Cond.methodLink RX9 126 yX9_momentY, Cond.instanceMethod yX9_momentY, Cond.selects RX9 yX9_momentY yX9_momentY, Cond.code yX9_momentY cX9_momentY 1 (some .int), Cond.fieldLink RX9 24 "Gaitwright$Stance" "bodyY" "I", Cond.fieldLink RX9 114 "Gaitwright$Frame" "loadY" "I", Cond.methodLink RX9 82 yX2_weight, Cond.instanceMethod yX2_weight, Cond.selects RX2 yX2_weight yX2_weight, Cond.initialized RX2, Cond.code yX2_weight cX2_weight 1 (some .int), Cond.fieldLink RX2 30 "Gaitwright$Frame" "loadWeight" "I", Cond.methodLink RX9 129 yX4_holds, Cond.instanceMethod yX4_holds, Cond.selects RX4 yX4_holds yX4_holds, Cond.code yX4_holds cX4_holds 10 (some .boolean)]
def wsL_walk_r5 : List Cond := [Cond.constant RX4 46 (2147483647), Cond.constant RX4 47 (-2147483648), Cond.methodLink RX4 52 Lib.Math.max.name, Cond.static Lib.Math.max.name, Cond.code Lib.Math.max.name Lib.Math.max.code 2 (some .int), Cond.methodLink RX4 48 yX4_edgeByWay, Cond.static yX4_edgeByWay, Cond.code yX4_edgeByWay cX4_edgeByWay 5 (some .int), Cond.methodLink RX10 340 yX0_beginAct, Cond.instanceMethod yX0_beginAct, Cond.selects RX0 yX0_beginAct yX0_beginAct, Cond.initialized RX0, Cond.code yX0_beginAct cX0_beginAct 1 none, Cond.fieldLink RX0 21 "Gaitwright$Damage" "firstOfAct" "I", Cond.methodLink RX10 115 yX8_put, Cond.methodLink RX10 181 yX10_settled, Cond.instanceMethod yX10_settled, Cond.selects RX10 yX10_settled yX10_settled, Cond.code yX10_settled cX10_settled 3 (some .int), Cond.fieldLink RX10 411 "Gaitwright$Damage" "firstOfAct" "I", Cond.methodLink RX10 399 yX9_sinking, Cond.instanceMethod yX9_sinking, Cond.selects RX9 yX9_sinking yX9_sinking, Cond.code yX9_sinking cX9_sinking 5 (some .int)]
def wsL_walk_r6 : List Cond := [Cond.fieldLink RX9 27 "Gaitwright$Stance" "land" "LGaitwright$Land;", Cond.fieldLink RX9 95 "Gaitwright$Land" "firmness" "LGaitwright$Row;", Cond.methodLink RX9 92 yX9_pressure, Cond.instanceMethod yX9_pressure, Cond.selects RX9 yX9_pressure yX9_pressure, Cond.code yX9_pressure cX9_pressure 1 (some .int), Cond.methodLink RX9 86 yX9_down, Cond.instanceMethod yX9_down, Cond.selects RX9 yX9_down yX9_down, Cond.code yX9_down cX9_down 3 (some .int), Cond.methodLink RX9 48 yX8_at, Cond.static yX10_roundedUp, Cond.code yX10_roundedUp cX10_roundedUp 2 (some .int), Cond.methodLink RX10 402 yX10_breakGround, Cond.instanceMethod yX10_breakGround, Cond.selects RX10 yX10_breakGround yX10_breakGround, Cond.code yX10_breakGround cX10_breakGround 4 none, Cond.fieldLink RX10 15 "Gaitwright" "land" "LGaitwright$Land;", Cond.methodLink RX10 414 yX5_sag, Cond.instanceMethod yX5_sag, Cond.selects RX5 yX5_sag yX5_sag, Cond.initialized RX5, Cond.code yX5_sag cX5_sag 2 none, Cond.fieldLink RX5 14 "Gaitwright$Land" "height" "LGaitwright$Row;"]
def wsL_walk_r7 : List Cond := [Cond.methodLink RX5 36 Lib.Math.max.name, Cond.methodLink RX5 29 yX8_at, Cond.methodLink RX5 33 yX8_put, Cond.methodLink RX5 42 yX5_learn, Cond.instanceMethod yX5_learn, Cond.selects RX5 yX5_learn yX5_learn, Cond.code yX5_learn cX5_learn 2 none, Cond.fieldLink RX5 26 "Gaitwright$Land" "mapped" "LGaitwright$Row;", Cond.methodLink RX10 393 yX0_tell, Cond.instanceMethod yX0_tell, Cond.selects RX0 yX0_tell yX0_tell, Cond.code yX0_tell cX0_tell 3 none, Cond.fieldLink RX0 9 "Gaitwright$Damage" "count" "I", Cond.fieldLink RX0 15 "Gaitwright$Damage" "firstWhat" "I", Cond.fieldLink RX0 18 "Gaitwright$Damage" "firstPoint" "I", Cond.methodLink RX10 405 yX9_raise, Cond.instanceMethod yX9_raise, Cond.selects RX9 yX9_raise yX9_raise, Cond.code yX9_raise cX9_raise 3 none, Cond.methodLink RX9 98 yX8_put, Cond.methodLink RX10 408 yX10_toppleOver, Cond.instanceMethod yX10_toppleOver, Cond.selects RX10 yX10_toppleOver yX10_toppleOver, Cond.code yX10_toppleOver cX10_toppleOver 1 none]
def wsL_walk_r8 : List Cond := [Cond.fieldLink RX10 55 "Gaitwright" "falls" "LGaitwright$Falls;", Cond.fieldLink RX10 419 "Gaitwright$Damage" "firstWhat" "I", Cond.fieldLink RX10 422 "Gaitwright$Damage" "firstPoint" "I", Cond.methodLink RX10 417 yX9_direction, Cond.instanceMethod yX9_direction, Cond.selects RX9 yX9_direction yX9_direction, Cond.code yX9_direction cX9_direction 6 (some .int), Cond.static yX10_xOf, Cond.code yX10_xOf cX10_xOf 1 (some .int), Cond.static yX10_yOf, Cond.code yX10_yOf cX10_yOf 1 (some .int), Cond.methodLink RX9 133 yJ6_signum_0f7a4, Cond.static yJ6_signum_0f7a4, Cond.initialized RJ6, Cond.code yJ6_signum_0f7a4 cJ6_signum_0f7a4 1 (some .int), Cond.methodLink RX10 425 yX1_keep, Cond.instanceMethod yX1_keep, Cond.selects RX1 yX1_keep yX1_keep, Cond.initialized RX1, Cond.code yX1_keep cX1_keep 4 none, Cond.fieldLink RX1 14 "Gaitwright$Falls" "direction" "LGaitwright$Row;", Cond.fieldLink RX1 26 "Gaitwright$Falls" "count" "I", Cond.fieldLink RX1 20 "Gaitwright$Falls" "what" "LGaitwright$Row;", Cond.fieldLink RX1 23 "Gaitwright$Falls" "point" "LGaitwright$Row;"]
def wsL_walk_r9 : List Cond := [Cond.methodLink RX1 36 yX8_put, Cond.methodLink RX10 428 yX8_fill, Cond.instanceMethod yX8_fill, Cond.selects RX8 yX8_fill yX8_fill, Cond.code yX8_fill cX8_fill 2 none, Cond.methodLink RX8 13 yJ7_fill_53178, Cond.static yJ7_fill_53178, Cond.initialized RJ7, Cond.code yJ7_fill_53178 cJ7_fill_53178 4 none, Cond.methodLink RX10 238 yX10_xOf, Cond.methodLink RX10 241 yX10_yOf, Cond.methodLink RX10 81 yX10_pointAt, Cond.static yX10_pointAt, Cond.code yX10_pointAt cX10_pointAt 2 (some .int), Cond.methodLink RX10 197 yX10_placeFoot, Cond.instanceMethod yX10_placeFoot, Cond.selects RX10 yX10_placeFoot yX10_placeFoot, Cond.code yX10_placeFoot cX10_placeFoot 5 (some .boolean), Cond.fieldLink RX10 127 "Gaitwright$Land" "mapped" "LGaitwright$Row;", Cond.methodLink RX10 361 Lib.Math.abs.name, Cond.static Lib.Math.abs.name, Cond.code Lib.Math.abs.name Lib.Math.abs.code 1 (some .int), Cond.methodLink RX10 358 yX9_far, Cond.instanceMethod yX9_far]
def wsL_walk_r10 : List Cond := [Cond.selects RX9 yX9_far yX9_far, Cond.code yX9_far cX9_far 3 (some .int), Cond.methodLink RX9 68 Lib.Math.abs.name, Cond.methodLink RX9 58 yX9_hipX, Cond.instanceMethod yX9_hipX, Cond.selects RX9 yX9_hipX yX9_hipX, Cond.code yX9_hipX cX9_hipX 2 (some .int), Cond.fieldLink RX9 43 "Gaitwright$Frame" "hipX" "LGaitwright$Row;", Cond.methodLink RX9 63 yX9_hipY, Cond.instanceMethod yX9_hipY, Cond.selects RX9 yX9_hipY yX9_hipY, Cond.code yX9_hipY cX9_hipY 2 (some .int), Cond.fieldLink RX9 52 "Gaitwright$Frame" "hipY" "LGaitwright$Row;", Cond.methodLink RX10 225 yX9_level, Cond.instanceMethod yX9_level, Cond.selects RX9 yX9_level yX9_level, Cond.code yX9_level cX9_level 5 (some .int), Cond.fieldLink RX9 73 "Gaitwright$Land" "mapped" "LGaitwright$Row;", Cond.methodLink RX9 78 Lib.Math.max.name, Cond.methodLink RX10 364 yX9_isInReach, Cond.instanceMethod yX9_isInReach, Cond.selects RX9 yX9_isInReach yX9_isInReach, Cond.code yX9_isInReach cX9_isInReach 6 (some .boolean), Cond.fieldLink RX9 65 "Gaitwright$Frame" "reach" "LGaitwright$Row;"]
def wsL_walk_r11 : List Cond := [Cond.methodLink RX10 96 yX9_isTaken, Cond.instanceMethod yX9_isTaken, Cond.selects RX9 yX9_isTaken yX9_isTaken, Cond.code yX9_isTaken cX9_isTaken 4 (some .boolean), Cond.methodLink RX10 355 yX10_setFoot, Cond.instanceMethod yX10_setFoot, Cond.selects RX10 yX10_setFoot yX10_setFoot, Cond.code yX10_setFoot cX10_setFoot 5 none, Cond.fieldLink RX10 105 "Gaitwright$Land" "height" "LGaitwright$Row;", Cond.methodLink RX10 389 yX5_learn, Cond.methodLink RX10 396 yX5_slipFrom, Cond.instanceMethod yX5_slipFrom, Cond.selects RX5 yX5_slipFrom yX5_slipFrom, Cond.code yX5_slipFrom cX5_slipFrom 6 (some .int), Cond.fieldLink RX5 23 "Gaitwright$Land" "grip" "LGaitwright$Row;", Cond.methodLink RX5 46 yX5_neighbour, Cond.static yX5_neighbour, Cond.code yX5_neighbour cX5_neighbour 4 (some .int), Cond.methodLink RX10 200 yX10_shiftBody, Cond.instanceMethod yX10_shiftBody, Cond.selects RX10 yX10_shiftBody yX10_shiftBody, Cond.code yX10_shiftBody cX10_shiftBody 4 (some .boolean), Cond.fieldLink RX10 22 "Gaitwright" "frame" "LGaitwright$Frame;", Cond.fieldLink RX10 35 "Gaitwright" "trial" "LGaitwright$Stance;"]
def wsL_walk_r12 : List Cond := [Cond.methodLink RX10 253 yX2_weight, Cond.methodLink RX10 367 yX10_roundedUp, Cond.methodLink RX10 294 yX9_copy, Cond.instanceMethod yX9_copy, Cond.selects RX9 yX9_copy yX9_copy, Cond.code yX9_copy cX9_copy 2 none, Cond.methodLink RX9 39 yX8_copy, Cond.instanceMethod yX8_copy, Cond.selects RX8 yX8_copy yX8_copy, Cond.code yX8_copy cX8_copy 3 none, Cond.methodLink RX8 19 yX8_at, Cond.methodLink RX10 370 yX9_moveBody, Cond.instanceMethod yX9_moveBody, Cond.selects RX9 yX9_moveBody yX9_moveBody, Cond.code yX9_moveBody cX9_moveBody 5 (some .boolean), Cond.methodLink RX9 141 yX9_isInReach, Cond.methodLink RX9 145 yX9_holdsWithout, Cond.methodLink RX10 213 yX3_goOn, Cond.instanceMethod yX3_goOn, Cond.selects RX3 yX3_goOn yX3_goOn, Cond.initialized RX3, Cond.code yX3_goOn cX3_goOn 1 none, Cond.fieldLink RX3 36 "Gaitwright$Gait" "next" "I", Cond.fieldLink RX3 32 "Gaitwright$Gait" "count" "I"]
def wsL_walk : List Cond := .codeWith yL_walk cL_walk 4 (some .int) [(0, 9, 12, 13), (0, 9, 15, 15)] :: ((wsL_walk_r1 ++ (wsL_walk_r2 ++ (wsL_walk_r3 ++ (wsL_walk_r4 ++ (wsL_walk_r5 ++ (wsL_walk_r6 ++ (wsL_walk_r7 ++ (wsL_walk_r8 ++ (wsL_walk_r9 ++ (wsL_walk_r10 ++ (wsL_walk_r11 ++ wsL_walk_r12))))))))))) ++ wsX100 ++ wsX30 ++ wsX90 ++ wsX80 ++ wsX40 ++ wsX20 ++ wsX00 ++ wsX50 ++ wsX10 ++ (vx_atS RX10 93 "java/lang/IllegalArgumentException" ["java/lang/RuntimeException", "java/lang/Exception"]).filter goodWord ++ (vx_atS RX10 104 "java/lang/IllegalStateException" ["java/lang/RuntimeException", "java/lang/Exception"]).filter goodWord)
def wsL_machine_r1 : List Cond := [Cond.classLink RL 13 "java/lang/IllegalArgumentException", Cond.methodLink RL 53 yX10_machine, Cond.instanceMethod yX10_machine, Cond.selects RX10 yX10_machine yX10_machine, Cond.initialized RX10, Cond.code yX10_machine cX10_machine 2 (some .int), Cond.classLink RX10 89 "java/lang/IllegalArgumentException", Cond.initialized "java/lang/IllegalArgumentException", Cond.fieldLink RX10 31 "Gaitwright" "stance" "LGaitwright$Stance;", Cond.fieldLink RX10 216 "Gaitwright$Stance" "bodyX" "I", Cond.fieldLink RX10 219 "Gaitwright$Stance" "bodyY" "I", Cond.fieldLink RX10 73 "Gaitwright" "stands" "Z", Cond.fieldLink RX10 77 "Gaitwright" "energy" "I", Cond.fieldLink RX10 22 "Gaitwright" "frame" "LGaitwright$Frame;", Cond.fieldLink RX10 222 "Gaitwright$Frame" "loadWeight" "I", Cond.fieldLink RX10 48 "Gaitwright" "damage" "LGaitwright$Damage;", Cond.fieldLink RX10 231 "Gaitwright$Damage" "count" "I", Cond.fieldLink RX10 55 "Gaitwright" "falls" "LGaitwright$Falls;", Cond.fieldLink RX10 232 "Gaitwright$Falls" "count" "I", Cond.fieldLink RX10 136 "Gaitwright$Frame" "legs" "I", Cond.fieldLink RX10 62 "Gaitwright" "gait" "LGaitwright$Gait;", Cond.fieldLink RX10 162 "Gaitwright$Gait" "count" "I", Cond.fieldLink RX10 207 "Gaitwright$Gait" "next" "I", Cond.methodLink RX10 225 yX9_level]
def wsL_machine_r2 : List Cond := [Cond.instanceMethod yX9_level, Cond.selects RX9 yX9_level yX9_level, Cond.initialized RX9, Cond.code yX9_level cX9_level 5 (some .int), Cond.fieldLink RX9 14 "Gaitwright$Stance" "feet" "LGaitwright$Row;", Cond.fieldLink RX9 27 "Gaitwright$Stance" "land" "LGaitwright$Land;", Cond.fieldLink RX9 73 "Gaitwright$Land" "mapped" "LGaitwright$Row;", Cond.methodLink RX9 78 Lib.Math.max.name, Cond.static Lib.Math.max.name, Cond.initialized "java/lang/Math", Cond.code Lib.Math.max.name Lib.Math.max.code 2 (some .int), Cond.methodLink RX9 48 yX8_at, Cond.instanceMethod yX8_at, Cond.selects RX8 yX8_at yX8_at, Cond.initialized RX8, Cond.code yX8_at cX8_at 2 (some .int), Cond.fieldLink RX8 7 "Gaitwright$Row" "cells" "[I", Cond.methodLink RX10 228 yX9_pressure, Cond.instanceMethod yX9_pressure, Cond.selects RX9 yX9_pressure yX9_pressure, Cond.code yX9_pressure cX9_pressure 1 (some .int), Cond.fieldLink RX9 31 "Gaitwright$Stance" "frame" "LGaitwright$Frame;", Cond.methodLink RX9 82 yX2_weight, Cond.instanceMethod yX2_weight]
def wsL_machine_r3 : List Cond := [Cond.selects RX2 yX2_weight yX2_weight, Cond.initialized RX2, Cond.code yX2_weight cX2_weight 1 (some .int), Cond.fieldLink RX2 30 "Gaitwright$Frame" "loadWeight" "I", Cond.methodLink RX9 86 yX9_down, Cond.instanceMethod yX9_down, Cond.selects RX9 yX9_down yX9_down, Cond.code yX9_down cX9_down 3 (some .int), Cond.static yX10_roundedUp, Cond.code yX10_roundedUp cX10_roundedUp 2 (some .int), Cond.methodLink RX10 189 yX9_down]
def wsL_machine : List Cond := .codeWith yL_machine cL_machine 4 (some .int) [(0, 9, 12, 13)] :: ((wsL_machine_r1 ++ (wsL_machine_r2 ++ wsL_machine_r3)) ++ wsX100 ++ wsX90 ++ wsX20 ++ wsX00 ++ wsX10 ++ wsX30 ++ wsX50 ++ wsX80 ++ (vx_atS RX10 93 "java/lang/IllegalArgumentException" ["java/lang/RuntimeException", "java/lang/Exception"]).filter goodWord)
def wsL_foot_r1 : List Cond := [Cond.classLink RL 31 "java/lang/IndexOutOfBoundsException", Cond.classLink RL 13 "java/lang/IllegalArgumentException", Cond.methodLink RL 56 yX10_foot, Cond.instanceMethod yX10_foot, Cond.selects RX10 yX10_foot yX10_foot, Cond.initialized RX10, Cond.code yX10_foot cX10_foot 4 (some .int), Cond.classLink RX10 155 "java/lang/IndexOutOfBoundsException", Cond.initialized "java/lang/IndexOutOfBoundsException", Cond.classLink RX10 89 "java/lang/IllegalArgumentException", Cond.initialized "java/lang/IllegalArgumentException", Cond.fieldLink RX10 31 "Gaitwright" "stance" "LGaitwright$Stance;", Cond.fieldLink RX10 235 "Gaitwright$Stance" "feet" "LGaitwright$Row;", Cond.methodLink RX10 152 yX10_isLeg, Cond.instanceMethod yX10_isLeg, Cond.selects RX10 yX10_isLeg yX10_isLeg, Cond.code yX10_isLeg cX10_isLeg 2 (some .boolean), Cond.fieldLink RX10 22 "Gaitwright" "frame" "LGaitwright$Frame;", Cond.fieldLink RX10 136 "Gaitwright$Frame" "legs" "I", Cond.methodLink RX10 109 yX8_at, Cond.instanceMethod yX8_at, Cond.selects RX8 yX8_at yX8_at, Cond.initialized RX8, Cond.code yX8_at cX8_at 2 (some .int)]
def wsL_foot_r2 : List Cond := [Cond.fieldLink RX8 7 "Gaitwright$Row" "cells" "[I", Cond.methodLink RX10 238 yX10_xOf, Cond.static yX10_xOf, Cond.code yX10_xOf cX10_xOf 1 (some .int), Cond.methodLink RX10 241 yX10_yOf, Cond.static yX10_yOf, Cond.code yX10_yOf cX10_yOf 1 (some .int)]
def wsL_foot : List Cond := .codeWith yL_foot cL_foot 5 (some .int) [(0, 10, 13, 31), (0, 10, 17, 13)] :: ((wsL_foot_r1 ++ wsL_foot_r2) ++ wsX100 ++ wsX90 ++ wsX20 ++ wsX80 ++ (vx_atS RX10 159 "java/lang/IndexOutOfBoundsException" ["java/lang/RuntimeException", "java/lang/Exception"]).filter goodWord ++ (vx_atS RX10 93 "java/lang/IllegalArgumentException" ["java/lang/RuntimeException", "java/lang/Exception"]).filter goodWord)
def wsL_point : List Cond := .codeWith yL_point cL_point 6 (some .int) [(0, 12, 15, 13)] :: ([.classLink RL 13 "java/lang/IllegalArgumentException", .methodLink RL 59 yX10_point, .instanceMethod yX10_point, .selects RX10 yX10_point yX10_point, .initialized RX10, .code yX10_point cX10_point 5 (some .int), .classLink RX10 89 "java/lang/IllegalArgumentException", .initialized "java/lang/IllegalArgumentException", .fieldLink RX10 15 "Gaitwright" "land" "LGaitwright$Land;", .fieldLink RX10 105 "Gaitwright$Land" "height" "LGaitwright$Row;", .fieldLink RX10 119 "Gaitwright$Land" "firmness" "LGaitwright$Row;", .fieldLink RX10 122 "Gaitwright$Land" "grip" "LGaitwright$Row;", .fieldLink RX10 127 "Gaitwright$Land" "mapped" "LGaitwright$Row;", .methodLink RX10 81 yX10_pointAt, .static yX10_pointAt, .code yX10_pointAt cX10_pointAt 2 (some .int), .methodLink RX10 109 yX8_at, .instanceMethod yX8_at, .selects RX8 yX8_at yX8_at, .initialized RX8, .code yX8_at cX8_at 2 (some .int), .fieldLink RX8 7 "Gaitwright$Row" "cells" "[I"] ++ wsX100 ++ wsX50 ++ wsX80 ++ (vx_atS RX10 93 "java/lang/IllegalArgumentException" ["java/lang/RuntimeException", "java/lang/Exception"]).filter goodWord)
def wsL_corner_r1 : List Cond := [Cond.classLink RL 13 "java/lang/IllegalArgumentException", Cond.methodLink RL 62 yX10_corner, Cond.instanceMethod yX10_corner, Cond.selects RX10 yX10_corner yX10_corner, Cond.initialized RX10, Cond.code yX10_corner cX10_corner 2 (some .int), Cond.classLink RX10 89 "java/lang/IllegalArgumentException", Cond.initialized "java/lang/IllegalArgumentException", Cond.fieldLink RX10 31 "Gaitwright" "stance" "LGaitwright$Stance;", Cond.fieldLink RX10 264 "Gaitwright$Stance" "hull" "LGaitwright$Hull;", Cond.fieldLink RX10 235 "Gaitwright$Stance" "feet" "LGaitwright$Row;", Cond.fieldLink RX10 268 "Gaitwright$Hull" "size" "I", Cond.fieldLink RX10 285 "Gaitwright$Hull" "corners" "LGaitwright$Row;", Cond.methodLink RX10 281 yX4_wrap, Cond.instanceMethod yX4_wrap, Cond.selects RX4 yX4_wrap yX4_wrap, Cond.initialized RX4, Cond.code yX4_wrap cX4_wrap 8 none, Cond.fieldLink RX4 20 "Gaitwright$Hull" "points" "LGaitwright$Row;", Cond.methodLink RX4 34 Lib.Math.min.name, Cond.static Lib.Math.min.name, Cond.initialized "java/lang/Math", Cond.code Lib.Math.min.name Lib.Math.min.code 2 (some .int), Cond.fieldLink RX4 23 "Gaitwright$Hull" "size" "I"]
def wsL_corner_r2 : List Cond := [Cond.fieldLink RX4 14 "Gaitwright$Hull" "corners" "LGaitwright$Row;", Cond.methodLink RX4 27 yX8_at, Cond.instanceMethod yX8_at, Cond.selects RX8 yX8_at yX8_at, Cond.initialized RX8, Cond.code yX8_at cX8_at 2 (some .int), Cond.fieldLink RX8 7 "Gaitwright$Row" "cells" "[I", Cond.methodLink RX4 31 yX8_put, Cond.instanceMethod yX8_put, Cond.selects RX8 yX8_put yX8_put, Cond.code yX8_put cX8_put 3 none, Cond.methodLink RX4 40 yX4_isFurtherOut, Cond.static yX4_isFurtherOut, Cond.code yX4_isFurtherOut cX4_isFurtherOut 8 (some .boolean), Cond.methodLink RX10 109 yX8_at]
def wsL_corner : List Cond := .codeWith yL_corner cL_corner 4 (some .int) [(0, 9, 12, 13)] :: ((wsL_corner_r1 ++ wsL_corner_r2) ++ wsX100 ++ wsX90 ++ wsX40 ++ wsX80 ++ (vx_atS RX10 93 "java/lang/IllegalArgumentException" ["java/lang/RuntimeException", "java/lang/Exception"]).filter goodWord)
def wsL_foothold_r1 : List Cond := [Cond.classLink RL 31 "java/lang/IndexOutOfBoundsException", Cond.methodLink RL 65 yX10_foothold, Cond.instanceMethod yX10_foothold, Cond.selects RX10 yX10_foothold yX10_foothold, Cond.initialized RX10, Cond.code yX10_foothold cX10_foothold 2 (some .int), Cond.classLink RX10 155 "java/lang/IndexOutOfBoundsException", Cond.initialized "java/lang/IndexOutOfBoundsException", Cond.fieldLink RX10 31 "Gaitwright" "stance" "LGaitwright$Stance;", Cond.methodLink RX10 152 yX10_isLeg, Cond.instanceMethod yX10_isLeg, Cond.selects RX10 yX10_isLeg yX10_isLeg, Cond.code yX10_isLeg cX10_isLeg 2 (some .boolean), Cond.fieldLink RX10 22 "Gaitwright" "frame" "LGaitwright$Frame;", Cond.fieldLink RX10 136 "Gaitwright$Frame" "legs" "I", Cond.methodLink RX10 288 yX9_bestPoint, Cond.instanceMethod yX9_bestPoint, Cond.selects RX9 yX9_bestPoint yX9_bestPoint, Cond.initialized RX9, Cond.code yX9_bestPoint cX9_bestPoint 14 (some .int), Cond.fieldLink RX9 31 "Gaitwright$Stance" "frame" "LGaitwright$Frame;", Cond.fieldLink RX9 65 "Gaitwright$Frame" "reach" "LGaitwright$Row;", Cond.constant RX9 155 (2147483647), Cond.methodLink RX9 68 Lib.Math.abs.name]
def wsL_foothold_r2 : List Cond := [Cond.static Lib.Math.abs.name, Cond.initialized "java/lang/Math", Cond.code Lib.Math.abs.name Lib.Math.abs.code 1 (some .int), Cond.fieldLink RX9 27 "Gaitwright$Stance" "land" "LGaitwright$Land;", Cond.fieldLink RX9 73 "Gaitwright$Land" "mapped" "LGaitwright$Row;", Cond.methodLink RX9 152 yX9_level, Cond.instanceMethod yX9_level, Cond.selects RX9 yX9_level yX9_level, Cond.code yX9_level cX9_level 5 (some .int), Cond.fieldLink RX9 14 "Gaitwright$Stance" "feet" "LGaitwright$Row;", Cond.methodLink RX9 78 Lib.Math.max.name, Cond.static Lib.Math.max.name, Cond.code Lib.Math.max.name Lib.Math.max.code 2 (some .int), Cond.methodLink RX9 48 yX8_at, Cond.instanceMethod yX8_at, Cond.selects RX8 yX8_at yX8_at, Cond.initialized RX8, Cond.code yX8_at cX8_at 2 (some .int), Cond.fieldLink RX8 7 "Gaitwright$Row" "cells" "[I", Cond.methodLink RX9 58 yX9_hipX, Cond.instanceMethod yX9_hipX, Cond.selects RX9 yX9_hipX yX9_hipX, Cond.code yX9_hipX cX9_hipX 2 (some .int), Cond.fieldLink RX9 20 "Gaitwright$Stance" "bodyX" "I"]
def wsL_foothold_r3 : List Cond := [Cond.fieldLink RX9 43 "Gaitwright$Frame" "hipX" "LGaitwright$Row;", Cond.methodLink RX9 63 yX9_hipY, Cond.instanceMethod yX9_hipY, Cond.selects RX9 yX9_hipY yX9_hipY, Cond.code yX9_hipY cX9_hipY 2 (some .int), Cond.fieldLink RX9 24 "Gaitwright$Stance" "bodyY" "I", Cond.fieldLink RX9 52 "Gaitwright$Frame" "hipY" "LGaitwright$Row;", Cond.static yX10_pointAt, Cond.code yX10_pointAt cX10_pointAt 2 (some .int), Cond.methodLink RX9 156 yX9_isTaken, Cond.instanceMethod yX9_isTaken, Cond.selects RX9 yX9_isTaken yX9_isTaken, Cond.code yX9_isTaken cX9_isTaken 4 (some .boolean)]
def wsL_foothold : List Cond := .codeWith yL_foothold cL_foothold 4 (some .int) [(0, 9, 12, 31)] :: ((wsL_foothold_r1 ++ (wsL_foothold_r2 ++ wsL_foothold_r3)) ++ wsX100 ++ wsX20 ++ wsX90 ++ wsX50 ++ wsX80 ++ (vx_atS RX10 159 "java/lang/IndexOutOfBoundsException" ["java/lang/RuntimeException", "java/lang/Exception"]).filter goodWord)
def wsL_wouldLift_r1 : List Cond := [Cond.classLink RL 31 "java/lang/IndexOutOfBoundsException", Cond.methodLink RL 68 yX10_wouldLift, Cond.instanceMethod yX10_wouldLift, Cond.selects RX10 yX10_wouldLift yX10_wouldLift, Cond.initialized RX10, Cond.code yX10_wouldLift cX10_wouldLift 2 (some .int), Cond.classLink RX10 155 "java/lang/IndexOutOfBoundsException", Cond.initialized "java/lang/IndexOutOfBoundsException", Cond.fieldLink RX10 35 "Gaitwright" "trial" "LGaitwright$Stance;", Cond.fieldLink RX10 31 "Gaitwright" "stance" "LGaitwright$Stance;", Cond.fieldLink RX10 235 "Gaitwright$Stance" "feet" "LGaitwright$Row;", Cond.methodLink RX10 152 yX10_isLeg, Cond.instanceMethod yX10_isLeg, Cond.selects RX10 yX10_isLeg yX10_isLeg, Cond.code yX10_isLeg cX10_isLeg 2 (some .boolean), Cond.fieldLink RX10 22 "Gaitwright" "frame" "LGaitwright$Frame;", Cond.fieldLink RX10 136 "Gaitwright$Frame" "legs" "I", Cond.methodLink RX10 291 yX10_mayLift, Cond.instanceMethod yX10_mayLift, Cond.selects RX10 yX10_mayLift yX10_mayLift, Cond.code yX10_mayLift cX10_mayLift 2 (some .boolean), Cond.fieldLink RX10 73 "Gaitwright" "stands" "Z", Cond.fieldLink RX10 77 "Gaitwright" "energy" "I", Cond.methodLink RX10 109 yX8_at]
def wsL_wouldLift_r2 : List Cond := [Cond.instanceMethod yX8_at, Cond.selects RX8 yX8_at yX8_at, Cond.initialized RX8, Cond.code yX8_at cX8_at 2 (some .int), Cond.fieldLink RX8 7 "Gaitwright$Row" "cells" "[I", Cond.methodLink RX10 244 yX9_holdsWithout, Cond.instanceMethod yX9_holdsWithout, Cond.selects RX9 yX9_holdsWithout yX9_holdsWithout, Cond.initialized RX9, Cond.code yX9_holdsWithout cX9_holdsWithout 2 (some .boolean), Cond.fieldLink RX9 35 "Gaitwright$Stance" "hull" "LGaitwright$Hull;", Cond.fieldLink RX9 14 "Gaitwright$Stance" "feet" "LGaitwright$Row;", Cond.fieldLink RX9 31 "Gaitwright$Stance" "frame" "LGaitwright$Frame;", Cond.methodLink RX9 117 yX4_wrap, Cond.instanceMethod yX4_wrap, Cond.selects RX4 yX4_wrap yX4_wrap, Cond.initialized RX4, Cond.code yX4_wrap cX4_wrap 8 none, Cond.fieldLink RX4 20 "Gaitwright$Hull" "points" "LGaitwright$Row;", Cond.methodLink RX4 34 Lib.Math.min.name, Cond.static Lib.Math.min.name, Cond.initialized "java/lang/Math", Cond.code Lib.Math.min.name Lib.Math.min.code 2 (some .int), Cond.fieldLink RX4 23 "Gaitwright$Hull" "size" "I"]
def wsL_wouldLift_r3 : List Cond := [Cond.fieldLink RX4 14 "Gaitwright$Hull" "corners" "LGaitwright$Row;", Cond.methodLink RX4 27 yX8_at, Cond.methodLink RX4 31 yX8_put, Cond.instanceMethod yX8_put, Cond.selects RX8 yX8_put yX8_put, Cond.code yX8_put cX8_put 3 none, Cond.methodLink RX4 40 yX4_isFurtherOut, Cond.static yX4_isFurtherOut, Cond.code yX4_isFurtherOut cX4_isFurtherOut 8 (some .boolean), Cond.methodLink RX9 123 yX9_momentX, Cond.instanceMethod yX9_momentX, Cond.selects RX9 yX9_momentX yX9_momentX, Cond.code yX9_momentX cX9_momentX 1 (some .int), Cond.fieldLink RX9 20 "Gaitwright$Stance" "bodyX" "I", Cond.fieldLink RX9 108 "Gaitwright$Frame" "loadWeight" "I", Cond.fieldLink RX9 111 "Gaitwright$Frame" "loadX" "I", Cond.methodLink RX9 126 yX9_momentY, Cond.instanceMethod yX9_momentY, Cond.selects RX9 yX9_momentY yX9_momentY, Cond.code yX9_momentY cX9_momentY 1 (some .int), Cond.fieldLink RX9 24 "Gaitwright$Stance" "bodyY" "I", Cond.fieldLink RX9 114 "Gaitwright$Frame" "loadY" "I", Cond.methodLink RX9 82 yX2_weight, Cond.instanceMethod yX2_weight]
def wsL_wouldLift_r4 : List Cond := [Cond.selects RX2 yX2_weight yX2_weight, Cond.initialized RX2, Cond.code yX2_weight cX2_weight 1 (some .int), Cond.fieldLink RX2 30 "Gaitwright$Frame" "loadWeight" "I", Cond.methodLink RX9 129 yX4_holds, Cond.instanceMethod yX4_holds, Cond.selects RX4 yX4_holds yX4_holds, Cond.code yX4_holds cX4_holds 10 (some .boolean), Cond.constant RX4 46 (2147483647), Cond.constant RX4 47 (-2147483648), Cond.methodLink RX4 52 Lib.Math.max.name, Cond.static Lib.Math.max.name, Cond.code Lib.Math.max.name Lib.Math.max.code 2 (some .int), Cond.methodLink RX4 48 yX4_edgeByWay, Cond.static yX4_edgeByWay, Cond.code yX4_edgeByWay cX4_edgeByWay 5 (some .int), Cond.static yX10_isWithin, Cond.code yX10_isWithin cX10_isWithin 3 (some .boolean), Cond.methodLink RX10 294 yX9_copy, Cond.instanceMethod yX9_copy, Cond.selects RX9 yX9_copy yX9_copy, Cond.code yX9_copy cX9_copy 2 none, Cond.methodLink RX9 39 yX8_copy, Cond.instanceMethod yX8_copy]
def wsL_wouldLift_r5 : List Cond := [Cond.selects RX8 yX8_copy yX8_copy, Cond.code yX8_copy cX8_copy 3 none, Cond.methodLink RX8 19 yX8_at, Cond.methodLink RX10 115 yX8_put, Cond.methodLink RX10 298 yX9_sinkAway, Cond.instanceMethod yX9_sinkAway, Cond.selects RX9 yX9_sinkAway yX9_sinkAway, Cond.code yX9_sinkAway cX9_sinkAway 4 (some .boolean), Cond.methodLink RX9 101 yX9_sinking, Cond.instanceMethod yX9_sinking, Cond.selects RX9 yX9_sinking yX9_sinking, Cond.code yX9_sinking cX9_sinking 5 (some .int), Cond.fieldLink RX9 27 "Gaitwright$Stance" "land" "LGaitwright$Land;", Cond.fieldLink RX9 95 "Gaitwright$Land" "firmness" "LGaitwright$Row;", Cond.methodLink RX9 92 yX9_pressure, Cond.instanceMethod yX9_pressure, Cond.selects RX9 yX9_pressure yX9_pressure, Cond.code yX9_pressure cX9_pressure 1 (some .int), Cond.methodLink RX9 86 yX9_down, Cond.instanceMethod yX9_down, Cond.selects RX9 yX9_down yX9_down, Cond.code yX9_down cX9_down 3 (some .int), Cond.methodLink RX9 48 yX8_at, Cond.static yX10_roundedUp]
def wsL_wouldLift_r6 : List Cond := [Cond.code yX10_roundedUp cX10_roundedUp 2 (some .int), Cond.methodLink RX9 104 yX9_raise, Cond.instanceMethod yX9_raise, Cond.selects RX9 yX9_raise yX9_raise, Cond.code yX9_raise cX9_raise 3 none, Cond.methodLink RX9 98 yX8_put]
def wsL_wouldLift : List Cond := .codeWith yL_wouldLift cL_wouldLift 4 (some .int) [(0, 9, 12, 31)] :: ((wsL_wouldLift_r1 ++ (wsL_wouldLift_r2 ++ (wsL_wouldLift_r3 ++ (wsL_wouldLift_r4 ++ (wsL_wouldLift_r5 ++ wsL_wouldLift_r6))))) ++ wsX100 ++ wsX90 ++ wsX20 ++ wsX80 ++ wsX40 ++ wsX50 ++ (vx_atS RX10 159 "java/lang/IndexOutOfBoundsException" ["java/lang/RuntimeException", "java/lang/Exception"]).filter goodWord)
def wsL_fewest_r1 : List Cond := [Cond.classLink RL 13 "java/lang/IllegalArgumentException", Cond.methodLink RL 71 yX10_fewest, Cond.instanceMethod yX10_fewest, Cond.selects RX10 yX10_fewest yX10_fewest, Cond.initialized RX10, Cond.code yX10_fewest cX10_fewest 5 (some .int), Cond.classLink RX10 89 "java/lang/IllegalArgumentException", Cond.initialized "java/lang/IllegalArgumentException", Cond.fieldLink RX10 73 "Gaitwright" "stands" "Z", Cond.fieldLink RX10 69 "Gaitwright" "planner" "LGaitwright$Planner;", Cond.fieldLink RX10 31 "Gaitwright" "stance" "LGaitwright$Stance;", Cond.methodLink RX10 81 yX10_pointAt, Cond.static yX10_pointAt, Cond.code yX10_pointAt cX10_pointAt 2 (some .int), Cond.methodLink RX10 301 yX7_start, Cond.instanceMethod yX7_start, Cond.selects RX7 yX7_start yX7_start, Cond.initialized RX7, Cond.code yX7_start cX7_start 3 none, Cond.fieldLink RX7 17 "Gaitwright$Planner" "goal" "I", Cond.fieldLink RX7 11 "Gaitwright$Planner" "behind" "[LGaitwright$Stance;", Cond.methodLink RX7 28 yX9_copy, Cond.instanceMethod yX9_copy, Cond.selects RX9 yX9_copy yX9_copy]
def wsL_fewest_r2 : List Cond := [Cond.initialized RX9, Cond.code yX9_copy cX9_copy 2 none, Cond.fieldLink RX9 20 "Gaitwright$Stance" "bodyX" "I", Cond.fieldLink RX9 24 "Gaitwright$Stance" "bodyY" "I", Cond.fieldLink RX9 14 "Gaitwright$Stance" "feet" "LGaitwright$Row;", Cond.methodLink RX9 39 yX8_copy, Cond.instanceMethod yX8_copy, Cond.selects RX8 yX8_copy yX8_copy, Cond.initialized RX8, Cond.code yX8_copy cX8_copy 3 none, Cond.fieldLink RX8 7 "Gaitwright$Row" "cells" "[I", Cond.methodLink RX8 19 yX8_at, Cond.instanceMethod yX8_at, Cond.selects RX8 yX8_at yX8_at, Cond.code yX8_at cX8_at 2 (some .int), Cond.methodLink RX10 305 yX7_away, Cond.instanceMethod yX7_away, Cond.selects RX7 yX7_away yX7_away, Cond.code yX7_away cX7_away 2 (some .int), Cond.fieldLink RX7 32 "Gaitwright$Stance" "bodyX" "I", Cond.methodLink RX7 39 Lib.Math.abs.name, Cond.static Lib.Math.abs.name, Cond.initialized "java/lang/Math", Cond.code Lib.Math.abs.name Lib.Math.abs.code 1 (some .int)]
def wsL_fewest_r3 : List Cond := [Cond.fieldLink RX7 44 "Gaitwright$Stance" "bodyY" "I", Cond.static yX10_xOf, Cond.code yX10_xOf cX10_xOf 1 (some .int), Cond.static yX10_yOf, Cond.code yX10_yOf cX10_yOf 1 (some .int), Cond.methodLink RX10 308 yX10_isReachedBy, Cond.static yX10_isReachedBy, Cond.code yX10_isReachedBy cX10_isReachedBy 5 (some .boolean), Cond.methodLink RX10 432 yX7_isMade, Cond.instanceMethod yX7_isMade, Cond.selects RX7 yX7_isMade yX7_isMade, Cond.code yX7_isMade cX7_isMade 4 (some .boolean), Cond.fieldLink RX7 21 "Gaitwright$Planner" "frame" "LGaitwright$Frame;", Cond.fieldLink RX7 54 "Gaitwright$Frame" "legs" "I", Cond.methodLink RX7 50 yX9_moveBody, Cond.instanceMethod yX9_moveBody, Cond.selects RX9 yX9_moveBody yX9_moveBody, Cond.code yX9_moveBody cX9_moveBody 5 (some .boolean), Cond.methodLink RX9 48 yX8_at, Cond.methodLink RX9 141 yX9_isInReach, Cond.instanceMethod yX9_isInReach, Cond.selects RX9 yX9_isInReach yX9_isInReach, Cond.code yX9_isInReach cX9_isInReach 6 (some .boolean), Cond.fieldLink RX9 31 "Gaitwright$Stance" "frame" "LGaitwright$Frame;"]
def wsL_fewest_r4 : List Cond := [Cond.fieldLink RX9 65 "Gaitwright$Frame" "reach" "LGaitwright$Row;", Cond.methodLink RX9 58 yX9_hipX, Cond.instanceMethod yX9_hipX, Cond.selects RX9 yX9_hipX yX9_hipX, Cond.code yX9_hipX cX9_hipX 2 (some .int), Cond.fieldLink RX9 43 "Gaitwright$Frame" "hipX" "LGaitwright$Row;", Cond.methodLink RX9 63 yX9_hipY, Cond.instanceMethod yX9_hipY, Cond.selects RX9 yX9_hipY yX9_hipY, Cond.code yX9_hipY cX9_hipY 2 (some .int), Cond.fieldLink RX9 52 "Gaitwright$Frame" "hipY" "LGaitwright$Row;", Cond.methodLink RX9 145 yX9_holdsWithout, Cond.instanceMethod yX9_holdsWithout, Cond.selects RX9 yX9_holdsWithout yX9_holdsWithout, Cond.code yX9_holdsWithout cX9_holdsWithout 2 (some .boolean), Cond.fieldLink RX9 35 "Gaitwright$Stance" "hull" "LGaitwright$Hull;", Cond.methodLink RX9 117 yX4_wrap, Cond.instanceMethod yX4_wrap, Cond.selects RX4 yX4_wrap yX4_wrap, Cond.initialized RX4, Cond.code yX4_wrap cX4_wrap 8 none, Cond.fieldLink RX4 20 "Gaitwright$Hull" "points" "LGaitwright$Row;", Cond.methodLink RX4 34 Lib.Math.min.name, Cond.static Lib.Math.min.name]
def wsL_fewest_r5 : List Cond := [Cond.code Lib.Math.min.name Lib.Math.min.code 2 (some .int), Cond.fieldLink RX4 23 "Gaitwright$Hull" "size" "I", Cond.fieldLink RX4 14 "Gaitwright$Hull" "corners" "LGaitwright$Row;", Cond.methodLink RX4 27 yX8_at, Cond.methodLink RX4 31 yX8_put, Cond.instanceMethod yX8_put, Cond.selects RX8 yX8_put yX8_put, Cond.code yX8_put cX8_put 3 none, Cond.methodLink RX4 40 yX4_isFurtherOut, Cond.static yX4_isFurtherOut, Cond.code yX4_isFurtherOut cX4_isFurtherOut 8 (some .boolean), Cond.methodLink RX9 123 yX9_momentX, Cond.instanceMethod yX9_momentX, Cond.selects RX9 yX9_momentX yX9_momentX, Cond.code yX9_momentX cX9_momentX 1 (some .int), Cond.fieldLink RX9 108 "Gaitwright$Frame" "loadWeight" "I", Cond.fieldLink RX9 111 "Gaitwright$Frame" "loadX" "I", Cond.methodLink RX9 126 yX9_momentY, Cond.instanceMethod yX9_momentY, Cond.selects RX9 yX9_momentY yX9_momentY, Cond.code yX9_momentY cX9_momentY 1 (some .int), Cond.fieldLink RX9 114 "Gaitwright$Frame" "loadY" "I", Cond.methodLink RX9 82 yX2_weight, Cond.instanceMethod yX2_weight]
def wsL_fewest_r6 : List Cond := [Cond.selects RX2 yX2_weight yX2_weight, Cond.initialized RX2, Cond.code yX2_weight cX2_weight 1 (some .int), Cond.fieldLink RX2 30 "Gaitwright$Frame" "loadWeight" "I", Cond.methodLink RX9 129 yX4_holds, Cond.instanceMethod yX4_holds, Cond.selects RX4 yX4_holds yX4_holds, Cond.code yX4_holds cX4_holds 10 (some .boolean), Cond.constant RX4 46 (2147483647), Cond.constant RX4 47 (-2147483648), Cond.methodLink RX4 52 Lib.Math.max.name, Cond.static Lib.Math.max.name, Cond.code Lib.Math.max.name Lib.Math.max.code 2 (some .int), Cond.methodLink RX4 48 yX4_edgeByWay, Cond.static yX4_edgeByWay, Cond.code yX4_edgeByWay cX4_edgeByWay 5 (some .int), Cond.static yX10_isWithin, Cond.code yX10_isWithin cX10_isWithin 3 (some .boolean), Cond.methodLink RX7 59 yX9_step, Cond.instanceMethod yX9_step, Cond.selects RX9 yX9_step yX9_step, Cond.code yX9_step cX9_step 3 (some .boolean), Cond.methodLink RX9 149 yX9_bestPoint, Cond.instanceMethod yX9_bestPoint]
def wsL_fewest_r7 : List Cond := [Cond.selects RX9 yX9_bestPoint yX9_bestPoint, Cond.code yX9_bestPoint cX9_bestPoint 14 (some .int), Cond.constant RX9 155 (2147483647), Cond.methodLink RX9 68 Lib.Math.abs.name, Cond.fieldLink RX9 27 "Gaitwright$Stance" "land" "LGaitwright$Land;", Cond.fieldLink RX9 73 "Gaitwright$Land" "mapped" "LGaitwright$Row;", Cond.methodLink RX9 152 yX9_level, Cond.instanceMethod yX9_level, Cond.selects RX9 yX9_level yX9_level, Cond.code yX9_level cX9_level 5 (some .int), Cond.methodLink RX9 78 Lib.Math.max.name, Cond.methodLink RX9 156 yX9_isTaken, Cond.instanceMethod yX9_isTaken, Cond.selects RX9 yX9_isTaken yX9_isTaken, Cond.code yX9_isTaken cX9_isTaken 4 (some .boolean), Cond.methodLink RX9 98 yX8_put]
def wsL_fewest : List Cond := .codeWith yL_fewest cL_fewest 5 (some .int) [(0, 10, 13, 13)] :: ((wsL_fewest_r1 ++ (wsL_fewest_r2 ++ (wsL_fewest_r3 ++ (wsL_fewest_r4 ++ (wsL_fewest_r5 ++ (wsL_fewest_r6 ++ wsL_fewest_r7)))))) ++ wsX100 ++ wsX70 ++ wsX90 ++ wsX80 ++ wsX20 ++ wsX40 ++ wsX50 ++ (vx_atS RX10 93 "java/lang/IllegalArgumentException" ["java/lang/RuntimeException", "java/lang/Exception"]).filter goodWord)
def wsL_fewestAnew_r1 : List Cond := [Cond.classLink RL 13 "java/lang/IllegalArgumentException", Cond.methodLink RL 74 yX10_fewestAnew, Cond.instanceMethod yX10_fewestAnew, Cond.selects RX10 yX10_fewestAnew yX10_fewestAnew, Cond.initialized RX10, Cond.code yX10_fewestAnew cX10_fewestAnew 5 (some .int), Cond.classLink RX10 89 "java/lang/IllegalArgumentException", Cond.initialized "java/lang/IllegalArgumentException", Cond.fieldLink RX10 73 "Gaitwright" "stands" "Z", Cond.fieldLink RX10 69 "Gaitwright" "planner" "LGaitwright$Planner;", Cond.fieldLink RX10 31 "Gaitwright" "stance" "LGaitwright$Stance;", Cond.methodLink RX10 81 yX10_pointAt, Cond.static yX10_pointAt, Cond.code yX10_pointAt cX10_pointAt 2 (some .int), Cond.methodLink RX10 301 yX7_start, Cond.instanceMethod yX7_start, Cond.selects RX7 yX7_start yX7_start, Cond.initialized RX7, Cond.code yX7_start cX7_start 3 none, Cond.fieldLink RX7 17 "Gaitwright$Planner" "goal" "I", Cond.fieldLink RX7 11 "Gaitwright$Planner" "behind" "[LGaitwright$Stance;", Cond.methodLink RX7 28 yX9_copy, Cond.instanceMethod yX9_copy, Cond.selects RX9 yX9_copy yX9_copy]
def wsL_fewestAnew_r2 : List Cond := [Cond.initialized RX9, Cond.code yX9_copy cX9_copy 2 none, Cond.fieldLink RX9 20 "Gaitwright$Stance" "bodyX" "I", Cond.fieldLink RX9 24 "Gaitwright$Stance" "bodyY" "I", Cond.fieldLink RX9 14 "Gaitwright$Stance" "feet" "LGaitwright$Row;", Cond.methodLink RX9 39 yX8_copy, Cond.instanceMethod yX8_copy, Cond.selects RX8 yX8_copy yX8_copy, Cond.initialized RX8, Cond.code yX8_copy cX8_copy 3 none, Cond.fieldLink RX8 7 "Gaitwright$Row" "cells" "[I", Cond.methodLink RX8 19 yX8_at, Cond.instanceMethod yX8_at, Cond.selects RX8 yX8_at yX8_at, Cond.code yX8_at cX8_at 2 (some .int), Cond.methodLink RX10 312 yX10_shortestRow, Cond.static yX10_shortestRow, Cond.code yX10_shortestRow cX10_shortestRow 4 (some .int), Cond.methodLink RX10 147 Lib.Math.min.name, Cond.static Lib.Math.min.name, Cond.initialized "java/lang/Math", Cond.code Lib.Math.min.name Lib.Math.min.code 2 (some .int), Cond.methodLink RX10 305 yX7_away, Cond.instanceMethod yX7_away]
def wsL_fewestAnew_r3 : List Cond := [Cond.selects RX7 yX7_away yX7_away, Cond.code yX7_away cX7_away 2 (some .int), Cond.fieldLink RX7 32 "Gaitwright$Stance" "bodyX" "I", Cond.methodLink RX7 39 Lib.Math.abs.name, Cond.static Lib.Math.abs.name, Cond.code Lib.Math.abs.name Lib.Math.abs.code 1 (some .int), Cond.fieldLink RX7 44 "Gaitwright$Stance" "bodyY" "I", Cond.static yX10_xOf, Cond.code yX10_xOf cX10_xOf 1 (some .int), Cond.static yX10_yOf, Cond.code yX10_yOf cX10_yOf 1 (some .int), Cond.methodLink RX10 432 yX7_isMade, Cond.instanceMethod yX7_isMade, Cond.selects RX7 yX7_isMade yX7_isMade, Cond.code yX7_isMade cX7_isMade 4 (some .boolean), Cond.fieldLink RX7 21 "Gaitwright$Planner" "frame" "LGaitwright$Frame;", Cond.fieldLink RX7 54 "Gaitwright$Frame" "legs" "I", Cond.methodLink RX7 50 yX9_moveBody, Cond.instanceMethod yX9_moveBody, Cond.selects RX9 yX9_moveBody yX9_moveBody, Cond.code yX9_moveBody cX9_moveBody 5 (some .boolean), Cond.methodLink RX9 48 yX8_at, Cond.methodLink RX9 141 yX9_isInReach, Cond.instanceMethod yX9_isInReach]
def wsL_fewestAnew_r4 : List Cond := [Cond.selects RX9 yX9_isInReach yX9_isInReach, Cond.code yX9_isInReach cX9_isInReach 6 (some .boolean), Cond.fieldLink RX9 31 "Gaitwright$Stance" "frame" "LGaitwright$Frame;", Cond.fieldLink RX9 65 "Gaitwright$Frame" "reach" "LGaitwright$Row;", Cond.methodLink RX9 58 yX9_hipX, Cond.instanceMethod yX9_hipX, Cond.selects RX9 yX9_hipX yX9_hipX, Cond.code yX9_hipX cX9_hipX 2 (some .int), Cond.fieldLink RX9 43 "Gaitwright$Frame" "hipX" "LGaitwright$Row;", Cond.methodLink RX9 63 yX9_hipY, Cond.instanceMethod yX9_hipY, Cond.selects RX9 yX9_hipY yX9_hipY, Cond.code yX9_hipY cX9_hipY 2 (some .int), Cond.fieldLink RX9 52 "Gaitwright$Frame" "hipY" "LGaitwright$Row;", Cond.methodLink RX9 145 yX9_holdsWithout, Cond.instanceMethod yX9_holdsWithout, Cond.selects RX9 yX9_holdsWithout yX9_holdsWithout, Cond.code yX9_holdsWithout cX9_holdsWithout 2 (some .boolean), Cond.fieldLink RX9 35 "Gaitwright$Stance" "hull" "LGaitwright$Hull;", Cond.methodLink RX9 117 yX4_wrap, Cond.instanceMethod yX4_wrap, Cond.selects RX4 yX4_wrap yX4_wrap, Cond.initialized RX4, Cond.code yX4_wrap cX4_wrap 8 none]
def wsL_fewestAnew_r5 : List Cond := [Cond.fieldLink RX4 20 "Gaitwright$Hull" "points" "LGaitwright$Row;", Cond.methodLink RX4 34 Lib.Math.min.name, Cond.fieldLink RX4 23 "Gaitwright$Hull" "size" "I", Cond.fieldLink RX4 14 "Gaitwright$Hull" "corners" "LGaitwright$Row;", Cond.methodLink RX4 27 yX8_at, Cond.methodLink RX4 31 yX8_put, Cond.instanceMethod yX8_put, Cond.selects RX8 yX8_put yX8_put, Cond.code yX8_put cX8_put 3 none, Cond.methodLink RX4 40 yX4_isFurtherOut, Cond.static yX4_isFurtherOut, Cond.code yX4_isFurtherOut cX4_isFurtherOut 8 (some .boolean), Cond.methodLink RX9 123 yX9_momentX, Cond.instanceMethod yX9_momentX, Cond.selects RX9 yX9_momentX yX9_momentX, Cond.code yX9_momentX cX9_momentX 1 (some .int), Cond.fieldLink RX9 108 "Gaitwright$Frame" "loadWeight" "I", Cond.fieldLink RX9 111 "Gaitwright$Frame" "loadX" "I", Cond.methodLink RX9 126 yX9_momentY, Cond.instanceMethod yX9_momentY, Cond.selects RX9 yX9_momentY yX9_momentY, Cond.code yX9_momentY cX9_momentY 1 (some .int), Cond.fieldLink RX9 114 "Gaitwright$Frame" "loadY" "I", Cond.methodLink RX9 82 yX2_weight]
def wsL_fewestAnew_r6 : List Cond := [Cond.instanceMethod yX2_weight, Cond.selects RX2 yX2_weight yX2_weight, Cond.initialized RX2, Cond.code yX2_weight cX2_weight 1 (some .int), Cond.fieldLink RX2 30 "Gaitwright$Frame" "loadWeight" "I", Cond.methodLink RX9 129 yX4_holds, Cond.instanceMethod yX4_holds, Cond.selects RX4 yX4_holds yX4_holds, Cond.code yX4_holds cX4_holds 10 (some .boolean), Cond.constant RX4 46 (2147483647), Cond.constant RX4 47 (-2147483648), Cond.methodLink RX4 52 Lib.Math.max.name, Cond.static Lib.Math.max.name, Cond.code Lib.Math.max.name Lib.Math.max.code 2 (some .int), Cond.methodLink RX4 48 yX4_edgeByWay, Cond.static yX4_edgeByWay, Cond.code yX4_edgeByWay cX4_edgeByWay 5 (some .int), Cond.static yX10_isWithin, Cond.code yX10_isWithin cX10_isWithin 3 (some .boolean), Cond.methodLink RX7 59 yX9_step, Cond.instanceMethod yX9_step, Cond.selects RX9 yX9_step yX9_step, Cond.code yX9_step cX9_step 3 (some .boolean), Cond.methodLink RX9 149 yX9_bestPoint]
def wsL_fewestAnew_r7 : List Cond := [Cond.instanceMethod yX9_bestPoint, Cond.selects RX9 yX9_bestPoint yX9_bestPoint, Cond.code yX9_bestPoint cX9_bestPoint 14 (some .int), Cond.constant RX9 155 (2147483647), Cond.methodLink RX9 68 Lib.Math.abs.name, Cond.fieldLink RX9 27 "Gaitwright$Stance" "land" "LGaitwright$Land;", Cond.fieldLink RX9 73 "Gaitwright$Land" "mapped" "LGaitwright$Row;", Cond.methodLink RX9 152 yX9_level, Cond.instanceMethod yX9_level, Cond.selects RX9 yX9_level yX9_level, Cond.code yX9_level cX9_level 5 (some .int), Cond.methodLink RX9 78 Lib.Math.max.name, Cond.methodLink RX9 156 yX9_isTaken, Cond.instanceMethod yX9_isTaken, Cond.selects RX9 yX9_isTaken yX9_isTaken, Cond.code yX9_isTaken cX9_isTaken 4 (some .boolean), Cond.methodLink RX9 98 yX8_put]
def wsL_fewestAnew : List Cond := .codeWith yL_fewestAnew cL_fewestAnew 5 (some .int) [(0, 10, 13, 13)] :: ((wsL_fewestAnew_r1 ++ (wsL_fewestAnew_r2 ++ (wsL_fewestAnew_r3 ++ (wsL_fewestAnew_r4 ++ (wsL_fewestAnew_r5 ++ (wsL_fewestAnew_r6 ++ wsL_fewestAnew_r7)))))) ++ wsX100 ++ wsX70 ++ wsX90 ++ wsX80 ++ wsX20 ++ wsX40 ++ wsX50 ++ (vx_atS RX10 93 "java/lang/IllegalArgumentException" ["java/lang/RuntimeException", "java/lang/Exception"]).filter goodWord)
def wsL_fall_r1 : List Cond := [Cond.classLink RL 31 "java/lang/IndexOutOfBoundsException", Cond.classLink RL 13 "java/lang/IllegalArgumentException", Cond.methodLink RL 77 yX10_fall, Cond.instanceMethod yX10_fall, Cond.selects RX10 yX10_fall yX10_fall, Cond.initialized RX10, Cond.code yX10_fall cX10_fall 3 (some .int), Cond.classLink RX10 155 "java/lang/IndexOutOfBoundsException", Cond.initialized "java/lang/IndexOutOfBoundsException", Cond.classLink RX10 89 "java/lang/IllegalArgumentException", Cond.initialized "java/lang/IllegalArgumentException", Cond.fieldLink RX10 55 "Gaitwright" "falls" "LGaitwright$Falls;", Cond.fieldLink RX10 321 "Gaitwright$Falls" "direction" "LGaitwright$Row;", Cond.fieldLink RX10 324 "Gaitwright$Falls" "what" "LGaitwright$Row;", Cond.fieldLink RX10 327 "Gaitwright$Falls" "point" "LGaitwright$Row;", Cond.methodLink RX10 316 yX1_kept, Cond.instanceMethod yX1_kept, Cond.selects RX1 yX1_kept yX1_kept, Cond.initialized RX1, Cond.code yX1_kept cX1_kept 1 (some .int), Cond.fieldLink RX1 26 "Gaitwright$Falls" "count" "I", Cond.methodLink RX1 30 Lib.Math.min.name, Cond.static Lib.Math.min.name, Cond.initialized "java/lang/Math"]
def wsL_fall_r2 : List Cond := [Cond.code Lib.Math.min.name Lib.Math.min.code 2 (some .int), Cond.methodLink RX10 109 yX8_at, Cond.instanceMethod yX8_at, Cond.selects RX8 yX8_at yX8_at, Cond.initialized RX8, Cond.code yX8_at cX8_at 2 (some .int), Cond.fieldLink RX8 7 "Gaitwright$Row" "cells" "[I", Cond.methodLink RX10 238 yX10_xOf, Cond.static yX10_xOf, Cond.code yX10_xOf cX10_xOf 1 (some .int), Cond.methodLink RX10 241 yX10_yOf, Cond.static yX10_yOf, Cond.code yX10_yOf cX10_yOf 1 (some .int)]
def wsL_fall : List Cond := .codeWith yL_fall cL_fall 5 (some .int) [(0, 10, 13, 31), (0, 10, 17, 13)] :: ((wsL_fall_r1 ++ wsL_fall_r2) ++ wsX100 ++ wsX10 ++ wsX80 ++ (vx_atS RX10 159 "java/lang/IndexOutOfBoundsException" ["java/lang/RuntimeException", "java/lang/Exception"]).filter goodWord ++ (vx_atS RX10 93 "java/lang/IllegalArgumentException" ["java/lang/RuntimeException", "java/lang/Exception"]).filter goodWord)
def wsL_law0_r1 : List Cond := [Cond.classLink RL 8 RX10, Cond.instantiable RX10 11, Cond.initialized RX10, Cond.classLink RL 81 RX11, Cond.instantiable RX11 31, Cond.initialized RX11, Cond.arrayClass .long, Cond.methodLink RL 80 yX10_init, Cond.instanceMethod yX10_init, Cond.code yX10_init cX10_init 2 none, Cond.methodLink RX10 3 objectInit, Cond.instanceMethod objectInit, Cond.code objectInit ⟨#[0xb1]⟩ 1 none, Cond.classLink RX10 9 RX4, Cond.instantiable RX4 3, Cond.initialized RX4, Cond.classLink RX10 12 RX5, Cond.instantiable RX5 4, Cond.initialized RX5, Cond.fieldLink RX10 15 "Gaitwright" "land" "LGaitwright$Land;", Cond.classLink RX10 19 RX2, Cond.instantiable RX2 7, Cond.initialized RX2, Cond.fieldLink RX10 22 "Gaitwright" "frame" "LGaitwright$Frame;"]
def wsL_law0_r2 : List Cond := [Cond.classLink RX10 26 RX9, Cond.instantiable RX9 6, Cond.initialized RX9, Cond.fieldLink RX10 31 "Gaitwright" "stance" "LGaitwright$Stance;", Cond.fieldLink RX10 35 "Gaitwright" "trial" "LGaitwright$Stance;", Cond.classLink RX10 38 RX6, Cond.instantiable RX6 3, Cond.initialized RX6, Cond.fieldLink RX10 41 "Gaitwright" "pieces" "LGaitwright$Pieces;", Cond.classLink RX10 45 RX0, Cond.instantiable RX0 4, Cond.initialized RX0, Cond.fieldLink RX10 48 "Gaitwright" "damage" "LGaitwright$Damage;", Cond.classLink RX10 52 RX1, Cond.instantiable RX1 4, Cond.initialized RX1, Cond.fieldLink RX10 55 "Gaitwright" "falls" "LGaitwright$Falls;", Cond.classLink RX10 59 RX3, Cond.instantiable RX3 7, Cond.initialized RX3, Cond.fieldLink RX10 62 "Gaitwright" "gait" "LGaitwright$Gait;", Cond.classLink RX10 66 RX7, Cond.instantiable RX7 3, Cond.initialized RX7]
def wsL_law0_r3 : List Cond := [Cond.fieldLink RX10 69 "Gaitwright" "planner" "LGaitwright$Planner;", Cond.fieldLink RX10 73 "Gaitwright" "stands" "Z", Cond.fieldLink RX10 77 "Gaitwright" "energy" "I", Cond.instanceMethod yX4_init, Cond.code yX4_init cX4_init 1 none, Cond.methodLink RX4 3 objectInit, Cond.classLink RX4 9 RX8, Cond.instantiable RX8 1, Cond.initialized RX8, Cond.fieldLink RX4 14 "Gaitwright$Hull" "corners" "LGaitwright$Row;", Cond.fieldLink RX4 20 "Gaitwright$Hull" "points" "LGaitwright$Row;", Cond.fieldLink RX4 23 "Gaitwright$Hull" "size" "I", Cond.methodLink RX4 11 yX8_init, Cond.instanceMethod yX8_init, Cond.code yX8_init cX8_init 3 none, Cond.methodLink RX8 1 objectInit, Cond.arrayClass .int, Cond.fieldLink RX8 7 "Gaitwright$Row" "cells" "[I", Cond.methodLink RX8 13 yJ7_fill_53178, Cond.static yJ7_fill_53178, Cond.initialized RJ7, Cond.code yJ7_fill_53178 cJ7_fill_53178 4 none, Cond.instanceMethod yX5_init, Cond.code yX5_init cX5_init 1 none]
def wsL_law0_r4 : List Cond := [Cond.methodLink RX5 3 objectInit, Cond.classLink RX5 9 RX8, Cond.fieldLink RX5 14 "Gaitwright$Land" "height" "LGaitwright$Row;", Cond.fieldLink RX5 20 "Gaitwright$Land" "firmness" "LGaitwright$Row;", Cond.fieldLink RX5 23 "Gaitwright$Land" "grip" "LGaitwright$Row;", Cond.fieldLink RX5 26 "Gaitwright$Land" "mapped" "LGaitwright$Row;", Cond.methodLink RX5 11 yX8_init, Cond.instanceMethod yX2_init, Cond.code yX2_init cX2_init 1 none, Cond.methodLink RX2 3 objectInit, Cond.classLink RX2 9 RX8, Cond.fieldLink RX2 14 "Gaitwright$Frame" "hipX" "LGaitwright$Row;", Cond.fieldLink RX2 20 "Gaitwright$Frame" "hipY" "LGaitwright$Row;", Cond.fieldLink RX2 23 "Gaitwright$Frame" "reach" "LGaitwright$Row;", Cond.fieldLink RX2 26 "Gaitwright$Frame" "legs" "I", Cond.fieldLink RX2 30 "Gaitwright$Frame" "loadWeight" "I", Cond.fieldLink RX2 33 "Gaitwright$Frame" "loadX" "I", Cond.fieldLink RX2 36 "Gaitwright$Frame" "loadY" "I", Cond.methodLink RX2 11 yX8_init, Cond.methodLink RX10 28 yX9_init, Cond.instanceMethod yX9_init, Cond.code yX9_init cX9_init 4 none, Cond.methodLink RX9 3 objectInit, Cond.classLink RX9 9 RX8]
def wsL_law0_r5 : List Cond := [Cond.fieldLink RX9 14 "Gaitwright$Stance" "feet" "LGaitwright$Row;", Cond.fieldLink RX9 20 "Gaitwright$Stance" "bodyX" "I", Cond.fieldLink RX9 24 "Gaitwright$Stance" "bodyY" "I", Cond.fieldLink RX9 27 "Gaitwright$Stance" "land" "LGaitwright$Land;", Cond.fieldLink RX9 31 "Gaitwright$Stance" "frame" "LGaitwright$Frame;", Cond.fieldLink RX9 35 "Gaitwright$Stance" "hull" "LGaitwright$Hull;", Cond.methodLink RX9 11 yX8_init, Cond.instanceMethod yX6_init, Cond.code yX6_init cX6_init 1 none, Cond.methodLink RX6 3 objectInit, Cond.classLink RX6 9 RX8, Cond.fieldLink RX6 14 "Gaitwright$Pieces" "x" "LGaitwright$Row;", Cond.fieldLink RX6 20 "Gaitwright$Pieces" "y" "LGaitwright$Row;", Cond.fieldLink RX6 23 "Gaitwright$Pieces" "count" "I", Cond.methodLink RX6 11 yX8_init, Cond.instanceMethod yX0_init, Cond.code yX0_init cX0_init 1 none, Cond.methodLink RX0 3 objectInit, Cond.fieldLink RX0 9 "Gaitwright$Damage" "count" "I", Cond.fieldLink RX0 15 "Gaitwright$Damage" "firstWhat" "I", Cond.fieldLink RX0 18 "Gaitwright$Damage" "firstPoint" "I", Cond.fieldLink RX0 21 "Gaitwright$Damage" "firstOfAct" "I", Cond.instanceMethod yX1_init, Cond.code yX1_init cX1_init 1 none]
def wsL_law0_r6 : List Cond := [Cond.methodLink RX1 3 objectInit, Cond.classLink RX1 9 RX8, Cond.fieldLink RX1 14 "Gaitwright$Falls" "direction" "LGaitwright$Row;", Cond.fieldLink RX1 20 "Gaitwright$Falls" "what" "LGaitwright$Row;", Cond.fieldLink RX1 23 "Gaitwright$Falls" "point" "LGaitwright$Row;", Cond.fieldLink RX1 26 "Gaitwright$Falls" "count" "I", Cond.methodLink RX1 11 yX8_init, Cond.instanceMethod yX3_init, Cond.code yX3_init cX3_init 1 none, Cond.methodLink RX3 3 objectInit, Cond.classLink RX3 9 RX8, Cond.fieldLink RX3 14 "Gaitwright$Gait" "leg" "LGaitwright$Row;", Cond.fieldLink RX3 20 "Gaitwright$Gait" "footX" "LGaitwright$Row;", Cond.fieldLink RX3 23 "Gaitwright$Gait" "footY" "LGaitwright$Row;", Cond.fieldLink RX3 26 "Gaitwright$Gait" "bodyX" "LGaitwright$Row;", Cond.fieldLink RX3 29 "Gaitwright$Gait" "bodyY" "LGaitwright$Row;", Cond.fieldLink RX3 32 "Gaitwright$Gait" "count" "I", Cond.fieldLink RX3 36 "Gaitwright$Gait" "next" "I", Cond.methodLink RX3 11 yX8_init, Cond.methodLink RX10 68 yX7_init, Cond.instanceMethod yX7_init, Cond.code yX7_init cX7_init 5 none, Cond.methodLink RX7 3 objectInit, Cond.classLink RX7 9 RX9]
def wsL_law0_r7 : List Cond := [Cond.fieldLink RX7 11 "Gaitwright$Planner" "behind" "[LGaitwright$Stance;", Cond.fieldLink RX7 17 "Gaitwright$Planner" "goal" "I", Cond.fieldLink RX7 21 "Gaitwright$Planner" "frame" "LGaitwright$Frame;", Cond.methodLink RX7 25 yX9_init, Cond.methodLink RL 83 yX11_init, Cond.instanceMethod yX11_init, Cond.code yX11_init cX11_init 2 none, Cond.methodLink RX11 1 objectInit, Cond.fieldLink RX11 7 "GaitwrightModel" "height" "[I", Cond.fieldLink RX11 13 "GaitwrightModel" "firm" "[I", Cond.fieldLink RX11 16 "GaitwrightModel" "grip" "[I", Cond.fieldLink RX11 19 "GaitwrightModel" "mapped" "[I", Cond.fieldLink RX11 22 "GaitwrightModel" "bodyX" "I", Cond.fieldLink RX11 26 "GaitwrightModel" "bodyY" "I", Cond.fieldLink RX11 29 "GaitwrightModel" "energy" "I", Cond.fieldLink RX11 32 "GaitwrightModel" "hipX" "[I", Cond.fieldLink RX11 35 "GaitwrightModel" "hipY" "[I", Cond.fieldLink RX11 38 "GaitwrightModel" "reach" "[I", Cond.fieldLink RX11 41 "GaitwrightModel" "footX" "[I", Cond.fieldLink RX11 44 "GaitwrightModel" "footY" "[I", Cond.fieldLink RX11 47 "GaitwrightModel" "fallen" "[I", Cond.fieldLink RX11 50 "GaitwrightModel" "phase" "[I", Cond.fieldLink RX11 53 "GaitwrightModel" "corner" "[I", Cond.methodLink RL 84 yL_ground]
def wsL_law0_r8 : List Cond := [Cond.static yL_ground, Cond.initialized RL, Cond.codeWith yL_ground cL_ground 8 (some .int) [(0, 16, 19, 13), (0, 16, 23, 15)], Cond.classLink RL 13 "java/lang/IllegalArgumentException", Cond.classLink RL 15 "java/lang/IllegalStateException", Cond.methodLink RL 7 yX10_ground, Cond.instanceMethod yX10_ground, Cond.selects RX10 yX10_ground yX10_ground, Cond.code yX10_ground cX10_ground 8 (some .int), Cond.classLink RX10 89 "java/lang/IllegalArgumentException", Cond.initialized "java/lang/IllegalArgumentException", Cond.classLink RX10 100 "java/lang/IllegalStateException", Cond.initialized "java/lang/IllegalStateException", Cond.fieldLink RX10 105 "Gaitwright$Land" "height" "LGaitwright$Row;", Cond.fieldLink RX10 119 "Gaitwright$Land" "firmness" "LGaitwright$Row;", Cond.fieldLink RX10 122 "Gaitwright$Land" "grip" "LGaitwright$Row;", Cond.methodLink RX10 81 yX10_pointAt, Cond.static yX10_pointAt, Cond.code yX10_pointAt cX10_pointAt 2 (some .int), Cond.methodLink RX10 85 yX10_isWithin, Cond.static yX10_isWithin, Cond.code yX10_isWithin cX10_isWithin 3 (some .boolean), Cond.methodLink RX10 96 yX9_isTaken, Cond.instanceMethod yX9_isTaken]
def wsL_law0_r9 : List Cond := [Cond.selects RX9 yX9_isTaken yX9_isTaken, Cond.code yX9_isTaken cX9_isTaken 4 (some .boolean), Cond.methodLink RX9 48 yX8_at, Cond.instanceMethod yX8_at, Cond.selects RX8 yX8_at yX8_at, Cond.code yX8_at cX8_at 2 (some .int), Cond.methodLink RX10 109 yX8_at, Cond.methodLink RX10 115 yX8_put, Cond.instanceMethod yX8_put, Cond.selects RX8 yX8_put yX8_put, Cond.code yX8_put cX8_put 3 none, Cond.methodLink RL 89 yX11_ground, Cond.instanceMethod yX11_ground, Cond.selects RX11 yX11_ground yX11_ground, Cond.code yX11_ground cX11_ground 8 (some .int), Cond.methodLink RX11 69 yX11_isPoint, Cond.static yX11_isPoint, Cond.code yX11_isPoint cX11_isPoint 2 (some .boolean), Cond.methodLink RX11 59 yX11_isIn, Cond.static yX11_isIn, Cond.code yX11_isIn cX11_isIn 3 (some .boolean), Cond.methodLink RX11 73 yX11_footAt, Cond.instanceMethod yX11_footAt, Cond.selects RX11 yX11_footAt yX11_footAt]
def wsL_law0_r10 : List Cond := [Cond.code yX11_footAt cX11_footAt 5 (some .int), Cond.fieldLink RX11 63 "GaitwrightModel" "legs" "I", Cond.methodLink RX11 97 yX11_isDown, Cond.instanceMethod yX11_isDown, Cond.selects RX11 yX11_isDown yX11_isDown, Cond.code yX11_isDown cX11_isDown 2 (some .boolean), Cond.fieldLink RX11 66 "GaitwrightModel" "down" "I", Cond.methodLink RX11 77 yX11_fails, Cond.instanceMethod yX11_fails, Cond.selects RX11 yX11_fails yX11_fails, Cond.code yX11_fails cX11_fails 2 (some .boolean), Cond.fieldLink RX11 56 "GaitwrightModel" "thrown" "I", Cond.methodLink RX11 81 yX11_at, Cond.static yX11_at, Cond.code yX11_at cX11_at 2 (some .int), Cond.methodLink RL 90 yX11_thrown, Cond.instanceMethod yX11_thrown, Cond.selects RX11 yX11_thrown yX11_thrown, Cond.code yX11_thrown cX11_thrown 1 (some .int), Cond.methodLink RL 93 yL_chart, Cond.static yL_chart, Cond.codeWith yL_chart cL_chart 6 (some .int) [(0, 12, 15, 13)], Cond.methodLink RL 17 yX10_chart, Cond.instanceMethod yX10_chart]
def wsL_law0_r11 : List Cond := [Cond.selects RX10 yX10_chart yX10_chart, Cond.code yX10_chart cX10_chart 6 (some .int), Cond.fieldLink RX10 127 "Gaitwright$Land" "mapped" "LGaitwright$Row;", Cond.methodLink RL 96 yX11_chart, Cond.instanceMethod yX11_chart, Cond.selects RX11 yX11_chart yX11_chart, Cond.code yX11_chart cX11_chart 5 (some .int), Cond.methodLink RL 97 yL_leg, Cond.static yL_leg, Cond.codeWith yL_leg cL_leg 6 (some .int) [(0, 12, 15, 13), (0, 12, 19, 15)], Cond.methodLink RL 21 yX10_leg, Cond.instanceMethod yX10_leg, Cond.selects RX10 yX10_leg yX10_leg, Cond.code yX10_leg cX10_leg 4 (some .int), Cond.fieldLink RX10 136 "Gaitwright$Frame" "legs" "I", Cond.methodLink RX10 130 yX10_isAside, Cond.static yX10_isAside, Cond.code yX10_isAside cX10_isAside 1 (some .boolean), Cond.methodLink RX10 141 yX2_join, Cond.instanceMethod yX2_join, Cond.selects RX2 yX2_join yX2_join, Cond.code yX2_join cX2_join 5 (some .int), Cond.methodLink RX2 39 yX8_put, Cond.methodLink RL 99 yX11_leg]
def wsL_law0_r12 : List Cond := [Cond.instanceMethod yX11_leg, Cond.selects RX11 yX11_leg yX11_leg, Cond.code yX11_leg cX11_leg 5 (some .int), Cond.fieldLink RX11 84 "GaitwrightModel" "stands" "Z", Cond.methodLink RL 100 yL_charge, Cond.static yL_charge, Cond.codeWith yL_charge cL_charge 4 (some .int) [(0, 9, 12, 13)], Cond.methodLink RL 24 yX10_charge, Cond.instanceMethod yX10_charge, Cond.selects RX10 yX10_charge yX10_charge, Cond.code yX10_charge cX10_charge 2 (some .int), Cond.methodLink RX10 147 Lib.Math.min.name, Cond.static Lib.Math.min.name, Cond.initialized "java/lang/Math", Cond.code Lib.Math.min.name Lib.Math.min.code 2 (some .int), Cond.methodLink RL 103 yX11_charge, Cond.instanceMethod yX11_charge, Cond.selects RX11 yX11_charge yX11_charge, Cond.code yX11_charge cX11_charge 2 (some .int), Cond.methodLink RL 104 yL_phase, Cond.static yL_phase, Cond.codeWith yL_phase cL_phase 8 (some .int) [(0, 16, 19, 31), (0, 16, 23, 13), (0, 16, 27, 15)], Cond.classLink RL 31 "java/lang/IndexOutOfBoundsException", Cond.methodLink RL 28 yX10_phase]
def wsL_law0_r13 : List Cond := [Cond.instanceMethod yX10_phase, Cond.selects RX10 yX10_phase yX10_phase, Cond.code yX10_phase cX10_phase 6 (some .int), Cond.classLink RX10 155 "java/lang/IndexOutOfBoundsException", Cond.initialized "java/lang/IndexOutOfBoundsException", Cond.fieldLink RX10 162 "Gaitwright$Gait" "count" "I", Cond.methodLink RX10 152 yX10_isLeg, Cond.instanceMethod yX10_isLeg, Cond.selects RX10 yX10_isLeg yX10_isLeg, Cond.code yX10_isLeg cX10_isLeg 2 (some .boolean), Cond.methodLink RX10 167 yX3_add, Cond.instanceMethod yX3_add, Cond.selects RX3 yX3_add yX3_add, Cond.code yX3_add cX3_add 6 (some .int), Cond.methodLink RX3 39 yX8_put, Cond.methodLink RL 106 yX11_phase, Cond.instanceMethod yX11_phase, Cond.selects RX11 yX11_phase yX11_phase, Cond.code yX11_phase cX11_phase 8 (some .int), Cond.fieldLink RX11 91 "GaitwrightModel" "phases" "I", Cond.methodLink RX11 88 yX11_isLeg, Cond.instanceMethod yX11_isLeg, Cond.selects RX11 yX11_isLeg yX11_isLeg, Cond.code yX11_isLeg cX11_isLeg 2 (some .boolean)]
def wsL_law0_r14 : List Cond := [Cond.methodLink RL 107 yX10_halt, Cond.instanceMethod yX10_halt, Cond.selects RX10 yX10_halt yX10_halt, Cond.code yX10_halt cX10_halt 2 (some .int), Cond.methodLink RX10 171 yX3_clear, Cond.instanceMethod yX3_clear, Cond.selects RX3 yX3_clear yX3_clear, Cond.code yX3_clear cX3_clear 1 none, Cond.methodLink RL 110 yX11_halt, Cond.instanceMethod yX11_halt, Cond.selects RX11 yX11_halt yX11_halt, Cond.code yX11_halt cX11_halt 2 (some .int), Cond.fieldLink RX11 94 "GaitwrightModel" "next" "I", Cond.methodLink RL 111 yL_load, Cond.static yL_load, Cond.codeWith yL_load cL_load 6 (some .int) [(0, 12, 15, 13), (0, 12, 19, 15)], Cond.methodLink RL 33 yX10_load, Cond.instanceMethod yX10_load, Cond.selects RX10 yX10_load yX10_load, Cond.code yX10_load cX10_load 4 (some .int), Cond.methodLink RX10 176 yX10_takeLoad, Cond.instanceMethod yX10_takeLoad, Cond.selects RX10 yX10_takeLoad yX10_takeLoad, Cond.code yX10_takeLoad cX10_takeLoad 7 (some .boolean)]
def wsL_law0_r15 : List Cond := [Cond.fieldLink RX10 222 "Gaitwright$Frame" "loadWeight" "I", Cond.fieldLink RX10 330 "Gaitwright$Frame" "loadX" "I", Cond.fieldLink RX10 333 "Gaitwright$Frame" "loadY" "I", Cond.methodLink RX10 336 yX2_carry, Cond.instanceMethod yX2_carry, Cond.selects RX2 yX2_carry yX2_carry, Cond.code yX2_carry cX2_carry 4 none, Cond.methodLink RX10 244 yX9_holdsWithout, Cond.instanceMethod yX9_holdsWithout, Cond.selects RX9 yX9_holdsWithout yX9_holdsWithout, Cond.code yX9_holdsWithout cX9_holdsWithout 2 (some .boolean), Cond.methodLink RX9 117 yX4_wrap, Cond.instanceMethod yX4_wrap, Cond.selects RX4 yX4_wrap yX4_wrap, Cond.code yX4_wrap cX4_wrap 8 none, Cond.methodLink RX4 34 Lib.Math.min.name, Cond.methodLink RX4 27 yX8_at, Cond.methodLink RX4 31 yX8_put, Cond.methodLink RX4 40 yX4_isFurtherOut, Cond.static yX4_isFurtherOut, Cond.code yX4_isFurtherOut cX4_isFurtherOut 8 (some .boolean), Cond.methodLink RX9 123 yX9_momentX, Cond.instanceMethod yX9_momentX, Cond.selects RX9 yX9_momentX yX9_momentX]
def wsL_law0_r16 : List Cond := [Cond.code yX9_momentX cX9_momentX 1 (some .int), Cond.fieldLink RX9 108 "Gaitwright$Frame" "loadWeight" "I", Cond.fieldLink RX9 111 "Gaitwright$Frame" "loadX" "I", Cond.methodLink RX9 126 yX9_momentY, Cond.instanceMethod yX9_momentY, Cond.selects RX9 yX9_momentY yX9_momentY, Cond.code yX9_momentY cX9_momentY 1 (some .int), Cond.fieldLink RX9 114 "Gaitwright$Frame" "loadY" "I", Cond.methodLink RX9 82 yX2_weight, Cond.instanceMethod yX2_weight, Cond.selects RX2 yX2_weight yX2_weight, Cond.code yX2_weight cX2_weight 1 (some .int), Cond.methodLink RX9 129 yX4_holds, Cond.instanceMethod yX4_holds, Cond.selects RX4 yX4_holds yX4_holds, Cond.code yX4_holds cX4_holds 10 (some .boolean), Cond.constant RX4 46 (2147483647), Cond.constant RX4 47 (-2147483648), Cond.methodLink RX4 52 Lib.Math.max.name, Cond.static Lib.Math.max.name, Cond.code Lib.Math.max.name Lib.Math.max.code 2 (some .int), Cond.methodLink RX4 48 yX4_edgeByWay, Cond.static yX4_edgeByWay, Cond.code yX4_edgeByWay cX4_edgeByWay 5 (some .int)]
def wsL_law0_r17 : List Cond := [Cond.methodLink RX10 340 yX0_beginAct, Cond.instanceMethod yX0_beginAct, Cond.selects RX0 yX0_beginAct yX0_beginAct, Cond.code yX0_beginAct cX0_beginAct 1 none, Cond.methodLink RX10 181 yX10_settled, Cond.instanceMethod yX10_settled, Cond.selects RX10 yX10_settled yX10_settled, Cond.code yX10_settled cX10_settled 3 (some .int), Cond.fieldLink RX10 411 "Gaitwright$Damage" "firstOfAct" "I", Cond.methodLink RX10 399 yX9_sinking, Cond.instanceMethod yX9_sinking, Cond.selects RX9 yX9_sinking yX9_sinking, Cond.code yX9_sinking cX9_sinking 5 (some .int), Cond.fieldLink RX9 95 "Gaitwright$Land" "firmness" "LGaitwright$Row;", Cond.methodLink RX9 92 yX9_pressure, Cond.instanceMethod yX9_pressure, Cond.selects RX9 yX9_pressure yX9_pressure, Cond.code yX9_pressure cX9_pressure 1 (some .int), Cond.methodLink RX9 86 yX9_down, Cond.instanceMethod yX9_down, Cond.selects RX9 yX9_down yX9_down, Cond.code yX9_down cX9_down 3 (some .int), Cond.static yX10_roundedUp, Cond.code yX10_roundedUp cX10_roundedUp 2 (some .int)]
def wsL_law0_r18 : List Cond := [Cond.methodLink RX10 402 yX10_breakGround, Cond.instanceMethod yX10_breakGround, Cond.selects RX10 yX10_breakGround yX10_breakGround, Cond.code yX10_breakGround cX10_breakGround 4 none, Cond.fieldLink RX10 235 "Gaitwright$Stance" "feet" "LGaitwright$Row;", Cond.methodLink RX10 414 yX5_sag, Cond.instanceMethod yX5_sag, Cond.selects RX5 yX5_sag yX5_sag, Cond.code yX5_sag cX5_sag 2 none, Cond.methodLink RX5 36 Lib.Math.max.name, Cond.methodLink RX5 29 yX8_at, Cond.methodLink RX5 33 yX8_put, Cond.methodLink RX5 42 yX5_learn, Cond.instanceMethod yX5_learn, Cond.selects RX5 yX5_learn yX5_learn, Cond.code yX5_learn cX5_learn 2 none, Cond.methodLink RX10 393 yX0_tell, Cond.instanceMethod yX0_tell, Cond.selects RX0 yX0_tell yX0_tell, Cond.code yX0_tell cX0_tell 3 none, Cond.methodLink RX10 405 yX9_raise, Cond.instanceMethod yX9_raise, Cond.selects RX9 yX9_raise yX9_raise, Cond.code yX9_raise cX9_raise 3 none]
def wsL_law0_r19 : List Cond := [Cond.methodLink RX9 98 yX8_put, Cond.methodLink RX10 408 yX10_toppleOver, Cond.instanceMethod yX10_toppleOver, Cond.selects RX10 yX10_toppleOver yX10_toppleOver, Cond.code yX10_toppleOver cX10_toppleOver 1 none, Cond.fieldLink RX10 419 "Gaitwright$Damage" "firstWhat" "I", Cond.fieldLink RX10 422 "Gaitwright$Damage" "firstPoint" "I", Cond.methodLink RX10 417 yX9_direction, Cond.instanceMethod yX9_direction, Cond.selects RX9 yX9_direction yX9_direction, Cond.code yX9_direction cX9_direction 6 (some .int), Cond.static yX10_xOf, Cond.code yX10_xOf cX10_xOf 1 (some .int), Cond.static yX10_yOf, Cond.code yX10_yOf cX10_yOf 1 (some .int), Cond.methodLink RX9 133 yJ6_signum_0f7a4, Cond.static yJ6_signum_0f7a4, Cond.initialized RJ6, Cond.code yJ6_signum_0f7a4 cJ6_signum_0f7a4 1 (some .int), Cond.methodLink RX10 425 yX1_keep, Cond.instanceMethod yX1_keep, Cond.selects RX1 yX1_keep yX1_keep, Cond.code yX1_keep cX1_keep 4 none, Cond.methodLink RX1 36 yX8_put]
def wsL_law0_r20 : List Cond := [Cond.methodLink RX10 428 yX8_fill, Cond.instanceMethod yX8_fill, Cond.selects RX8 yX8_fill yX8_fill, Cond.code yX8_fill cX8_fill 2 none, Cond.methodLink RL 113 yX11_load, Cond.instanceMethod yX11_load, Cond.selects RX11 yX11_load yX11_load, Cond.code yX11_load cX11_load 8 (some .int), Cond.fieldLink RX11 100 "GaitwrightModel" "load" "I", Cond.fieldLink RX11 107 "GaitwrightModel" "loadX" "I", Cond.fieldLink RX11 110 "GaitwrightModel" "loadY" "I", Cond.fieldLink RX11 152 "GaitwrightModel" "ofAct" "I", Cond.methodLink RX11 180 yX11_holds, Cond.instanceMethod yX11_holds, Cond.selects RX11 yX11_holds yX11_holds, Cond.code yX11_holds cX11_holds 8 (some .boolean), Cond.fieldLink RX11 113 "GaitwrightModel" "corners" "I", Cond.methodLink RX11 129 yX11_hull, Cond.instanceMethod yX11_hull, Cond.selects RX11 yX11_hull yX11_hull, Cond.code yX11_hull cX11_hull 9 none, Cond.methodLink RX11 116 yX11_turn, Cond.instanceMethod yX11_turn, Cond.selects RX11 yX11_turn yX11_turn]
def wsL_law0_r21 : List Cond := [Cond.code yX11_turn cX11_turn 4 (some .int), Cond.methodLink RX11 120 yX11_square, Cond.instanceMethod yX11_square, Cond.selects RX11 yX11_square yX11_square, Cond.code yX11_square cX11_square 5 (some .int), Cond.methodLink RX11 123 yX11_momentX, Cond.instanceMethod yX11_momentX, Cond.selects RX11 yX11_momentX yX11_momentX, Cond.code yX11_momentX cX11_momentX 1 (some .int), Cond.methodLink RX11 103 yX11_weight, Cond.instanceMethod yX11_weight, Cond.selects RX11 yX11_weight yX11_weight, Cond.code yX11_weight cX11_weight 1 (some .int), Cond.methodLink RX11 126 yX11_momentY, Cond.instanceMethod yX11_momentY, Cond.selects RX11 yX11_momentY yX11_momentY, Cond.code yX11_momentY cX11_momentY 1 (some .int), Cond.methodLink RX11 133 yX11_makes, Cond.instanceMethod yX11_makes, Cond.selects RX11 yX11_makes yX11_makes, Cond.code yX11_makes cX11_makes 6 (some .int), Cond.methodLink RX11 189 yX11_settles, Cond.instanceMethod yX11_settles, Cond.selects RX11 yX11_settles yX11_settles]
def wsL_law0_r22 : List Cond := [Cond.code yX11_settles cX11_settles 1 none, Cond.fieldLink RX11 183 "GaitwrightModel" "falls" "I", Cond.fieldLink RX11 143 "GaitwrightModel" "firstWhat" "I", Cond.fieldLink RX11 146 "GaitwrightModel" "firstX" "I", Cond.fieldLink RX11 149 "GaitwrightModel" "firstY" "I", Cond.methodLink RX11 177 yX11_sinks, Cond.instanceMethod yX11_sinks, Cond.selects RX11 yX11_sinks yX11_sinks, Cond.code yX11_sinks cX11_sinks 4 none, Cond.methodLink RX11 171 yX11_sinking, Cond.instanceMethod yX11_sinking, Cond.selects RX11 yX11_sinking yX11_sinking, Cond.code yX11_sinking cX11_sinking 5 (some .int), Cond.methodLink RX11 168 yX11_pressure, Cond.instanceMethod yX11_pressure, Cond.selects RX11 yX11_pressure yX11_pressure, Cond.code yX11_pressure cX11_pressure 3 (some .int), Cond.methodLink RX11 137 yX11_count, Cond.static yX11_count, Cond.code yX11_count cX11_count 3 (some .int), Cond.methodLink RX11 158 yX11_breaks, Cond.instanceMethod yX11_breaks, Cond.selects RX11 yX11_breaks yX11_breaks, Cond.code yX11_breaks cX11_breaks 4 none]
def wsL_law0_r23 : List Cond := [Cond.fieldLink RX11 140 "GaitwrightModel" "broken" "I", Cond.methodLink RX11 186 yX11_direction, Cond.instanceMethod yX11_direction, Cond.selects RX11 yX11_direction yX11_direction, Cond.code yX11_direction cX11_direction 5 (some .int), Cond.methodLink RX11 174 yX11_sign, Cond.static yX11_sign, Cond.code yX11_sign cX11_sign 1 (some .int), Cond.methodLink RL 114 yL_rise, Cond.static yL_rise, Cond.codeWith yL_rise cL_rise 3 (some .int) [(0, 8, 11, 15)], Cond.methodLink RL 36 yX10_rise, Cond.instanceMethod yX10_rise, Cond.selects RX10 yX10_rise yX10_rise, Cond.code yX10_rise cX10_rise 1 (some .int), Cond.methodLink RX10 185 yX10_getUp, Cond.instanceMethod yX10_getUp, Cond.selects RX10 yX10_getUp yX10_getUp, Cond.code yX10_getUp cX10_getUp 3 (some .boolean), Cond.methodLink RX10 343 yX10_hipsBear, Cond.instanceMethod yX10_hipsBear, Cond.selects RX10 yX10_hipsBear yX10_hipsBear, Cond.code yX10_hipsBear cX10_hipsBear 5 (some .boolean), Cond.methodLink RX10 386 Lib.Math.max.name]
def wsL_law0_r24 : List Cond := [Cond.methodLink RX10 294 yX9_copy, Cond.instanceMethod yX9_copy, Cond.selects RX9 yX9_copy yX9_copy, Cond.code yX9_copy cX9_copy 2 none, Cond.methodLink RX9 39 yX8_copy, Cond.instanceMethod yX8_copy, Cond.selects RX8 yX8_copy yX8_copy, Cond.code yX8_copy cX8_copy 3 none, Cond.methodLink RX8 19 yX8_at, Cond.methodLink RX10 349 yX9_hipX, Cond.instanceMethod yX9_hipX, Cond.selects RX9 yX9_hipX yX9_hipX, Cond.code yX9_hipX cX9_hipX 2 (some .int), Cond.fieldLink RX9 43 "Gaitwright$Frame" "hipX" "LGaitwright$Row;", Cond.methodLink RX10 352 yX9_hipY, Cond.instanceMethod yX9_hipY, Cond.selects RX9 yX9_hipY yX9_hipY, Cond.code yX9_hipY cX9_hipY 2 (some .int), Cond.fieldLink RX9 52 "Gaitwright$Frame" "hipY" "LGaitwright$Row;", Cond.methodLink RX10 346 yX0_forget, Cond.instanceMethod yX0_forget, Cond.selects RX0 yX0_forget yX0_forget, Cond.code yX0_forget cX0_forget 1 none, Cond.methodLink RX10 355 yX10_setFoot]
def wsL_law0_r25 : List Cond := [Cond.instanceMethod yX10_setFoot, Cond.selects RX10 yX10_setFoot yX10_setFoot, Cond.code yX10_setFoot cX10_setFoot 5 none, Cond.methodLink RX10 361 Lib.Math.abs.name, Cond.static Lib.Math.abs.name, Cond.code Lib.Math.abs.name Lib.Math.abs.code 1 (some .int), Cond.methodLink RX10 389 yX5_learn, Cond.methodLink RX10 396 yX5_slipFrom, Cond.instanceMethod yX5_slipFrom, Cond.selects RX5 yX5_slipFrom yX5_slipFrom, Cond.code yX5_slipFrom cX5_slipFrom 6 (some .int), Cond.methodLink RX5 46 yX5_neighbour, Cond.static yX5_neighbour, Cond.code yX5_neighbour cX5_neighbour 4 (some .int), Cond.methodLink RX10 364 yX9_isInReach, Cond.instanceMethod yX9_isInReach, Cond.selects RX9 yX9_isInReach yX9_isInReach, Cond.code yX9_isInReach cX9_isInReach 6 (some .boolean), Cond.fieldLink RX9 65 "Gaitwright$Frame" "reach" "LGaitwright$Row;", Cond.methodLink RX9 58 yX9_hipX, Cond.methodLink RX9 63 yX9_hipY, Cond.methodLink RX10 189 yX9_down, Cond.methodLink RL 117 yX11_rise, Cond.instanceMethod yX11_rise]
def wsL_law0_r26 : List Cond := [Cond.selects RX11 yX11_rise yX11_rise, Cond.code yX11_rise cX11_rise 4 (some .int), Cond.methodLink RX11 207 yX11_canRise, Cond.instanceMethod yX11_canRise, Cond.selects RX11 yX11_canRise yX11_canRise, Cond.code yX11_canRise cX11_canRise 6 (some .boolean), Cond.methodLink RX11 201 yX11_sets, Cond.instanceMethod yX11_sets, Cond.selects RX11 yX11_sets yX11_sets, Cond.code yX11_sets cX11_sets 8 none, Cond.methodLink RX11 155 yX11_slips, Cond.instanceMethod yX11_slips, Cond.selects RX11 yX11_slips yX11_slips, Cond.code yX11_slips cX11_slips 9 (some .int), Cond.methodLink RX11 162 yX11_isInReach, Cond.instanceMethod yX11_isInReach, Cond.selects RX11 yX11_isInReach yX11_isInReach, Cond.code yX11_isInReach cX11_isInReach 6 (some .boolean), Cond.methodLink RX11 165 yX11_comesDown, Cond.instanceMethod yX11_comesDown, Cond.selects RX11 yX11_comesDown yX11_comesDown, Cond.code yX11_comesDown cX11_comesDown 4 none, Cond.methodLink RL 118 yL_lift, Cond.static yL_lift]
def wsL_law0_r27 : List Cond := [Cond.codeWith yL_lift cL_lift 4 (some .int) [(0, 9, 12, 31), (0, 9, 15, 15)], Cond.methodLink RL 40 yX10_lift, Cond.instanceMethod yX10_lift, Cond.selects RX10 yX10_lift yX10_lift, Cond.code yX10_lift cX10_lift 2 (some .int), Cond.methodLink RX10 192 yX10_liftFoot, Cond.instanceMethod yX10_liftFoot, Cond.selects RX10 yX10_liftFoot yX10_liftFoot, Cond.code yX10_liftFoot cX10_liftFoot 2 (some .boolean), Cond.methodLink RX10 291 yX10_mayLift, Cond.instanceMethod yX10_mayLift, Cond.selects RX10 yX10_mayLift yX10_mayLift, Cond.code yX10_mayLift cX10_mayLift 2 (some .boolean), Cond.methodLink RL 120 yX11_lift, Cond.instanceMethod yX11_lift, Cond.selects RX11 yX11_lift yX11_lift, Cond.code yX11_lift cX11_lift 2 (some .int), Cond.methodLink RX11 211 yX11_lifts, Cond.instanceMethod yX11_lifts, Cond.selects RX11 yX11_lifts yX11_lifts, Cond.code yX11_lifts cX11_lifts 2 (some .boolean), Cond.methodLink RL 121 yL_place, Cond.static yL_place, Cond.codeWith yL_place cL_place 6 (some .int) [(0, 12, 15, 31), (0, 12, 19, 13), (0, 12, 23, 15)]]
def wsL_law0_r28 : List Cond := [Cond.methodLink RL 43 yX10_place, Cond.instanceMethod yX10_place, Cond.selects RX10 yX10_place yX10_place, Cond.code yX10_place cX10_place 5 (some .int), Cond.methodLink RX10 197 yX10_placeFoot, Cond.instanceMethod yX10_placeFoot, Cond.selects RX10 yX10_placeFoot yX10_placeFoot, Cond.code yX10_placeFoot cX10_placeFoot 5 (some .boolean), Cond.methodLink RX10 358 yX9_far, Cond.instanceMethod yX9_far, Cond.selects RX9 yX9_far yX9_far, Cond.code yX9_far cX9_far 3 (some .int), Cond.methodLink RX9 68 Lib.Math.abs.name, Cond.methodLink RX10 225 yX9_level, Cond.instanceMethod yX9_level, Cond.selects RX9 yX9_level yX9_level, Cond.code yX9_level cX9_level 5 (some .int), Cond.fieldLink RX9 73 "Gaitwright$Land" "mapped" "LGaitwright$Row;", Cond.methodLink RX9 78 Lib.Math.max.name, Cond.methodLink RL 123 yX11_place, Cond.instanceMethod yX11_place, Cond.selects RX11 yX11_place yX11_place, Cond.code yX11_place cX11_place 4 (some .int), Cond.methodLink RX11 214 yX11_places]
def wsL_law0_r29 : List Cond := [Cond.instanceMethod yX11_places, Cond.selects RX11 yX11_places yX11_places, Cond.code yX11_places cX11_places 4 (some .boolean), Cond.methodLink RX11 195 yX11_far, Cond.instanceMethod yX11_far, Cond.selects RX11 yX11_far yX11_far, Cond.code yX11_far cX11_far 6 (some .int), Cond.methodLink RX11 198 yX11_canPlace, Cond.instanceMethod yX11_canPlace, Cond.selects RX11 yX11_canPlace yX11_canPlace, Cond.code yX11_canPlace cX11_canPlace 5 (some .boolean), Cond.methodLink RX11 192 yX11_level, Cond.instanceMethod yX11_level, Cond.selects RX11 yX11_level yX11_level, Cond.code yX11_level cX11_level 5 (some .int), Cond.methodLink RL 124 yL_shift, Cond.static yL_shift, Cond.codeWith yL_shift cL_shift 5 (some .int) [(0, 10, 13, 13), (0, 10, 17, 15)], Cond.methodLink RL 46 yX10_shift, Cond.instanceMethod yX10_shift, Cond.selects RX10 yX10_shift yX10_shift, Cond.code yX10_shift cX10_shift 3 (some .int), Cond.methodLink RX10 200 yX10_shiftBody, Cond.instanceMethod yX10_shiftBody]
def wsL_law0_r30 : List Cond := [Cond.selects RX10 yX10_shiftBody yX10_shiftBody, Cond.code yX10_shiftBody cX10_shiftBody 4 (some .boolean), Cond.methodLink RX10 253 yX2_weight, Cond.methodLink RX10 367 yX10_roundedUp, Cond.methodLink RX10 370 yX9_moveBody, Cond.instanceMethod yX9_moveBody, Cond.selects RX9 yX9_moveBody yX9_moveBody, Cond.code yX9_moveBody cX9_moveBody 5 (some .boolean), Cond.methodLink RX9 141 yX9_isInReach, Cond.methodLink RX9 145 yX9_holdsWithout, Cond.methodLink RL 127 yX11_shift, Cond.instanceMethod yX11_shift, Cond.selects RX11 yX11_shift yX11_shift, Cond.code yX11_shift cX11_shift 4 (some .int), Cond.methodLink RX11 217 yX11_shifts, Cond.instanceMethod yX11_shifts, Cond.selects RX11 yX11_shifts yX11_shifts, Cond.code yX11_shifts cX11_shifts 4 (some .boolean), Cond.methodLink RX11 204 yX11_moves, Cond.instanceMethod yX11_moves, Cond.selects RX11 yX11_moves yX11_moves, Cond.code yX11_moves cX11_moves 5 (some .boolean), Cond.methodLink RL 128 yL_walk, Cond.static yL_walk]
def wsL_law0_r31 : List Cond := [Cond.codeWith yL_walk cL_walk 4 (some .int) [(0, 9, 12, 13), (0, 9, 15, 15)], Cond.methodLink RL 50 yX10_walk, Cond.instanceMethod yX10_walk, Cond.selects RX10 yX10_walk yX10_walk, Cond.code yX10_walk cX10_walk 3 (some .int), Cond.fieldLink RX10 207 "Gaitwright$Gait" "next" "I", Cond.methodLink RX10 210 yX10_isPhaseDone, Cond.instanceMethod yX10_isPhaseDone, Cond.selects RX10 yX10_isPhaseDone yX10_isPhaseDone, Cond.code yX10_isPhaseDone cX10_isPhaseDone 7 (some .boolean), Cond.fieldLink RX10 373 "Gaitwright$Gait" "leg" "LGaitwright$Row;", Cond.fieldLink RX10 376 "Gaitwright$Gait" "footX" "LGaitwright$Row;", Cond.fieldLink RX10 379 "Gaitwright$Gait" "footY" "LGaitwright$Row;", Cond.fieldLink RX10 382 "Gaitwright$Gait" "bodyX" "LGaitwright$Row;", Cond.fieldLink RX10 384 "Gaitwright$Gait" "bodyY" "LGaitwright$Row;", Cond.methodLink RX10 238 yX10_xOf, Cond.methodLink RX10 241 yX10_yOf, Cond.methodLink RX10 213 yX3_goOn, Cond.instanceMethod yX3_goOn, Cond.selects RX3 yX3_goOn yX3_goOn, Cond.code yX3_goOn cX3_goOn 1 none, Cond.methodLink RL 130 yX11_walk, Cond.instanceMethod yX11_walk, Cond.selects RX11 yX11_walk yX11_walk]
def wsL_law0_r32 : List Cond := [Cond.code yX11_walk cX11_walk 3 (some .int), Cond.methodLink RX11 220 yX11_walks, Cond.instanceMethod yX11_walks, Cond.selects RX11 yX11_walks yX11_walks, Cond.code yX11_walks cX11_walks 6 (some .boolean), Cond.methodLink RL 131 yL_machine, Cond.static yL_machine, Cond.codeWith yL_machine cL_machine 4 (some .int) [(0, 9, 12, 13)], Cond.methodLink RL 53 yX10_machine, Cond.instanceMethod yX10_machine, Cond.selects RX10 yX10_machine yX10_machine, Cond.code yX10_machine cX10_machine 2 (some .int), Cond.fieldLink RX10 216 "Gaitwright$Stance" "bodyX" "I", Cond.fieldLink RX10 219 "Gaitwright$Stance" "bodyY" "I", Cond.fieldLink RX10 231 "Gaitwright$Damage" "count" "I", Cond.fieldLink RX10 232 "Gaitwright$Falls" "count" "I", Cond.methodLink RX10 228 yX9_pressure, Cond.methodLink RL 133 yX11_machine, Cond.instanceMethod yX11_machine, Cond.selects RX11 yX11_machine yX11_machine, Cond.code yX11_machine cX11_machine 2 (some .int), Cond.methodLink RL 134 yL_foot, Cond.static yL_foot, Cond.codeWith yL_foot cL_foot 5 (some .int) [(0, 10, 13, 31), (0, 10, 17, 13)]]
def wsL_law0_r33 : List Cond := [Cond.methodLink RL 56 yX10_foot, Cond.instanceMethod yX10_foot, Cond.selects RX10 yX10_foot yX10_foot, Cond.code yX10_foot cX10_foot 4 (some .int), Cond.methodLink RL 136 yX11_foot, Cond.instanceMethod yX11_foot, Cond.selects RX11 yX11_foot yX11_foot, Cond.code yX11_foot cX11_foot 3 (some .int), Cond.methodLink RL 137 yL_point, Cond.static yL_point, Cond.codeWith yL_point cL_point 6 (some .int) [(0, 12, 15, 13)], Cond.methodLink RL 59 yX10_point, Cond.instanceMethod yX10_point, Cond.selects RX10 yX10_point yX10_point, Cond.code yX10_point cX10_point 5 (some .int), Cond.methodLink RL 139 yX11_point, Cond.instanceMethod yX11_point, Cond.selects RX11 yX11_point yX11_point, Cond.code yX11_point cX11_point 5 (some .int), Cond.methodLink RL 140 yX10_isStable, Cond.instanceMethod yX10_isStable, Cond.selects RX10 yX10_isStable yX10_isStable, Cond.code yX10_isStable cX10_isStable 1 (some .boolean), Cond.methodLink RL 144 yX11_isStable]
def wsL_law0_r34 : List Cond := [Cond.instanceMethod yX11_isStable, Cond.selects RX11 yX11_isStable yX11_isStable, Cond.code yX11_isStable cX11_isStable 1 (some .boolean), Cond.methodLink RL 145 yX10_isStableAnew, Cond.instanceMethod yX10_isStableAnew, Cond.selects RX10 yX10_isStableAnew yX10_isStableAnew, Cond.code yX10_isStableAnew cX10_isStableAnew 1 (some .boolean), Cond.methodLink RX10 247 yX9_momentX, Cond.methodLink RX10 250 yX9_momentY, Cond.methodLink RX10 256 yX6_gather, Cond.instanceMethod yX6_gather, Cond.selects RX6 yX6_gather yX6_gather, Cond.code yX6_gather cX6_gather 7 none, Cond.methodLink RX6 27 yX8_at, Cond.methodLink RX6 34 yX8_put, Cond.methodLink RX10 260 yX6_holdMoment, Cond.instanceMethod yX6_holdMoment, Cond.selects RX6 yX6_holdMoment yX6_holdMoment, Cond.code yX6_holdMoment cX6_holdMoment 4 (some .boolean), Cond.methodLink RX6 40 yX6_isOnLine, Cond.instanceMethod yX6_isOnLine, Cond.selects RX6 yX6_isOnLine yX6_isOnLine, Cond.code yX6_isOnLine cX6_isOnLine 3 (some .boolean), Cond.methodLink RX6 48 yX6_turn]
def wsL_law0_r35 : List Cond := [Cond.instanceMethod yX6_turn, Cond.selects RX6 yX6_turn yX6_turn, Cond.code yX6_turn cX6_turn 3 (some .int), Cond.methodLink RX6 44 yX6_isInTriangle, Cond.instanceMethod yX6_isInTriangle, Cond.selects RX6 yX6_isInTriangle yX6_isInTriangle, Cond.code yX6_isInTriangle cX6_isInTriangle 7 (some .boolean), Cond.methodLink RL 148 yX11_isStableAnew, Cond.instanceMethod yX11_isStableAnew, Cond.selects RX11 yX11_isStableAnew yX11_isStableAnew, Cond.code yX11_isStableAnew cX11_isStableAnew 1 (some .boolean), Cond.methodLink RX11 223 yX11_isStable, Cond.methodLink RL 149 yX10_margin, Cond.instanceMethod yX10_margin, Cond.selects RX10 yX10_margin yX10_margin, Cond.code yX10_margin cX10_margin 2 (some .int), Cond.constant RX10 263 (-1082130432), Cond.fieldLink RX10 264 "Gaitwright$Stance" "hull" "LGaitwright$Hull;", Cond.fieldLink RX10 268 "Gaitwright$Hull" "size" "I", Cond.methodLink RX10 271 yX4_leastSquare, Cond.instanceMethod yX4_leastSquare, Cond.selects RX4 yX4_leastSquare yX4_leastSquare, Cond.code yX4_leastSquare cX4_leastSquare 13 (some .float), Cond.methodLink RX4 58 yX4_squareOfEdge]
def wsL_law0_r36 : List Cond := [Cond.static yX4_squareOfEdge, Cond.code yX4_squareOfEdge cX4_squareOfEdge 4 (some .int), Cond.methodLink RX10 275 yX10_bitsOf, Cond.static yX10_bitsOf, Cond.code yX10_bitsOf cX10_bitsOf 4 (some .int), Cond.constantFloat RX10 431 (1258291200), Cond.methodLink RL 152 yX11_margin, Cond.instanceMethod yX11_margin, Cond.selects RX11 yX11_margin yX11_margin, Cond.code yX11_margin cX11_margin 8 (some .int), Cond.constantFloat RX11 226 (3212836864), Cond.methodLink RX11 227 yJxf58ca_floatToIntBits_5c35a, Cond.static yJxf58ca_floatToIntBits_5c35a, Cond.initialized RJxf58ca, Cond.code yJxf58ca_floatToIntBits_5c35a cJxf58ca_floatToIntBits_5c35a 1 (some .int), Cond.methodLink RJxf58ca 74 ⟨"java/lang/Float", "floatToRawIntBits", "(F)I"⟩, Cond.native ⟨"java/lang/Float", "floatToRawIntBits", "(F)I"⟩, Cond.static ⟨"java/lang/Float", "floatToRawIntBits", "(F)I"⟩, Cond.initialized "java/lang/Float", Cond.constant RJxf58ca 77 (2143289344), Cond.methodLink RJxf58ca 59 yJxf58ca_isNaN_12338, Cond.static yJxf58ca_isNaN_12338, Cond.code yJxf58ca_isNaN_12338 cJxf58ca_isNaN_12338 1 (some .boolean), Cond.methodLink RL 153 yL_corner]
def wsL_law0_r37 : List Cond := [Cond.static yL_corner, Cond.codeWith yL_corner cL_corner 4 (some .int) [(0, 9, 12, 13)], Cond.methodLink RL 62 yX10_corner, Cond.instanceMethod yX10_corner, Cond.selects RX10 yX10_corner yX10_corner, Cond.code yX10_corner cX10_corner 2 (some .int), Cond.fieldLink RX10 285 "Gaitwright$Hull" "corners" "LGaitwright$Row;", Cond.methodLink RX10 281 yX4_wrap, Cond.methodLink RL 155 yX11_corner, Cond.instanceMethod yX11_corner, Cond.selects RX11 yX11_corner yX11_corner, Cond.code yX11_corner cX11_corner 2 (some .int), Cond.methodLink RL 156 yL_foothold, Cond.static yL_foothold, Cond.codeWith yL_foothold cL_foothold 4 (some .int) [(0, 9, 12, 31)], Cond.methodLink RL 65 yX10_foothold, Cond.instanceMethod yX10_foothold, Cond.selects RX10 yX10_foothold yX10_foothold, Cond.code yX10_foothold cX10_foothold 2 (some .int), Cond.methodLink RX10 288 yX9_bestPoint, Cond.instanceMethod yX9_bestPoint, Cond.selects RX9 yX9_bestPoint yX9_bestPoint, Cond.code yX9_bestPoint cX9_bestPoint 14 (some .int), Cond.constant RX9 155 (2147483647)]
def wsL_law0_r38 : List Cond := [Cond.methodLink RX9 152 yX9_level, Cond.methodLink RX9 156 yX9_isTaken, Cond.methodLink RL 158 yX11_foothold, Cond.instanceMethod yX11_foothold, Cond.selects RX11 yX11_foothold yX11_foothold, Cond.code yX11_foothold cX11_foothold 2 (some .int), Cond.methodLink RX11 233 yX11_footholdOf, Cond.instanceMethod yX11_footholdOf, Cond.selects RX11 yX11_footholdOf yX11_footholdOf, Cond.code yX11_footholdOf cX11_footholdOf 14 (some .int), Cond.methodLink RL 159 yL_wouldLift, Cond.static yL_wouldLift, Cond.codeWith yL_wouldLift cL_wouldLift 4 (some .int) [(0, 9, 12, 31)], Cond.methodLink RL 68 yX10_wouldLift, Cond.instanceMethod yX10_wouldLift, Cond.selects RX10 yX10_wouldLift yX10_wouldLift, Cond.code yX10_wouldLift cX10_wouldLift 2 (some .int), Cond.methodLink RX10 298 yX9_sinkAway, Cond.instanceMethod yX9_sinkAway, Cond.selects RX9 yX9_sinkAway yX9_sinkAway, Cond.code yX9_sinkAway cX9_sinkAway 4 (some .boolean), Cond.methodLink RX9 101 yX9_sinking, Cond.methodLink RX9 104 yX9_raise, Cond.methodLink RL 161 yX11_wouldLift]
def wsL_law0_r39 : List Cond := [Cond.instanceMethod yX11_wouldLift, Cond.selects RX11 yX11_wouldLift yX11_wouldLift, Cond.code yX11_wouldLift cX11_wouldLift 5 (some .int), Cond.methodLink RL 162 yL_fewest, Cond.static yL_fewest, Cond.codeWith yL_fewest cL_fewest 5 (some .int) [(0, 10, 13, 13)], Cond.methodLink RL 71 yX10_fewest, Cond.instanceMethod yX10_fewest, Cond.selects RX10 yX10_fewest yX10_fewest, Cond.code yX10_fewest cX10_fewest 5 (some .int), Cond.methodLink RX10 301 yX7_start, Cond.instanceMethod yX7_start, Cond.selects RX7 yX7_start yX7_start, Cond.code yX7_start cX7_start 3 none, Cond.methodLink RX7 28 yX9_copy, Cond.methodLink RX10 305 yX7_away, Cond.instanceMethod yX7_away, Cond.selects RX7 yX7_away yX7_away, Cond.code yX7_away cX7_away 2 (some .int), Cond.fieldLink RX7 32 "Gaitwright$Stance" "bodyX" "I", Cond.methodLink RX7 39 Lib.Math.abs.name, Cond.fieldLink RX7 44 "Gaitwright$Stance" "bodyY" "I", Cond.methodLink RX10 308 yX10_isReachedBy, Cond.static yX10_isReachedBy]
def wsL_law0_r40 : List Cond := [Cond.code yX10_isReachedBy cX10_isReachedBy 5 (some .boolean), Cond.methodLink RX10 432 yX7_isMade, Cond.instanceMethod yX7_isMade, Cond.selects RX7 yX7_isMade yX7_isMade, Cond.code yX7_isMade cX7_isMade 4 (some .boolean), Cond.fieldLink RX7 54 "Gaitwright$Frame" "legs" "I", Cond.methodLink RX7 50 yX9_moveBody, Cond.methodLink RX7 59 yX9_step, Cond.instanceMethod yX9_step, Cond.selects RX9 yX9_step yX9_step, Cond.code yX9_step cX9_step 3 (some .boolean), Cond.methodLink RX9 149 yX9_bestPoint, Cond.methodLink RL 164 yX11_fewest, Cond.instanceMethod yX11_fewest, Cond.selects RX11 yX11_fewest yX11_fewest, Cond.code yX11_fewest cX11_fewest 15 (some .int), Cond.methodLink RX11 236 yX11_tries, Cond.instanceMethod yX11_tries, Cond.selects RX11 yX11_tries yX11_tries, Cond.code yX11_tries cX11_tries 3 (some .boolean), Cond.methodLink RL 165 yL_fewestAnew, Cond.static yL_fewestAnew, Cond.codeWith yL_fewestAnew cL_fewestAnew 5 (some .int) [(0, 10, 13, 13)], Cond.methodLink RL 74 yX10_fewestAnew]
def wsL_law0_r41 : List Cond := [Cond.instanceMethod yX10_fewestAnew, Cond.selects RX10 yX10_fewestAnew yX10_fewestAnew, Cond.code yX10_fewestAnew cX10_fewestAnew 5 (some .int), Cond.methodLink RX10 312 yX10_shortestRow, Cond.static yX10_shortestRow, Cond.code yX10_shortestRow cX10_shortestRow 4 (some .int), Cond.methodLink RL 167 yX11_fewestAnew, Cond.instanceMethod yX11_fewestAnew, Cond.selects RX11 yX11_fewestAnew yX11_fewestAnew, Cond.code yX11_fewestAnew cX11_fewestAnew 3 (some .int), Cond.methodLink RX11 239 yX11_fewest, Cond.methodLink RL 168 yL_fall, Cond.static yL_fall, Cond.codeWith yL_fall cL_fall 5 (some .int) [(0, 10, 13, 31), (0, 10, 17, 13)], Cond.methodLink RL 77 yX10_fall, Cond.instanceMethod yX10_fall, Cond.selects RX10 yX10_fall yX10_fall, Cond.code yX10_fall cX10_fall 3 (some .int), Cond.fieldLink RX10 321 "Gaitwright$Falls" "direction" "LGaitwright$Row;", Cond.fieldLink RX10 324 "Gaitwright$Falls" "what" "LGaitwright$Row;", Cond.fieldLink RX10 327 "Gaitwright$Falls" "point" "LGaitwright$Row;", Cond.methodLink RX10 316 yX1_kept, Cond.instanceMethod yX1_kept, Cond.selects RX1 yX1_kept yX1_kept]
def wsL_law0_r42 : List Cond := [Cond.code yX1_kept cX1_kept 1 (some .int), Cond.methodLink RX1 30 Lib.Math.min.name, Cond.methodLink RL 170 yX11_fall, Cond.instanceMethod yX11_fall, Cond.selects RX11 yX11_fall yX11_fall, Cond.code yX11_fall cX11_fall 4 (some .int)]
def wsL_law0 : List Cond := (wsL_law0_r1 ++ (wsL_law0_r2 ++ (wsL_law0_r3 ++ (wsL_law0_r4 ++ (wsL_law0_r5 ++ (wsL_law0_r6 ++ (wsL_law0_r7 ++ (wsL_law0_r8 ++ (wsL_law0_r9 ++ (wsL_law0_r10 ++ (wsL_law0_r11 ++ (wsL_law0_r12 ++ (wsL_law0_r13 ++ (wsL_law0_r14 ++ (wsL_law0_r15 ++ (wsL_law0_r16 ++ (wsL_law0_r17 ++ (wsL_law0_r18 ++ (wsL_law0_r19 ++ (wsL_law0_r20 ++ (wsL_law0_r21 ++ (wsL_law0_r22 ++ (wsL_law0_r23 ++ (wsL_law0_r24 ++ (wsL_law0_r25 ++ (wsL_law0_r26 ++ (wsL_law0_r27 ++ (wsL_law0_r28 ++ (wsL_law0_r29 ++ (wsL_law0_r30 ++ (wsL_law0_r31 ++ (wsL_law0_r32 ++ (wsL_law0_r33 ++ (wsL_law0_r34 ++ (wsL_law0_r35 ++ (wsL_law0_r36 ++ (wsL_law0_r37 ++ (wsL_law0_r38 ++ (wsL_law0_r39 ++ (wsL_law0_r40 ++ (wsL_law0_r41 ++ wsL_law0_r42))))))))))))))))))))))))))))))))))))))))) ++ wsX100 ++ wsX110 ++ wsX40 ++ wsX50 ++ wsX20 ++ wsX90 ++ wsX60 ++ wsX00 ++ wsX10 ++ wsX30 ++ wsX70 ++ wsX80 ++ ([] : List Cond)
def wsL_law : List Cond := wsL_law0 ++ (vx_atS RX10 93 "java/lang/IllegalArgumentException" ["java/lang/RuntimeException", "java/lang/Exception"]).filter goodWord ++ (vx_atS RX10 104 "java/lang/IllegalStateException" ["java/lang/RuntimeException", "java/lang/Exception"]).filter goodWord ++ (vx_atS RX10 159 "java/lang/IndexOutOfBoundsException" ["java/lang/RuntimeException", "java/lang/Exception"]).filter goodWord
theorem inJxfd54e : ∀ w ∈ wsJxfd54e0, w ∈ lw_tbl := by decide +kernel
theorem inJx3cf43 : ∀ w ∈ wsJx3cf430, w ∈ lw_tbl := by decide +kernel
theorem inJ7 : ∀ w ∈ wsJ70, w ∈ lw_tbl := by decide +kernel
theorem dX0_init_0 : decode cX0_init 0 = .ok (.aload_n 0, 1) := by decide +kernel
theorem dX0_init_1 : decode cX0_init 1 = .ok (.invokespecial 3, 3) := by decide +kernel
theorem dX0_init_4 : decode cX0_init 4 = .ok (.aload_n 0, 1) := by decide +kernel
theorem dX0_init_5 : decode cX0_init 5 = .ok (.iconst 0, 1) := by decide +kernel
theorem dX0_init_6 : decode cX0_init 6 = .ok (.putfield 9, 3) := by decide +kernel
theorem dX0_init_9 : decode cX0_init 9 = .ok (.aload_n 0, 1) := by decide +kernel
theorem dX0_init_10 : decode cX0_init 10 = .ok (.iconst 0, 1) := by decide +kernel
theorem dX0_init_11 : decode cX0_init 11 = .ok (.putfield 15, 3) := by decide +kernel
theorem dX0_init_14 : decode cX0_init 14 = .ok (.aload_n 0, 1) := by decide +kernel
theorem dX0_init_15 : decode cX0_init 15 = .ok (.iconst (-1), 1) := by decide +kernel
theorem dX0_init_16 : decode cX0_init 16 = .ok (.putfield 18, 3) := by decide +kernel
theorem dX0_init_19 : decode cX0_init 19 = .ok (.aload_n 0, 1) := by decide +kernel
theorem dX0_init_20 : decode cX0_init 20 = .ok (.iconst 0, 1) := by decide +kernel
theorem dX0_init_21 : decode cX0_init 21 = .ok (.putfield 21, 3) := by decide +kernel
theorem dX0_init_24 : decode cX0_init 24 = .ok (.return_, 1) := by decide +kernel
theorem dX0_forget_0 : decode cX0_forget 0 = .ok (.aload_n 0, 1) := by decide +kernel
theorem dX0_forget_1 : decode cX0_forget 1 = .ok (.iconst 0, 1) := by decide +kernel
theorem dX0_forget_2 : decode cX0_forget 2 = .ok (.putfield 9, 3) := by decide +kernel
theorem dX0_forget_5 : decode cX0_forget 5 = .ok (.aload_n 0, 1) := by decide +kernel
theorem dX0_forget_6 : decode cX0_forget 6 = .ok (.iconst 0, 1) := by decide +kernel
theorem dX0_forget_7 : decode cX0_forget 7 = .ok (.putfield 15, 3) := by decide +kernel
theorem dX0_forget_10 : decode cX0_forget 10 = .ok (.aload_n 0, 1) := by decide +kernel
theorem dX0_forget_11 : decode cX0_forget 11 = .ok (.iconst (-1), 1) := by decide +kernel
theorem dX0_forget_12 : decode cX0_forget 12 = .ok (.putfield 18, 3) := by decide +kernel
theorem dX0_forget_15 : decode cX0_forget 15 = .ok (.aload_n 0, 1) := by decide +kernel
theorem dX0_forget_16 : decode cX0_forget 16 = .ok (.iconst 0, 1) := by decide +kernel
theorem dX0_forget_17 : decode cX0_forget 17 = .ok (.putfield 21, 3) := by decide +kernel
theorem dX0_forget_20 : decode cX0_forget 20 = .ok (.return_, 1) := by decide +kernel
theorem dX0_beginAct_0 : decode cX0_beginAct 0 = .ok (.aload_n 0, 1) := by decide +kernel
theorem dX0_beginAct_1 : decode cX0_beginAct 1 = .ok (.iconst 0, 1) := by decide +kernel
theorem dX0_beginAct_2 : decode cX0_beginAct 2 = .ok (.putfield 21, 3) := by decide +kernel
theorem dX0_beginAct_5 : decode cX0_beginAct 5 = .ok (.return_, 1) := by decide +kernel
theorem dX0_tell_0 : decode cX0_tell 0 = .ok (.aload_n 0, 1) := by decide +kernel
theorem dX0_tell_1 : decode cX0_tell 1 = .ok (.getfield 9, 3) := by decide +kernel
theorem dX0_tell_4 : decode cX0_tell 4 = .ok (.ifCond .ne 13, 3) := by decide +kernel
theorem dX0_tell_7 : decode cX0_tell 7 = .ok (.aload_n 0, 1) := by decide +kernel
theorem dX0_tell_8 : decode cX0_tell 8 = .ok (.iload_n 1, 1) := by decide +kernel
theorem dX0_tell_9 : decode cX0_tell 9 = .ok (.putfield 15, 3) := by decide +kernel
theorem dX0_tell_12 : decode cX0_tell 12 = .ok (.aload_n 0, 1) := by decide +kernel
theorem dX0_tell_13 : decode cX0_tell 13 = .ok (.iload_n 2, 1) := by decide +kernel
theorem dX0_tell_14 : decode cX0_tell 14 = .ok (.putfield 18, 3) := by decide +kernel
theorem dX0_tell_17 : decode cX0_tell 17 = .ok (.aload_n 0, 1) := by decide +kernel
theorem dX0_tell_18 : decode cX0_tell 18 = .ok (.getfield 21, 3) := by decide +kernel
theorem dX0_tell_21 : decode cX0_tell 21 = .ok (.ifCond .ne 8, 3) := by decide +kernel
theorem dX0_tell_24 : decode cX0_tell 24 = .ok (.aload_n 0, 1) := by decide +kernel
theorem dX0_tell_25 : decode cX0_tell 25 = .ok (.iload_n 1, 1) := by decide +kernel
theorem dX0_tell_26 : decode cX0_tell 26 = .ok (.putfield 21, 3) := by decide +kernel
theorem dX0_tell_29 : decode cX0_tell 29 = .ok (.aload_n 0, 1) := by decide +kernel
theorem dX0_tell_30 : decode cX0_tell 30 = .ok (.dup, 1) := by decide +kernel
theorem dX0_tell_31 : decode cX0_tell 31 = .ok (.getfield 9, 3) := by decide +kernel
theorem dX0_tell_34 : decode cX0_tell 34 = .ok (.iconst 1, 1) := by decide +kernel
theorem dX0_tell_35 : decode cX0_tell 35 = .ok (.iadd, 1) := by decide +kernel
theorem dX0_tell_36 : decode cX0_tell 36 = .ok (.putfield 9, 3) := by decide +kernel
theorem dX0_tell_39 : decode cX0_tell 39 = .ok (.return_, 1) := by decide +kernel
set_option maxRecDepth 20000 in
theorem ggX1_init_X8_init : GoodIn wsX1_init wsX8_init := goodIn_r _ [13, 14, 2, 3, 15, 16, 17, 18, 19, 20, 21] rfl (by decide +kernel)
set_option maxRecDepth 20000 in
theorem gX1_init_X8_init : GoodIn wsX1_init (wsX8_init) := ggX1_init_X8_init
theorem dX1_init_0 : decode cX1_init 0 = .ok (.aload_n 0, 1) := by decide +kernel
theorem dX1_init_1 : decode cX1_init 1 = .ok (.invokespecial 3, 3) := by decide +kernel
theorem dX1_init_4 : decode cX1_init 4 = .ok (.aload_n 0, 1) := by decide +kernel
theorem dX1_init_5 : decode cX1_init 5 = .ok (.new 9, 3) := by decide +kernel
theorem dX1_init_8 : decode cX1_init 8 = .ok (.dup, 1) := by decide +kernel
theorem dX1_init_9 : decode cX1_init 9 = .ok (.bipush 40, 2) := by decide +kernel
theorem dX1_init_11 : decode cX1_init 11 = .ok (.iconst 0, 1) := by decide +kernel
theorem dX1_init_12 : decode cX1_init 12 = .ok (.invokespecial 11, 3) := by decide +kernel
theorem dX1_init_15 : decode cX1_init 15 = .ok (.putfield 14, 3) := by decide +kernel
theorem dX1_init_18 : decode cX1_init 18 = .ok (.aload_n 0, 1) := by decide +kernel
theorem dX1_init_19 : decode cX1_init 19 = .ok (.new 9, 3) := by decide +kernel
theorem dX1_init_22 : decode cX1_init 22 = .ok (.dup, 1) := by decide +kernel
theorem dX1_init_23 : decode cX1_init 23 = .ok (.bipush 40, 2) := by decide +kernel
theorem dX1_init_25 : decode cX1_init 25 = .ok (.iconst 0, 1) := by decide +kernel
theorem dX1_init_26 : decode cX1_init 26 = .ok (.invokespecial 11, 3) := by decide +kernel
theorem dX1_init_29 : decode cX1_init 29 = .ok (.putfield 20, 3) := by decide +kernel
theorem dX1_init_32 : decode cX1_init 32 = .ok (.aload_n 0, 1) := by decide +kernel
theorem dX1_init_33 : decode cX1_init 33 = .ok (.new 9, 3) := by decide +kernel
theorem dX1_init_36 : decode cX1_init 36 = .ok (.dup, 1) := by decide +kernel
theorem dX1_init_37 : decode cX1_init 37 = .ok (.bipush 40, 2) := by decide +kernel
theorem dX1_init_39 : decode cX1_init 39 = .ok (.iconst (-1), 1) := by decide +kernel
theorem dX1_init_40 : decode cX1_init 40 = .ok (.invokespecial 11, 3) := by decide +kernel
theorem dX1_init_43 : decode cX1_init 43 = .ok (.putfield 23, 3) := by decide +kernel
theorem dX1_init_46 : decode cX1_init 46 = .ok (.aload_n 0, 1) := by decide +kernel
theorem dX1_init_47 : decode cX1_init 47 = .ok (.iconst 0, 1) := by decide +kernel
theorem dX1_init_48 : decode cX1_init 48 = .ok (.putfield 26, 3) := by decide +kernel
theorem dX1_init_51 : decode cX1_init 51 = .ok (.return_, 1) := by decide +kernel
theorem dX1_kept_0 : decode cX1_kept 0 = .ok (.aload_n 0, 1) := by decide +kernel
theorem dX1_kept_1 : decode cX1_kept 1 = .ok (.getfield 26, 3) := by decide +kernel
theorem dX1_kept_4 : decode cX1_kept 4 = .ok (.bipush 40, 2) := by decide +kernel
theorem dX1_kept_6 : decode cX1_kept 6 = .ok (.invokestatic 30, 3) := by decide +kernel
theorem dX1_kept_9 : decode cX1_kept 9 = .ok (.ireturn, 1) := by decide +kernel
set_option maxRecDepth 20000 in
theorem ggX1_keep_X8_put : GoodIn wsX1_keep wsX8_put := goodIn_r _ [9, 10, 15] rfl (by decide +kernel)
set_option maxRecDepth 20000 in
theorem gX1_keep_X8_put : GoodIn wsX1_keep (wsV RX1 36 RX8 yX8_put wsX8_put) := goodIn_app (goodIn_r _ [5, 6, 7, 8] rfl (by decide +kernel)) ggX1_keep_X8_put
theorem dX1_keep_0 : decode cX1_keep 0 = .ok (.aload_n 0, 1) := by decide +kernel
theorem dX1_keep_1 : decode cX1_keep 1 = .ok (.getfield 14, 3) := by decide +kernel
theorem dX1_keep_4 : decode cX1_keep 4 = .ok (.aload_n 0, 1) := by decide +kernel
theorem dX1_keep_5 : decode cX1_keep 5 = .ok (.getfield 26, 3) := by decide +kernel
theorem dX1_keep_8 : decode cX1_keep 8 = .ok (.iload_n 1, 1) := by decide +kernel
theorem dX1_keep_9 : decode cX1_keep 9 = .ok (.invokevirtual 36, 3) := by decide +kernel
theorem dX1_keep_12 : decode cX1_keep 12 = .ok (.aload_n 0, 1) := by decide +kernel
theorem dX1_keep_13 : decode cX1_keep 13 = .ok (.getfield 20, 3) := by decide +kernel
theorem dX1_keep_16 : decode cX1_keep 16 = .ok (.aload_n 0, 1) := by decide +kernel
theorem dX1_keep_17 : decode cX1_keep 17 = .ok (.getfield 26, 3) := by decide +kernel
theorem dX1_keep_20 : decode cX1_keep 20 = .ok (.iload_n 2, 1) := by decide +kernel
theorem dX1_keep_21 : decode cX1_keep 21 = .ok (.invokevirtual 36, 3) := by decide +kernel
theorem dX1_keep_24 : decode cX1_keep 24 = .ok (.aload_n 0, 1) := by decide +kernel
theorem dX1_keep_25 : decode cX1_keep 25 = .ok (.getfield 23, 3) := by decide +kernel
theorem dX1_keep_28 : decode cX1_keep 28 = .ok (.aload_n 0, 1) := by decide +kernel
theorem dX1_keep_29 : decode cX1_keep 29 = .ok (.getfield 26, 3) := by decide +kernel
theorem dX1_keep_32 : decode cX1_keep 32 = .ok (.iload_n 3, 1) := by decide +kernel
theorem dX1_keep_33 : decode cX1_keep 33 = .ok (.invokevirtual 36, 3) := by decide +kernel
theorem dX1_keep_36 : decode cX1_keep 36 = .ok (.aload_n 0, 1) := by decide +kernel
theorem dX1_keep_37 : decode cX1_keep 37 = .ok (.dup, 1) := by decide +kernel
theorem dX1_keep_38 : decode cX1_keep 38 = .ok (.getfield 26, 3) := by decide +kernel
theorem dX1_keep_41 : decode cX1_keep 41 = .ok (.iconst 1, 1) := by decide +kernel
theorem dX1_keep_42 : decode cX1_keep 42 = .ok (.iadd, 1) := by decide +kernel
theorem dX1_keep_43 : decode cX1_keep 43 = .ok (.putfield 26, 3) := by decide +kernel
theorem dX1_keep_46 : decode cX1_keep 46 = .ok (.return_, 1) := by decide +kernel
set_option maxRecDepth 20000 in
theorem ggX2_init_X8_init : GoodIn wsX2_init wsX8_init := goodIn_r _ [16, 17, 2, 3, 18, 19, 20, 21, 22, 23, 24] rfl (by decide +kernel)
set_option maxRecDepth 20000 in
theorem gX2_init_X8_init : GoodIn wsX2_init (wsX8_init) := ggX2_init_X8_init
theorem dX2_init_0 : decode cX2_init 0 = .ok (.aload_n 0, 1) := by decide +kernel
theorem dX2_init_1 : decode cX2_init 1 = .ok (.invokespecial 3, 3) := by decide +kernel
theorem dX2_init_4 : decode cX2_init 4 = .ok (.aload_n 0, 1) := by decide +kernel
theorem dX2_init_5 : decode cX2_init 5 = .ok (.new 9, 3) := by decide +kernel
theorem dX2_init_8 : decode cX2_init 8 = .ok (.dup, 1) := by decide +kernel
theorem dX2_init_9 : decode cX2_init 9 = .ok (.bipush 6, 2) := by decide +kernel
theorem dX2_init_11 : decode cX2_init 11 = .ok (.iconst 0, 1) := by decide +kernel
theorem dX2_init_12 : decode cX2_init 12 = .ok (.invokespecial 11, 3) := by decide +kernel
theorem dX2_init_15 : decode cX2_init 15 = .ok (.putfield 14, 3) := by decide +kernel
theorem dX2_init_18 : decode cX2_init 18 = .ok (.aload_n 0, 1) := by decide +kernel
theorem dX2_init_19 : decode cX2_init 19 = .ok (.new 9, 3) := by decide +kernel
theorem dX2_init_22 : decode cX2_init 22 = .ok (.dup, 1) := by decide +kernel
theorem dX2_init_23 : decode cX2_init 23 = .ok (.bipush 6, 2) := by decide +kernel
theorem dX2_init_25 : decode cX2_init 25 = .ok (.iconst 0, 1) := by decide +kernel
theorem dX2_init_26 : decode cX2_init 26 = .ok (.invokespecial 11, 3) := by decide +kernel
theorem dX2_init_29 : decode cX2_init 29 = .ok (.putfield 20, 3) := by decide +kernel
theorem dX2_init_32 : decode cX2_init 32 = .ok (.aload_n 0, 1) := by decide +kernel
theorem dX2_init_33 : decode cX2_init 33 = .ok (.new 9, 3) := by decide +kernel
theorem dX2_init_36 : decode cX2_init 36 = .ok (.dup, 1) := by decide +kernel
theorem dX2_init_37 : decode cX2_init 37 = .ok (.bipush 6, 2) := by decide +kernel
theorem dX2_init_39 : decode cX2_init 39 = .ok (.iconst 0, 1) := by decide +kernel
theorem dX2_init_40 : decode cX2_init 40 = .ok (.invokespecial 11, 3) := by decide +kernel
theorem dX2_init_43 : decode cX2_init 43 = .ok (.putfield 23, 3) := by decide +kernel
theorem dX2_init_46 : decode cX2_init 46 = .ok (.aload_n 0, 1) := by decide +kernel
theorem dX2_init_47 : decode cX2_init 47 = .ok (.iconst 0, 1) := by decide +kernel
theorem dX2_init_48 : decode cX2_init 48 = .ok (.putfield 26, 3) := by decide +kernel
theorem dX2_init_51 : decode cX2_init 51 = .ok (.aload_n 0, 1) := by decide +kernel
theorem dX2_init_52 : decode cX2_init 52 = .ok (.iconst 0, 1) := by decide +kernel
theorem dX2_init_53 : decode cX2_init 53 = .ok (.putfield 30, 3) := by decide +kernel
theorem dX2_init_56 : decode cX2_init 56 = .ok (.aload_n 0, 1) := by decide +kernel
theorem dX2_init_57 : decode cX2_init 57 = .ok (.iconst 0, 1) := by decide +kernel
theorem dX2_init_58 : decode cX2_init 58 = .ok (.putfield 33, 3) := by decide +kernel
theorem dX2_init_61 : decode cX2_init 61 = .ok (.aload_n 0, 1) := by decide +kernel
theorem dX2_init_62 : decode cX2_init 62 = .ok (.iconst 0, 1) := by decide +kernel
theorem dX2_init_63 : decode cX2_init 63 = .ok (.putfield 36, 3) := by decide +kernel
theorem dX2_init_66 : decode cX2_init 66 = .ok (.return_, 1) := by decide +kernel
set_option maxRecDepth 20000 in
theorem ggX2_join_X8_put : GoodIn wsX2_join wsX8_put := goodIn_r _ [9, 10, 18] rfl (by decide +kernel)
set_option maxRecDepth 20000 in
theorem gX2_join_X8_put : GoodIn wsX2_join (wsV RX2 39 RX8 yX8_put wsX8_put) := goodIn_app (goodIn_r _ [5, 6, 7, 8] rfl (by decide +kernel)) ggX2_join_X8_put
theorem dX2_join_0 : decode cX2_join 0 = .ok (.aload_n 0, 1) := by decide +kernel
theorem dX2_join_1 : decode cX2_join 1 = .ok (.getfield 26, 3) := by decide +kernel
theorem dX2_join_4 : decode cX2_join 4 = .ok (.istore 4, 2) := by decide +kernel
theorem dX2_join_6 : decode cX2_join 6 = .ok (.aload_n 0, 1) := by decide +kernel
theorem dX2_join_7 : decode cX2_join 7 = .ok (.getfield 14, 3) := by decide +kernel
theorem dX2_join_10 : decode cX2_join 10 = .ok (.iload 4, 2) := by decide +kernel
theorem dX2_join_12 : decode cX2_join 12 = .ok (.iload_n 1, 1) := by decide +kernel
theorem dX2_join_13 : decode cX2_join 13 = .ok (.invokevirtual 39, 3) := by decide +kernel
theorem dX2_join_16 : decode cX2_join 16 = .ok (.aload_n 0, 1) := by decide +kernel
theorem dX2_join_17 : decode cX2_join 17 = .ok (.getfield 20, 3) := by decide +kernel
theorem dX2_join_20 : decode cX2_join 20 = .ok (.iload 4, 2) := by decide +kernel
theorem dX2_join_22 : decode cX2_join 22 = .ok (.iload_n 2, 1) := by decide +kernel
theorem dX2_join_23 : decode cX2_join 23 = .ok (.invokevirtual 39, 3) := by decide +kernel
theorem dX2_join_26 : decode cX2_join 26 = .ok (.aload_n 0, 1) := by decide +kernel
theorem dX2_join_27 : decode cX2_join 27 = .ok (.getfield 23, 3) := by decide +kernel
theorem dX2_join_30 : decode cX2_join 30 = .ok (.iload 4, 2) := by decide +kernel
theorem dX2_join_32 : decode cX2_join 32 = .ok (.iload_n 3, 1) := by decide +kernel
theorem dX2_join_33 : decode cX2_join 33 = .ok (.invokevirtual 39, 3) := by decide +kernel
theorem dX2_join_36 : decode cX2_join 36 = .ok (.aload_n 0, 1) := by decide +kernel
theorem dX2_join_37 : decode cX2_join 37 = .ok (.dup, 1) := by decide +kernel
theorem dX2_join_38 : decode cX2_join 38 = .ok (.getfield 26, 3) := by decide +kernel
theorem dX2_join_41 : decode cX2_join 41 = .ok (.iconst 1, 1) := by decide +kernel
theorem dX2_join_42 : decode cX2_join 42 = .ok (.iadd, 1) := by decide +kernel
theorem dX2_join_43 : decode cX2_join 43 = .ok (.putfield 26, 3) := by decide +kernel
theorem dX2_join_46 : decode cX2_join 46 = .ok (.iload 4, 2) := by decide +kernel
theorem dX2_join_48 : decode cX2_join 48 = .ok (.ireturn, 1) := by decide +kernel
theorem dX2_carry_0 : decode cX2_carry 0 = .ok (.aload_n 0, 1) := by decide +kernel
theorem dX2_carry_1 : decode cX2_carry 1 = .ok (.iload_n 1, 1) := by decide +kernel
theorem dX2_carry_2 : decode cX2_carry 2 = .ok (.putfield 30, 3) := by decide +kernel
theorem dX2_carry_5 : decode cX2_carry 5 = .ok (.aload_n 0, 1) := by decide +kernel
theorem dX2_carry_6 : decode cX2_carry 6 = .ok (.iload_n 2, 1) := by decide +kernel
theorem dX2_carry_7 : decode cX2_carry 7 = .ok (.putfield 33, 3) := by decide +kernel
theorem dX2_carry_10 : decode cX2_carry 10 = .ok (.aload_n 0, 1) := by decide +kernel
theorem dX2_carry_11 : decode cX2_carry 11 = .ok (.iload_n 3, 1) := by decide +kernel
theorem dX2_carry_12 : decode cX2_carry 12 = .ok (.putfield 36, 3) := by decide +kernel
theorem dX2_carry_15 : decode cX2_carry 15 = .ok (.return_, 1) := by decide +kernel
theorem dX2_weight_0 : decode cX2_weight 0 = .ok (.bipush 10, 2) := by decide +kernel
theorem dX2_weight_2 : decode cX2_weight 2 = .ok (.aload_n 0, 1) := by decide +kernel
theorem dX2_weight_3 : decode cX2_weight 3 = .ok (.getfield 30, 3) := by decide +kernel
theorem dX2_weight_6 : decode cX2_weight 6 = .ok (.iadd, 1) := by decide +kernel
theorem dX2_weight_7 : decode cX2_weight 7 = .ok (.ireturn, 1) := by decide +kernel
set_option maxRecDepth 20000 in
theorem ggX3_init_X8_init : GoodIn wsX3_init wsX8_init := goodIn_r _ [16, 17, 2, 3, 18, 19, 20, 21, 22, 23, 24] rfl (by decide +kernel)
set_option maxRecDepth 20000 in
theorem gX3_init_X8_init : GoodIn wsX3_init (wsX8_init) := ggX3_init_X8_init
theorem dX3_init_0 : decode cX3_init 0 = .ok (.aload_n 0, 1) := by decide +kernel
theorem dX3_init_1 : decode cX3_init 1 = .ok (.invokespecial 3, 3) := by decide +kernel
theorem dX3_init_4 : decode cX3_init 4 = .ok (.aload_n 0, 1) := by decide +kernel
theorem dX3_init_5 : decode cX3_init 5 = .ok (.new 9, 3) := by decide +kernel
theorem dX3_init_8 : decode cX3_init 8 = .ok (.dup, 1) := by decide +kernel
theorem dX3_init_9 : decode cX3_init 9 = .ok (.bipush 8, 2) := by decide +kernel
theorem dX3_init_11 : decode cX3_init 11 = .ok (.iconst 0, 1) := by decide +kernel
theorem dX3_init_12 : decode cX3_init 12 = .ok (.invokespecial 11, 3) := by decide +kernel
theorem dX3_init_15 : decode cX3_init 15 = .ok (.putfield 14, 3) := by decide +kernel
theorem dX3_init_18 : decode cX3_init 18 = .ok (.aload_n 0, 1) := by decide +kernel
theorem dX3_init_19 : decode cX3_init 19 = .ok (.new 9, 3) := by decide +kernel
theorem dX3_init_22 : decode cX3_init 22 = .ok (.dup, 1) := by decide +kernel
theorem dX3_init_23 : decode cX3_init 23 = .ok (.bipush 8, 2) := by decide +kernel
theorem dX3_init_25 : decode cX3_init 25 = .ok (.iconst 0, 1) := by decide +kernel
theorem dX3_init_26 : decode cX3_init 26 = .ok (.invokespecial 11, 3) := by decide +kernel
theorem dX3_init_29 : decode cX3_init 29 = .ok (.putfield 20, 3) := by decide +kernel
theorem dX3_init_32 : decode cX3_init 32 = .ok (.aload_n 0, 1) := by decide +kernel
theorem dX3_init_33 : decode cX3_init 33 = .ok (.new 9, 3) := by decide +kernel
theorem dX3_init_36 : decode cX3_init 36 = .ok (.dup, 1) := by decide +kernel
theorem dX3_init_37 : decode cX3_init 37 = .ok (.bipush 8, 2) := by decide +kernel
theorem dX3_init_39 : decode cX3_init 39 = .ok (.iconst 0, 1) := by decide +kernel
theorem dX3_init_40 : decode cX3_init 40 = .ok (.invokespecial 11, 3) := by decide +kernel
theorem dX3_init_43 : decode cX3_init 43 = .ok (.putfield 23, 3) := by decide +kernel
theorem dX3_init_46 : decode cX3_init 46 = .ok (.aload_n 0, 1) := by decide +kernel
theorem dX3_init_47 : decode cX3_init 47 = .ok (.new 9, 3) := by decide +kernel
theorem dX3_init_50 : decode cX3_init 50 = .ok (.dup, 1) := by decide +kernel
theorem dX3_init_51 : decode cX3_init 51 = .ok (.bipush 8, 2) := by decide +kernel
theorem dX3_init_53 : decode cX3_init 53 = .ok (.iconst 0, 1) := by decide +kernel
theorem dX3_init_54 : decode cX3_init 54 = .ok (.invokespecial 11, 3) := by decide +kernel
theorem dX3_init_57 : decode cX3_init 57 = .ok (.putfield 26, 3) := by decide +kernel
theorem dX3_init_60 : decode cX3_init 60 = .ok (.aload_n 0, 1) := by decide +kernel
theorem dX3_init_61 : decode cX3_init 61 = .ok (.new 9, 3) := by decide +kernel
theorem dX3_init_64 : decode cX3_init 64 = .ok (.dup, 1) := by decide +kernel
theorem dX3_init_65 : decode cX3_init 65 = .ok (.bipush 8, 2) := by decide +kernel
theorem dX3_init_67 : decode cX3_init 67 = .ok (.iconst 0, 1) := by decide +kernel
theorem dX3_init_68 : decode cX3_init 68 = .ok (.invokespecial 11, 3) := by decide +kernel
theorem dX3_init_71 : decode cX3_init 71 = .ok (.putfield 29, 3) := by decide +kernel
theorem dX3_init_74 : decode cX3_init 74 = .ok (.aload_n 0, 1) := by decide +kernel
theorem dX3_init_75 : decode cX3_init 75 = .ok (.iconst 0, 1) := by decide +kernel
theorem dX3_init_76 : decode cX3_init 76 = .ok (.putfield 32, 3) := by decide +kernel
theorem dX3_init_79 : decode cX3_init 79 = .ok (.aload_n 0, 1) := by decide +kernel
theorem dX3_init_80 : decode cX3_init 80 = .ok (.iconst 0, 1) := by decide +kernel
theorem dX3_init_81 : decode cX3_init 81 = .ok (.putfield 36, 3) := by decide +kernel
theorem dX3_init_84 : decode cX3_init 84 = .ok (.return_, 1) := by decide +kernel
set_option maxRecDepth 20000 in
theorem ggX3_add_X8_put : GoodIn wsX3_add wsX8_put := goodIn_r _ [11, 12, 20] rfl (by decide +kernel)
set_option maxRecDepth 20000 in
theorem gX3_add_X8_put : GoodIn wsX3_add (wsV RX3 39 RX8 yX8_put wsX8_put) := goodIn_app (goodIn_r _ [7, 8, 9, 10] rfl (by decide +kernel)) ggX3_add_X8_put
theorem dX3_add_0 : decode cX3_add 0 = .ok (.aload_n 0, 1) := by decide +kernel
theorem dX3_add_1 : decode cX3_add 1 = .ok (.getfield 14, 3) := by decide +kernel
theorem dX3_add_4 : decode cX3_add 4 = .ok (.aload_n 0, 1) := by decide +kernel
theorem dX3_add_5 : decode cX3_add 5 = .ok (.getfield 32, 3) := by decide +kernel
theorem dX3_add_8 : decode cX3_add 8 = .ok (.iload_n 1, 1) := by decide +kernel
theorem dX3_add_9 : decode cX3_add 9 = .ok (.invokevirtual 39, 3) := by decide +kernel
theorem dX3_add_12 : decode cX3_add 12 = .ok (.aload_n 0, 1) := by decide +kernel
theorem dX3_add_13 : decode cX3_add 13 = .ok (.getfield 20, 3) := by decide +kernel
theorem dX3_add_16 : decode cX3_add 16 = .ok (.aload_n 0, 1) := by decide +kernel
theorem dX3_add_17 : decode cX3_add 17 = .ok (.getfield 32, 3) := by decide +kernel
theorem dX3_add_20 : decode cX3_add 20 = .ok (.iload_n 2, 1) := by decide +kernel
theorem dX3_add_21 : decode cX3_add 21 = .ok (.invokevirtual 39, 3) := by decide +kernel
theorem dX3_add_24 : decode cX3_add 24 = .ok (.aload_n 0, 1) := by decide +kernel
theorem dX3_add_25 : decode cX3_add 25 = .ok (.getfield 23, 3) := by decide +kernel
theorem dX3_add_28 : decode cX3_add 28 = .ok (.aload_n 0, 1) := by decide +kernel
theorem dX3_add_29 : decode cX3_add 29 = .ok (.getfield 32, 3) := by decide +kernel
theorem dX3_add_32 : decode cX3_add 32 = .ok (.iload_n 3, 1) := by decide +kernel
theorem dX3_add_33 : decode cX3_add 33 = .ok (.invokevirtual 39, 3) := by decide +kernel
theorem dX3_add_36 : decode cX3_add 36 = .ok (.aload_n 0, 1) := by decide +kernel
theorem dX3_add_37 : decode cX3_add 37 = .ok (.getfield 26, 3) := by decide +kernel
theorem dX3_add_40 : decode cX3_add 40 = .ok (.aload_n 0, 1) := by decide +kernel
theorem dX3_add_41 : decode cX3_add 41 = .ok (.getfield 32, 3) := by decide +kernel
theorem dX3_add_44 : decode cX3_add 44 = .ok (.iload 4, 2) := by decide +kernel
theorem dX3_add_46 : decode cX3_add 46 = .ok (.invokevirtual 39, 3) := by decide +kernel
theorem dX3_add_49 : decode cX3_add 49 = .ok (.aload_n 0, 1) := by decide +kernel
theorem dX3_add_50 : decode cX3_add 50 = .ok (.getfield 29, 3) := by decide +kernel
theorem dX3_add_53 : decode cX3_add 53 = .ok (.aload_n 0, 1) := by decide +kernel
theorem dX3_add_54 : decode cX3_add 54 = .ok (.getfield 32, 3) := by decide +kernel
theorem dX3_add_57 : decode cX3_add 57 = .ok (.iload 5, 2) := by decide +kernel
theorem dX3_add_59 : decode cX3_add 59 = .ok (.invokevirtual 39, 3) := by decide +kernel
theorem dX3_add_62 : decode cX3_add 62 = .ok (.aload_n 0, 1) := by decide +kernel
theorem dX3_add_63 : decode cX3_add 63 = .ok (.dup, 1) := by decide +kernel
theorem dX3_add_64 : decode cX3_add 64 = .ok (.getfield 32, 3) := by decide +kernel
theorem dX3_add_67 : decode cX3_add 67 = .ok (.iconst 1, 1) := by decide +kernel
theorem dX3_add_68 : decode cX3_add 68 = .ok (.iadd, 1) := by decide +kernel
theorem dX3_add_69 : decode cX3_add 69 = .ok (.putfield 32, 3) := by decide +kernel
theorem dX3_add_72 : decode cX3_add 72 = .ok (.aload_n 0, 1) := by decide +kernel
theorem dX3_add_73 : decode cX3_add 73 = .ok (.getfield 32, 3) := by decide +kernel
theorem dX3_add_76 : decode cX3_add 76 = .ok (.ireturn, 1) := by decide +kernel
theorem dX3_clear_0 : decode cX3_clear 0 = .ok (.aload_n 0, 1) := by decide +kernel
theorem dX3_clear_1 : decode cX3_clear 1 = .ok (.iconst 0, 1) := by decide +kernel
theorem dX3_clear_2 : decode cX3_clear 2 = .ok (.putfield 32, 3) := by decide +kernel
theorem dX3_clear_5 : decode cX3_clear 5 = .ok (.aload_n 0, 1) := by decide +kernel
theorem dX3_clear_6 : decode cX3_clear 6 = .ok (.iconst 0, 1) := by decide +kernel
theorem dX3_clear_7 : decode cX3_clear 7 = .ok (.putfield 36, 3) := by decide +kernel
theorem dX3_clear_10 : decode cX3_clear 10 = .ok (.return_, 1) := by decide +kernel
theorem dX3_goOn_0 : decode cX3_goOn 0 = .ok (.aload_n 0, 1) := by decide +kernel
theorem dX3_goOn_1 : decode cX3_goOn 1 = .ok (.aload_n 0, 1) := by decide +kernel
theorem dX3_goOn_2 : decode cX3_goOn 2 = .ok (.getfield 36, 3) := by decide +kernel
theorem dX3_goOn_5 : decode cX3_goOn 5 = .ok (.iconst 1, 1) := by decide +kernel
theorem dX3_goOn_6 : decode cX3_goOn 6 = .ok (.iadd, 1) := by decide +kernel
theorem dX3_goOn_7 : decode cX3_goOn 7 = .ok (.aload_n 0, 1) := by decide +kernel
theorem dX3_goOn_8 : decode cX3_goOn 8 = .ok (.getfield 32, 3) := by decide +kernel
theorem dX3_goOn_11 : decode cX3_goOn 11 = .ok (.if_icmp .ge 12, 3) := by decide +kernel
theorem dX3_goOn_14 : decode cX3_goOn 14 = .ok (.aload_n 0, 1) := by decide +kernel
theorem dX3_goOn_15 : decode cX3_goOn 15 = .ok (.getfield 36, 3) := by decide +kernel
theorem dX3_goOn_18 : decode cX3_goOn 18 = .ok (.iconst 1, 1) := by decide +kernel
theorem dX3_goOn_19 : decode cX3_goOn 19 = .ok (.iadd, 1) := by decide +kernel
theorem dX3_goOn_20 : decode cX3_goOn 20 = .ok (.goto 4, 3) := by decide +kernel
theorem dX3_goOn_23 : decode cX3_goOn 23 = .ok (.iconst 0, 1) := by decide +kernel
theorem dX3_goOn_24 : decode cX3_goOn 24 = .ok (.putfield 36, 3) := by decide +kernel
theorem dX3_goOn_27 : decode cX3_goOn 27 = .ok (.return_, 1) := by decide +kernel
set_option maxRecDepth 20000 in
theorem ggX4_init_X8_init : GoodIn wsX4_init wsX8_init := goodIn_r _ [12, 13, 2, 3, 14, 15, 16, 17, 18, 19, 20] rfl (by decide +kernel)
set_option maxRecDepth 20000 in
theorem gX4_init_X8_init : GoodIn wsX4_init (wsX8_init) := ggX4_init_X8_init
theorem dX4_init_0 : decode cX4_init 0 = .ok (.aload_n 0, 1) := by decide +kernel
theorem dX4_init_1 : decode cX4_init 1 = .ok (.invokespecial 3, 3) := by decide +kernel
theorem dX4_init_4 : decode cX4_init 4 = .ok (.aload_n 0, 1) := by decide +kernel
theorem dX4_init_5 : decode cX4_init 5 = .ok (.new 9, 3) := by decide +kernel
theorem dX4_init_8 : decode cX4_init 8 = .ok (.dup, 1) := by decide +kernel
theorem dX4_init_9 : decode cX4_init 9 = .ok (.bipush 7, 2) := by decide +kernel
theorem dX4_init_11 : decode cX4_init 11 = .ok (.iconst (-1), 1) := by decide +kernel
theorem dX4_init_12 : decode cX4_init 12 = .ok (.invokespecial 11, 3) := by decide +kernel
theorem dX4_init_15 : decode cX4_init 15 = .ok (.putfield 14, 3) := by decide +kernel
theorem dX4_init_18 : decode cX4_init 18 = .ok (.aload_n 0, 1) := by decide +kernel
theorem dX4_init_19 : decode cX4_init 19 = .ok (.new 9, 3) := by decide +kernel
theorem dX4_init_22 : decode cX4_init 22 = .ok (.dup, 1) := by decide +kernel
theorem dX4_init_23 : decode cX4_init 23 = .ok (.bipush 6, 2) := by decide +kernel
theorem dX4_init_25 : decode cX4_init 25 = .ok (.iconst (-1), 1) := by decide +kernel
theorem dX4_init_26 : decode cX4_init 26 = .ok (.invokespecial 11, 3) := by decide +kernel
theorem dX4_init_29 : decode cX4_init 29 = .ok (.putfield 20, 3) := by decide +kernel
theorem dX4_init_32 : decode cX4_init 32 = .ok (.aload_n 0, 1) := by decide +kernel
theorem dX4_init_33 : decode cX4_init 33 = .ok (.iconst 0, 1) := by decide +kernel
theorem dX4_init_34 : decode cX4_init 34 = .ok (.putfield 23, 3) := by decide +kernel
theorem dX4_init_37 : decode cX4_init 37 = .ok (.return_, 1) := by decide +kernel
set_option maxRecDepth 20000 in
theorem ggX4_wrap_X8_at : GoodIn wsX4_wrap wsX8_at := goodIn_r _ [12, 13, 25] rfl (by decide +kernel)
set_option maxRecDepth 20000 in
theorem gX4_wrap_X8_at : GoodIn wsX4_wrap (wsV RX4 27 RX8 yX8_at wsX8_at) := goodIn_app (goodIn_r _ [8, 9, 10, 11] rfl (by decide +kernel)) ggX4_wrap_X8_at
set_option maxRecDepth 20000 in
theorem ggX4_wrap_X8_put : GoodIn wsX4_wrap wsX8_put := goodIn_r _ [17, 13, 25] rfl (by decide +kernel)
set_option maxRecDepth 20000 in
theorem gX4_wrap_X8_put : GoodIn wsX4_wrap (wsV RX4 31 RX8 yX8_put wsX8_put) := goodIn_app (goodIn_r _ [14, 15, 16, 11] rfl (by decide +kernel)) ggX4_wrap_X8_put
set_option maxRecDepth 20000 in
theorem ggX4_wrap_X4_isFurtherOut : GoodIn wsX4_wrap wsX4_isFurtherOut := goodIn_r _ [21] rfl (by decide +kernel)
set_option maxRecDepth 20000 in
theorem gX4_wrap_X4_isFurtherOut : GoodIn wsX4_wrap (va_wsS RX4 40 yX4_isFurtherOut wsX4_isFurtherOut) := goodIn_app (goodIn_r _ [18, 19, 20] rfl (by decide +kernel)) ggX4_wrap_X4_isFurtherOut
theorem dX4_wrap_0 : decode cX4_wrap 0 = .ok (.iconst 0, 1) := by decide +kernel
theorem dX4_wrap_1 : decode cX4_wrap 1 = .ok (.istore_n 3, 1) := by decide +kernel
theorem dX4_wrap_2 : decode cX4_wrap 2 = .ok (.sipush 400, 3) := by decide +kernel
theorem dX4_wrap_5 : decode cX4_wrap 5 = .ok (.istore 4, 2) := by decide +kernel
theorem dX4_wrap_7 : decode cX4_wrap 7 = .ok (.iconst 0, 1) := by decide +kernel
theorem dX4_wrap_8 : decode cX4_wrap 8 = .ok (.istore 5, 2) := by decide +kernel
theorem dX4_wrap_10 : decode cX4_wrap 10 = .ok (.iload 5, 2) := by decide +kernel
theorem dX4_wrap_12 : decode cX4_wrap 12 = .ok (.bipush 6, 2) := by decide +kernel
theorem dX4_wrap_14 : decode cX4_wrap 14 = .ok (.if_icmp .ge 51, 3) := by decide +kernel
theorem dX4_wrap_17 : decode cX4_wrap 17 = .ok (.aload_n 1, 1) := by decide +kernel
theorem dX4_wrap_18 : decode cX4_wrap 18 = .ok (.iload 5, 2) := by decide +kernel
theorem dX4_wrap_20 : decode cX4_wrap 20 = .ok (.invokevirtual 27, 3) := by decide +kernel
theorem dX4_wrap_23 : decode cX4_wrap 23 = .ok (.istore 6, 2) := by decide +kernel
theorem dX4_wrap_25 : decode cX4_wrap 25 = .ok (.iload 5, 2) := by decide +kernel
theorem dX4_wrap_27 : decode cX4_wrap 27 = .ok (.iload_n 2, 1) := by decide +kernel
theorem dX4_wrap_28 : decode cX4_wrap 28 = .ok (.if_icmp .eq 31, 3) := by decide +kernel
theorem dX4_wrap_31 : decode cX4_wrap 31 = .ok (.iload 6, 2) := by decide +kernel
theorem dX4_wrap_33 : decode cX4_wrap 33 = .ok (.iconst (-1), 1) := by decide +kernel
theorem dX4_wrap_34 : decode cX4_wrap 34 = .ok (.if_icmp .eq 25, 3) := by decide +kernel
theorem dX4_wrap_37 : decode cX4_wrap 37 = .ok (.aload_n 0, 1) := by decide +kernel
theorem dX4_wrap_38 : decode cX4_wrap 38 = .ok (.getfield 20, 3) := by decide +kernel
theorem dX4_wrap_41 : decode cX4_wrap 41 = .ok (.iload_n 3, 1) := by decide +kernel
theorem dX4_wrap_42 : decode cX4_wrap 42 = .ok (.iload 6, 2) := by decide +kernel
theorem dX4_wrap_44 : decode cX4_wrap 44 = .ok (.invokevirtual 31, 3) := by decide +kernel
theorem dX4_wrap_47 : decode cX4_wrap 47 = .ok (.iinc 3 1, 3) := by decide +kernel
theorem dX4_wrap_50 : decode cX4_wrap 50 = .ok (.iload 4, 2) := by decide +kernel
theorem dX4_wrap_52 : decode cX4_wrap 52 = .ok (.iload 6, 2) := by decide +kernel
theorem dX4_wrap_54 : decode cX4_wrap 54 = .ok (.invokestatic 34, 3) := by decide +kernel
theorem dX4_wrap_57 : decode cX4_wrap 57 = .ok (.istore 4, 2) := by decide +kernel
theorem dX4_wrap_59 : decode cX4_wrap 59 = .ok (.iinc 5 1, 3) := by decide +kernel
theorem dX4_wrap_62 : decode cX4_wrap 62 = .ok (.goto (-52), 3) := by decide +kernel
theorem dX4_wrap_65 : decode cX4_wrap 65 = .ok (.iload 4, 2) := by decide +kernel
theorem dX4_wrap_67 : decode cX4_wrap 67 = .ok (.istore 5, 2) := by decide +kernel
theorem dX4_wrap_69 : decode cX4_wrap 69 = .ok (.aload_n 0, 1) := by decide +kernel
theorem dX4_wrap_70 : decode cX4_wrap 70 = .ok (.iconst 0, 1) := by decide +kernel
theorem dX4_wrap_71 : decode cX4_wrap 71 = .ok (.putfield 23, 3) := by decide +kernel
theorem dX4_wrap_74 : decode cX4_wrap 74 = .ok (.aload_n 0, 1) := by decide +kernel
theorem dX4_wrap_75 : decode cX4_wrap 75 = .ok (.getfield 23, 3) := by decide +kernel
theorem dX4_wrap_78 : decode cX4_wrap 78 = .ok (.iload_n 3, 1) := by decide +kernel
theorem dX4_wrap_79 : decode cX4_wrap 79 = .ok (.if_icmp .ge 96, 3) := by decide +kernel
theorem dX4_wrap_82 : decode cX4_wrap 82 = .ok (.aload_n 0, 1) := by decide +kernel
theorem dX4_wrap_83 : decode cX4_wrap 83 = .ok (.getfield 23, 3) := by decide +kernel
theorem dX4_wrap_86 : decode cX4_wrap 86 = .ok (.ifCond .eq 10, 3) := by decide +kernel
theorem dX4_wrap_89 : decode cX4_wrap 89 = .ok (.iload 5, 2) := by decide +kernel
theorem dX4_wrap_91 : decode cX4_wrap 91 = .ok (.iload 4, 2) := by decide +kernel
theorem dX4_wrap_93 : decode cX4_wrap 93 = .ok (.if_icmp .eq 82, 3) := by decide +kernel
theorem dX4_wrap_96 : decode cX4_wrap 96 = .ok (.aload_n 0, 1) := by decide +kernel
theorem dX4_wrap_97 : decode cX4_wrap 97 = .ok (.getfield 14, 3) := by decide +kernel
theorem dX4_wrap_100 : decode cX4_wrap 100 = .ok (.aload_n 0, 1) := by decide +kernel
theorem dX4_wrap_101 : decode cX4_wrap 101 = .ok (.getfield 23, 3) := by decide +kernel
theorem dX4_wrap_104 : decode cX4_wrap 104 = .ok (.iload 5, 2) := by decide +kernel
theorem dX4_wrap_106 : decode cX4_wrap 106 = .ok (.invokevirtual 31, 3) := by decide +kernel
theorem dX4_wrap_109 : decode cX4_wrap 109 = .ok (.iload 5, 2) := by decide +kernel
theorem dX4_wrap_111 : decode cX4_wrap 111 = .ok (.istore 6, 2) := by decide +kernel
theorem dX4_wrap_113 : decode cX4_wrap 113 = .ok (.iconst 0, 1) := by decide +kernel
theorem dX4_wrap_114 : decode cX4_wrap 114 = .ok (.istore 7, 2) := by decide +kernel
theorem dX4_wrap_116 : decode cX4_wrap 116 = .ok (.iload 7, 2) := by decide +kernel
theorem dX4_wrap_118 : decode cX4_wrap 118 = .ok (.iload_n 3, 1) := by decide +kernel
theorem dX4_wrap_119 : decode cX4_wrap 119 = .ok (.if_icmp .ge 39, 3) := by decide +kernel
theorem dX4_wrap_122 : decode cX4_wrap 122 = .ok (.iload 5, 2) := by decide +kernel
theorem dX4_wrap_124 : decode cX4_wrap 124 = .ok (.iload 6, 2) := by decide +kernel
theorem dX4_wrap_126 : decode cX4_wrap 126 = .ok (.aload_n 0, 1) := by decide +kernel
theorem dX4_wrap_127 : decode cX4_wrap 127 = .ok (.getfield 20, 3) := by decide +kernel
theorem dX4_wrap_130 : decode cX4_wrap 130 = .ok (.iload 7, 2) := by decide +kernel
theorem dX4_wrap_132 : decode cX4_wrap 132 = .ok (.invokevirtual 27, 3) := by decide +kernel
theorem dX4_wrap_135 : decode cX4_wrap 135 = .ok (.invokestatic 40, 3) := by decide +kernel
theorem dX4_wrap_138 : decode cX4_wrap 138 = .ok (.ifCond .eq 14, 3) := by decide +kernel
theorem dX4_wrap_141 : decode cX4_wrap 141 = .ok (.aload_n 0, 1) := by decide +kernel
theorem dX4_wrap_142 : decode cX4_wrap 142 = .ok (.getfield 20, 3) := by decide +kernel
theorem dX4_wrap_145 : decode cX4_wrap 145 = .ok (.iload 7, 2) := by decide +kernel
theorem dX4_wrap_147 : decode cX4_wrap 147 = .ok (.invokevirtual 27, 3) := by decide +kernel
theorem dX4_wrap_150 : decode cX4_wrap 150 = .ok (.istore 6, 2) := by decide +kernel
theorem dX4_wrap_152 : decode cX4_wrap 152 = .ok (.iinc 7 1, 3) := by decide +kernel
theorem dX4_wrap_155 : decode cX4_wrap 155 = .ok (.goto (-39), 3) := by decide +kernel
theorem dX4_wrap_158 : decode cX4_wrap 158 = .ok (.iload 6, 2) := by decide +kernel
theorem dX4_wrap_160 : decode cX4_wrap 160 = .ok (.istore 5, 2) := by decide +kernel
theorem dX4_wrap_162 : decode cX4_wrap 162 = .ok (.aload_n 0, 1) := by decide +kernel
theorem dX4_wrap_163 : decode cX4_wrap 163 = .ok (.dup, 1) := by decide +kernel
theorem dX4_wrap_164 : decode cX4_wrap 164 = .ok (.getfield 23, 3) := by decide +kernel
theorem dX4_wrap_167 : decode cX4_wrap 167 = .ok (.iconst 1, 1) := by decide +kernel
theorem dX4_wrap_168 : decode cX4_wrap 168 = .ok (.iadd, 1) := by decide +kernel
theorem dX4_wrap_169 : decode cX4_wrap 169 = .ok (.putfield 23, 3) := by decide +kernel
theorem dX4_wrap_172 : decode cX4_wrap 172 = .ok (.goto (-98), 3) := by decide +kernel
theorem dX4_wrap_175 : decode cX4_wrap 175 = .ok (.aload_n 0, 1) := by decide +kernel
theorem dX4_wrap_176 : decode cX4_wrap 176 = .ok (.getfield 14, 3) := by decide +kernel
theorem dX4_wrap_179 : decode cX4_wrap 179 = .ok (.aload_n 0, 1) := by decide +kernel
theorem dX4_wrap_180 : decode cX4_wrap 180 = .ok (.getfield 23, 3) := by decide +kernel
theorem dX4_wrap_183 : decode cX4_wrap 183 = .ok (.iload 4, 2) := by decide +kernel
theorem dX4_wrap_185 : decode cX4_wrap 185 = .ok (.invokevirtual 31, 3) := by decide +kernel
theorem dX4_wrap_188 : decode cX4_wrap 188 = .ok (.return_, 1) := by decide +kernel
theorem dX4_isFurtherOut_0 : decode cX4_isFurtherOut 0 = .ok (.iload_n 1, 1) := by decide +kernel
theorem dX4_isFurtherOut_1 : decode cX4_isFurtherOut 1 = .ok (.bipush 20, 2) := by decide +kernel
theorem dX4_isFurtherOut_3 : decode cX4_isFurtherOut 3 = .ok (.irem, 1) := by decide +kernel
theorem dX4_isFurtherOut_4 : decode cX4_isFurtherOut 4 = .ok (.iload_n 0, 1) := by decide +kernel
theorem dX4_isFurtherOut_5 : decode cX4_isFurtherOut 5 = .ok (.bipush 20, 2) := by decide +kernel
theorem dX4_isFurtherOut_7 : decode cX4_isFurtherOut 7 = .ok (.irem, 1) := by decide +kernel
theorem dX4_isFurtherOut_8 : decode cX4_isFurtherOut 8 = .ok (.isub, 1) := by decide +kernel
theorem dX4_isFurtherOut_9 : decode cX4_isFurtherOut 9 = .ok (.istore_n 3, 1) := by decide +kernel
theorem dX4_isFurtherOut_10 : decode cX4_isFurtherOut 10 = .ok (.iload_n 1, 1) := by decide +kernel
theorem dX4_isFurtherOut_11 : decode cX4_isFurtherOut 11 = .ok (.bipush 20, 2) := by decide +kernel
theorem dX4_isFurtherOut_13 : decode cX4_isFurtherOut 13 = .ok (.idiv, 1) := by decide +kernel
theorem dX4_isFurtherOut_14 : decode cX4_isFurtherOut 14 = .ok (.iload_n 0, 1) := by decide +kernel
theorem dX4_isFurtherOut_15 : decode cX4_isFurtherOut 15 = .ok (.bipush 20, 2) := by decide +kernel
theorem dX4_isFurtherOut_17 : decode cX4_isFurtherOut 17 = .ok (.idiv, 1) := by decide +kernel
theorem dX4_isFurtherOut_18 : decode cX4_isFurtherOut 18 = .ok (.isub, 1) := by decide +kernel
theorem dX4_isFurtherOut_19 : decode cX4_isFurtherOut 19 = .ok (.istore 4, 2) := by decide +kernel
theorem dX4_isFurtherOut_21 : decode cX4_isFurtherOut 21 = .ok (.iload_n 2, 1) := by decide +kernel
theorem dX4_isFurtherOut_22 : decode cX4_isFurtherOut 22 = .ok (.bipush 20, 2) := by decide +kernel
theorem dX4_isFurtherOut_24 : decode cX4_isFurtherOut 24 = .ok (.irem, 1) := by decide +kernel
theorem dX4_isFurtherOut_25 : decode cX4_isFurtherOut 25 = .ok (.iload_n 0, 1) := by decide +kernel
theorem dX4_isFurtherOut_26 : decode cX4_isFurtherOut 26 = .ok (.bipush 20, 2) := by decide +kernel
theorem dX4_isFurtherOut_28 : decode cX4_isFurtherOut 28 = .ok (.irem, 1) := by decide +kernel
theorem dX4_isFurtherOut_29 : decode cX4_isFurtherOut 29 = .ok (.isub, 1) := by decide +kernel
theorem dX4_isFurtherOut_30 : decode cX4_isFurtherOut 30 = .ok (.istore 5, 2) := by decide +kernel
theorem dX4_isFurtherOut_32 : decode cX4_isFurtherOut 32 = .ok (.iload_n 2, 1) := by decide +kernel
theorem dX4_isFurtherOut_33 : decode cX4_isFurtherOut 33 = .ok (.bipush 20, 2) := by decide +kernel
theorem dX4_isFurtherOut_35 : decode cX4_isFurtherOut 35 = .ok (.idiv, 1) := by decide +kernel
theorem dX4_isFurtherOut_36 : decode cX4_isFurtherOut 36 = .ok (.iload_n 0, 1) := by decide +kernel
theorem dX4_isFurtherOut_37 : decode cX4_isFurtherOut 37 = .ok (.bipush 20, 2) := by decide +kernel
theorem dX4_isFurtherOut_39 : decode cX4_isFurtherOut 39 = .ok (.idiv, 1) := by decide +kernel
theorem dX4_isFurtherOut_40 : decode cX4_isFurtherOut 40 = .ok (.isub, 1) := by decide +kernel
theorem dX4_isFurtherOut_41 : decode cX4_isFurtherOut 41 = .ok (.istore 6, 2) := by decide +kernel
theorem dX4_isFurtherOut_43 : decode cX4_isFurtherOut 43 = .ok (.iload_n 3, 1) := by decide +kernel
theorem dX4_isFurtherOut_44 : decode cX4_isFurtherOut 44 = .ok (.iload 6, 2) := by decide +kernel
theorem dX4_isFurtherOut_46 : decode cX4_isFurtherOut 46 = .ok (.imul, 1) := by decide +kernel
theorem dX4_isFurtherOut_47 : decode cX4_isFurtherOut 47 = .ok (.iload 4, 2) := by decide +kernel
theorem dX4_isFurtherOut_49 : decode cX4_isFurtherOut 49 = .ok (.iload 5, 2) := by decide +kernel
theorem dX4_isFurtherOut_51 : decode cX4_isFurtherOut 51 = .ok (.imul, 1) := by decide +kernel
theorem dX4_isFurtherOut_52 : decode cX4_isFurtherOut 52 = .ok (.isub, 1) := by decide +kernel
theorem dX4_isFurtherOut_53 : decode cX4_isFurtherOut 53 = .ok (.istore 7, 2) := by decide +kernel
theorem dX4_isFurtherOut_55 : decode cX4_isFurtherOut 55 = .ok (.iload 7, 2) := by decide +kernel
theorem dX4_isFurtherOut_57 : decode cX4_isFurtherOut 57 = .ok (.ifCond .lt 31, 3) := by decide +kernel
theorem dX4_isFurtherOut_60 : decode cX4_isFurtherOut 60 = .ok (.iload 7, 2) := by decide +kernel
theorem dX4_isFurtherOut_62 : decode cX4_isFurtherOut 62 = .ok (.ifCond .ne 30, 3) := by decide +kernel
theorem dX4_isFurtherOut_65 : decode cX4_isFurtherOut 65 = .ok (.iload 5, 2) := by decide +kernel
theorem dX4_isFurtherOut_67 : decode cX4_isFurtherOut 67 = .ok (.iload 5, 2) := by decide +kernel
theorem dX4_isFurtherOut_69 : decode cX4_isFurtherOut 69 = .ok (.imul, 1) := by decide +kernel
theorem dX4_isFurtherOut_70 : decode cX4_isFurtherOut 70 = .ok (.iload 6, 2) := by decide +kernel
theorem dX4_isFurtherOut_72 : decode cX4_isFurtherOut 72 = .ok (.iload 6, 2) := by decide +kernel
theorem dX4_isFurtherOut_74 : decode cX4_isFurtherOut 74 = .ok (.imul, 1) := by decide +kernel
theorem dX4_isFurtherOut_75 : decode cX4_isFurtherOut 75 = .ok (.iadd, 1) := by decide +kernel
theorem dX4_isFurtherOut_76 : decode cX4_isFurtherOut 76 = .ok (.iload_n 3, 1) := by decide +kernel
theorem dX4_isFurtherOut_77 : decode cX4_isFurtherOut 77 = .ok (.iload_n 3, 1) := by decide +kernel
theorem dX4_isFurtherOut_78 : decode cX4_isFurtherOut 78 = .ok (.imul, 1) := by decide +kernel
theorem dX4_isFurtherOut_79 : decode cX4_isFurtherOut 79 = .ok (.iload 4, 2) := by decide +kernel
theorem dX4_isFurtherOut_81 : decode cX4_isFurtherOut 81 = .ok (.iload 4, 2) := by decide +kernel
theorem dX4_isFurtherOut_83 : decode cX4_isFurtherOut 83 = .ok (.imul, 1) := by decide +kernel
theorem dX4_isFurtherOut_84 : decode cX4_isFurtherOut 84 = .ok (.iadd, 1) := by decide +kernel
theorem dX4_isFurtherOut_85 : decode cX4_isFurtherOut 85 = .ok (.if_icmp .le 7, 3) := by decide +kernel
theorem dX4_isFurtherOut_88 : decode cX4_isFurtherOut 88 = .ok (.iconst 1, 1) := by decide +kernel
theorem dX4_isFurtherOut_89 : decode cX4_isFurtherOut 89 = .ok (.goto 4, 3) := by decide +kernel
theorem dX4_isFurtherOut_92 : decode cX4_isFurtherOut 92 = .ok (.iconst 0, 1) := by decide +kernel
theorem dX4_isFurtherOut_93 : decode cX4_isFurtherOut 93 = .ok (.ireturn, 1) := by decide +kernel
theorem dX4_edgeByWay_0 : decode cX4_edgeByWay 0 = .ok (.iload_n 1, 1) := by decide +kernel
theorem dX4_edgeByWay_1 : decode cX4_edgeByWay 1 = .ok (.bipush 20, 2) := by decide +kernel
theorem dX4_edgeByWay_3 : decode cX4_edgeByWay 3 = .ok (.irem, 1) := by decide +kernel
theorem dX4_edgeByWay_4 : decode cX4_edgeByWay 4 = .ok (.iload_n 0, 1) := by decide +kernel
theorem dX4_edgeByWay_5 : decode cX4_edgeByWay 5 = .ok (.bipush 20, 2) := by decide +kernel
theorem dX4_edgeByWay_7 : decode cX4_edgeByWay 7 = .ok (.irem, 1) := by decide +kernel
theorem dX4_edgeByWay_8 : decode cX4_edgeByWay 8 = .ok (.isub, 1) := by decide +kernel
theorem dX4_edgeByWay_9 : decode cX4_edgeByWay 9 = .ok (.iload_n 3, 1) := by decide +kernel
theorem dX4_edgeByWay_10 : decode cX4_edgeByWay 10 = .ok (.iload 4, 2) := by decide +kernel
theorem dX4_edgeByWay_12 : decode cX4_edgeByWay 12 = .ok (.iload_n 0, 1) := by decide +kernel
theorem dX4_edgeByWay_13 : decode cX4_edgeByWay 13 = .ok (.bipush 20, 2) := by decide +kernel
theorem dX4_edgeByWay_15 : decode cX4_edgeByWay 15 = .ok (.idiv, 1) := by decide +kernel
theorem dX4_edgeByWay_16 : decode cX4_edgeByWay 16 = .ok (.imul, 1) := by decide +kernel
theorem dX4_edgeByWay_17 : decode cX4_edgeByWay 17 = .ok (.isub, 1) := by decide +kernel
theorem dX4_edgeByWay_18 : decode cX4_edgeByWay 18 = .ok (.imul, 1) := by decide +kernel
theorem dX4_edgeByWay_19 : decode cX4_edgeByWay 19 = .ok (.iload_n 1, 1) := by decide +kernel
theorem dX4_edgeByWay_20 : decode cX4_edgeByWay 20 = .ok (.bipush 20, 2) := by decide +kernel
theorem dX4_edgeByWay_22 : decode cX4_edgeByWay 22 = .ok (.idiv, 1) := by decide +kernel
theorem dX4_edgeByWay_23 : decode cX4_edgeByWay 23 = .ok (.iload_n 0, 1) := by decide +kernel
theorem dX4_edgeByWay_24 : decode cX4_edgeByWay 24 = .ok (.bipush 20, 2) := by decide +kernel
theorem dX4_edgeByWay_26 : decode cX4_edgeByWay 26 = .ok (.idiv, 1) := by decide +kernel
theorem dX4_edgeByWay_27 : decode cX4_edgeByWay 27 = .ok (.isub, 1) := by decide +kernel
theorem dX4_edgeByWay_28 : decode cX4_edgeByWay 28 = .ok (.iload_n 2, 1) := by decide +kernel
theorem dX4_edgeByWay_29 : decode cX4_edgeByWay 29 = .ok (.iload 4, 2) := by decide +kernel
theorem dX4_edgeByWay_31 : decode cX4_edgeByWay 31 = .ok (.iload_n 0, 1) := by decide +kernel
theorem dX4_edgeByWay_32 : decode cX4_edgeByWay 32 = .ok (.bipush 20, 2) := by decide +kernel
theorem dX4_edgeByWay_34 : decode cX4_edgeByWay 34 = .ok (.irem, 1) := by decide +kernel
theorem dX4_edgeByWay_35 : decode cX4_edgeByWay 35 = .ok (.imul, 1) := by decide +kernel
theorem dX4_edgeByWay_36 : decode cX4_edgeByWay 36 = .ok (.isub, 1) := by decide +kernel
theorem dX4_edgeByWay_37 : decode cX4_edgeByWay 37 = .ok (.imul, 1) := by decide +kernel
theorem dX4_edgeByWay_38 : decode cX4_edgeByWay 38 = .ok (.isub, 1) := by decide +kernel
theorem dX4_edgeByWay_39 : decode cX4_edgeByWay 39 = .ok (.ireturn, 1) := by decide +kernel
theorem dX4_squareOfEdge_0 : decode cX4_squareOfEdge 0 = .ok (.iload_n 1, 1) := by decide +kernel
theorem dX4_squareOfEdge_1 : decode cX4_squareOfEdge 1 = .ok (.bipush 20, 2) := by decide +kernel
theorem dX4_squareOfEdge_3 : decode cX4_squareOfEdge 3 = .ok (.irem, 1) := by decide +kernel
theorem dX4_squareOfEdge_4 : decode cX4_squareOfEdge 4 = .ok (.iload_n 0, 1) := by decide +kernel
theorem dX4_squareOfEdge_5 : decode cX4_squareOfEdge 5 = .ok (.bipush 20, 2) := by decide +kernel
theorem dX4_squareOfEdge_7 : decode cX4_squareOfEdge 7 = .ok (.irem, 1) := by decide +kernel
theorem dX4_squareOfEdge_8 : decode cX4_squareOfEdge 8 = .ok (.isub, 1) := by decide +kernel
theorem dX4_squareOfEdge_9 : decode cX4_squareOfEdge 9 = .ok (.istore_n 2, 1) := by decide +kernel
theorem dX4_squareOfEdge_10 : decode cX4_squareOfEdge 10 = .ok (.iload_n 1, 1) := by decide +kernel
theorem dX4_squareOfEdge_11 : decode cX4_squareOfEdge 11 = .ok (.bipush 20, 2) := by decide +kernel
theorem dX4_squareOfEdge_13 : decode cX4_squareOfEdge 13 = .ok (.idiv, 1) := by decide +kernel
theorem dX4_squareOfEdge_14 : decode cX4_squareOfEdge 14 = .ok (.iload_n 0, 1) := by decide +kernel
theorem dX4_squareOfEdge_15 : decode cX4_squareOfEdge 15 = .ok (.bipush 20, 2) := by decide +kernel
theorem dX4_squareOfEdge_17 : decode cX4_squareOfEdge 17 = .ok (.idiv, 1) := by decide +kernel
theorem dX4_squareOfEdge_18 : decode cX4_squareOfEdge 18 = .ok (.isub, 1) := by decide +kernel
theorem dX4_squareOfEdge_19 : decode cX4_squareOfEdge 19 = .ok (.istore_n 3, 1) := by decide +kernel
theorem dX4_squareOfEdge_20 : decode cX4_squareOfEdge 20 = .ok (.iload_n 2, 1) := by decide +kernel
theorem dX4_squareOfEdge_21 : decode cX4_squareOfEdge 21 = .ok (.iload_n 2, 1) := by decide +kernel
theorem dX4_squareOfEdge_22 : decode cX4_squareOfEdge 22 = .ok (.imul, 1) := by decide +kernel
theorem dX4_squareOfEdge_23 : decode cX4_squareOfEdge 23 = .ok (.iload_n 3, 1) := by decide +kernel
theorem dX4_squareOfEdge_24 : decode cX4_squareOfEdge 24 = .ok (.iload_n 3, 1) := by decide +kernel
theorem dX4_squareOfEdge_25 : decode cX4_squareOfEdge 25 = .ok (.imul, 1) := by decide +kernel
theorem dX4_squareOfEdge_26 : decode cX4_squareOfEdge 26 = .ok (.iadd, 1) := by decide +kernel
theorem dX4_squareOfEdge_27 : decode cX4_squareOfEdge 27 = .ok (.ireturn, 1) := by decide +kernel
set_option maxRecDepth 20000 in
theorem ggX4_holds_X8_at : GoodIn wsX4_holds wsX8_at := goodIn_r _ [16, 17, 28] rfl (by decide +kernel)
set_option maxRecDepth 20000 in
theorem gX4_holds_X8_at : GoodIn wsX4_holds (wsV RX4 27 RX8 yX8_at wsX8_at) := goodIn_app (goodIn_r _ [12, 13, 14, 15] rfl (by decide +kernel)) ggX4_holds_X8_at
set_option maxRecDepth 20000 in
theorem ggX4_holds_X4_edgeByWay : GoodIn wsX4_holds wsX4_edgeByWay := goodIn_r _ [21] rfl (by decide +kernel)
set_option maxRecDepth 20000 in
theorem gX4_holds_X4_edgeByWay : GoodIn wsX4_holds (va_wsS RX4 48 yX4_edgeByWay wsX4_edgeByWay) := goodIn_app (goodIn_r _ [18, 19, 20] rfl (by decide +kernel)) ggX4_holds_X4_edgeByWay
set_option maxRecDepth 20000 in
theorem ggX4_holds_X10_isWithin : GoodIn wsX4_holds wsX10_isWithin := goodIn_r _ [24] rfl (by decide +kernel)
set_option maxRecDepth 20000 in
theorem gX4_holds_X10_isWithin_n55 : GoodIn wsX4_holds (wsX10_isWithin) := ggX4_holds_X10_isWithin
theorem dX4_holds_0 : decode cX4_holds 0 = .ok (.ldc 46, 2) := by decide +kernel
theorem dX4_holds_2 : decode cX4_holds 2 = .ok (.istore 4, 2) := by decide +kernel
theorem dX4_holds_4 : decode cX4_holds 4 = .ok (.ldc 47, 2) := by decide +kernel
theorem dX4_holds_6 : decode cX4_holds 6 = .ok (.istore 5, 2) := by decide +kernel
theorem dX4_holds_8 : decode cX4_holds 8 = .ok (.ldc 46, 2) := by decide +kernel
theorem dX4_holds_10 : decode cX4_holds 10 = .ok (.istore 6, 2) := by decide +kernel
theorem dX4_holds_12 : decode cX4_holds 12 = .ok (.ldc 47, 2) := by decide +kernel
theorem dX4_holds_14 : decode cX4_holds 14 = .ok (.istore 7, 2) := by decide +kernel
theorem dX4_holds_16 : decode cX4_holds 16 = .ok (.iconst 0, 1) := by decide +kernel
theorem dX4_holds_17 : decode cX4_holds 17 = .ok (.istore 8, 2) := by decide +kernel
theorem dX4_holds_19 : decode cX4_holds 19 = .ok (.iload 8, 2) := by decide +kernel
theorem dX4_holds_21 : decode cX4_holds 21 = .ok (.aload_n 0, 1) := by decide +kernel
theorem dX4_holds_22 : decode cX4_holds 22 = .ok (.getfield 23, 3) := by decide +kernel
theorem dX4_holds_25 : decode cX4_holds 25 = .ok (.if_icmp .ge 100, 3) := by decide +kernel
theorem dX4_holds_28 : decode cX4_holds 28 = .ok (.aload_n 0, 1) := by decide +kernel
theorem dX4_holds_29 : decode cX4_holds 29 = .ok (.getfield 14, 3) := by decide +kernel
theorem dX4_holds_32 : decode cX4_holds 32 = .ok (.iload 8, 2) := by decide +kernel
theorem dX4_holds_34 : decode cX4_holds 34 = .ok (.invokevirtual 27, 3) := by decide +kernel
theorem dX4_holds_37 : decode cX4_holds 37 = .ok (.istore 9, 2) := by decide +kernel
theorem dX4_holds_39 : decode cX4_holds 39 = .ok (.iload 9, 2) := by decide +kernel
theorem dX4_holds_41 : decode cX4_holds 41 = .ok (.aload_n 0, 1) := by decide +kernel
theorem dX4_holds_42 : decode cX4_holds 42 = .ok (.getfield 14, 3) := by decide +kernel
theorem dX4_holds_45 : decode cX4_holds 45 = .ok (.iload 8, 2) := by decide +kernel
theorem dX4_holds_47 : decode cX4_holds 47 = .ok (.iconst 1, 1) := by decide +kernel
theorem dX4_holds_48 : decode cX4_holds 48 = .ok (.iadd, 1) := by decide +kernel
theorem dX4_holds_49 : decode cX4_holds 49 = .ok (.invokevirtual 27, 3) := by decide +kernel
theorem dX4_holds_52 : decode cX4_holds 52 = .ok (.iload_n 1, 1) := by decide +kernel
theorem dX4_holds_53 : decode cX4_holds 53 = .ok (.iload_n 2, 1) := by decide +kernel
theorem dX4_holds_54 : decode cX4_holds 54 = .ok (.iload_n 3, 1) := by decide +kernel
theorem dX4_holds_55 : decode cX4_holds 55 = .ok (.invokestatic 48, 3) := by decide +kernel
theorem dX4_holds_58 : decode cX4_holds 58 = .ok (.ifCond .ge 5, 3) := by decide +kernel
theorem dX4_holds_61 : decode cX4_holds 61 = .ok (.iconst 0, 1) := by decide +kernel
theorem dX4_holds_62 : decode cX4_holds 62 = .ok (.ireturn, 1) := by decide +kernel
theorem dX4_holds_63 : decode cX4_holds 63 = .ok (.iload 4, 2) := by decide +kernel
theorem dX4_holds_65 : decode cX4_holds 65 = .ok (.iload_n 3, 1) := by decide +kernel
theorem dX4_holds_66 : decode cX4_holds 66 = .ok (.iload 9, 2) := by decide +kernel
theorem dX4_holds_68 : decode cX4_holds 68 = .ok (.bipush 20, 2) := by decide +kernel
theorem dX4_holds_70 : decode cX4_holds 70 = .ok (.irem, 1) := by decide +kernel
theorem dX4_holds_71 : decode cX4_holds 71 = .ok (.imul, 1) := by decide +kernel
theorem dX4_holds_72 : decode cX4_holds 72 = .ok (.invokestatic 34, 3) := by decide +kernel
theorem dX4_holds_75 : decode cX4_holds 75 = .ok (.istore 4, 2) := by decide +kernel
theorem dX4_holds_77 : decode cX4_holds 77 = .ok (.iload 5, 2) := by decide +kernel
theorem dX4_holds_79 : decode cX4_holds 79 = .ok (.iload_n 3, 1) := by decide +kernel
theorem dX4_holds_80 : decode cX4_holds 80 = .ok (.iload 9, 2) := by decide +kernel
theorem dX4_holds_82 : decode cX4_holds 82 = .ok (.bipush 20, 2) := by decide +kernel
theorem dX4_holds_84 : decode cX4_holds 84 = .ok (.irem, 1) := by decide +kernel
theorem dX4_holds_85 : decode cX4_holds 85 = .ok (.imul, 1) := by decide +kernel
theorem dX4_holds_86 : decode cX4_holds 86 = .ok (.invokestatic 52, 3) := by decide +kernel
theorem dX4_holds_89 : decode cX4_holds 89 = .ok (.istore 5, 2) := by decide +kernel
theorem dX4_holds_91 : decode cX4_holds 91 = .ok (.iload 6, 2) := by decide +kernel
theorem dX4_holds_93 : decode cX4_holds 93 = .ok (.iload_n 3, 1) := by decide +kernel
theorem dX4_holds_94 : decode cX4_holds 94 = .ok (.iload 9, 2) := by decide +kernel
theorem dX4_holds_96 : decode cX4_holds 96 = .ok (.bipush 20, 2) := by decide +kernel
theorem dX4_holds_98 : decode cX4_holds 98 = .ok (.idiv, 1) := by decide +kernel
theorem dX4_holds_99 : decode cX4_holds 99 = .ok (.imul, 1) := by decide +kernel
theorem dX4_holds_100 : decode cX4_holds 100 = .ok (.invokestatic 34, 3) := by decide +kernel
theorem dX4_holds_103 : decode cX4_holds 103 = .ok (.istore 6, 2) := by decide +kernel
theorem dX4_holds_105 : decode cX4_holds 105 = .ok (.iload 7, 2) := by decide +kernel
theorem dX4_holds_107 : decode cX4_holds 107 = .ok (.iload_n 3, 1) := by decide +kernel
theorem dX4_holds_108 : decode cX4_holds 108 = .ok (.iload 9, 2) := by decide +kernel
theorem dX4_holds_110 : decode cX4_holds 110 = .ok (.bipush 20, 2) := by decide +kernel
theorem dX4_holds_112 : decode cX4_holds 112 = .ok (.idiv, 1) := by decide +kernel
theorem dX4_holds_113 : decode cX4_holds 113 = .ok (.imul, 1) := by decide +kernel
theorem dX4_holds_114 : decode cX4_holds 114 = .ok (.invokestatic 52, 3) := by decide +kernel
theorem dX4_holds_117 : decode cX4_holds 117 = .ok (.istore 7, 2) := by decide +kernel
theorem dX4_holds_119 : decode cX4_holds 119 = .ok (.iinc 8 1, 3) := by decide +kernel
theorem dX4_holds_122 : decode cX4_holds 122 = .ok (.goto (-103), 3) := by decide +kernel
theorem dX4_holds_125 : decode cX4_holds 125 = .ok (.iload_n 1, 1) := by decide +kernel
theorem dX4_holds_126 : decode cX4_holds 126 = .ok (.iload 4, 2) := by decide +kernel
theorem dX4_holds_128 : decode cX4_holds 128 = .ok (.iload 5, 2) := by decide +kernel
theorem dX4_holds_130 : decode cX4_holds 130 = .ok (.invokestatic 55, 3) := by decide +kernel
theorem dX4_holds_133 : decode cX4_holds 133 = .ok (.ifCond .eq 18, 3) := by decide +kernel
theorem dX4_holds_136 : decode cX4_holds 136 = .ok (.iload_n 2, 1) := by decide +kernel
theorem dX4_holds_137 : decode cX4_holds 137 = .ok (.iload 6, 2) := by decide +kernel
theorem dX4_holds_139 : decode cX4_holds 139 = .ok (.iload 7, 2) := by decide +kernel
theorem dX4_holds_141 : decode cX4_holds 141 = .ok (.invokestatic 55, 3) := by decide +kernel
theorem dX4_holds_144 : decode cX4_holds 144 = .ok (.ifCond .eq 7, 3) := by decide +kernel
theorem dX4_holds_147 : decode cX4_holds 147 = .ok (.iconst 1, 1) := by decide +kernel
theorem dX4_holds_148 : decode cX4_holds 148 = .ok (.goto 4, 3) := by decide +kernel
theorem dX4_holds_151 : decode cX4_holds 151 = .ok (.iconst 0, 1) := by decide +kernel
theorem dX4_holds_152 : decode cX4_holds 152 = .ok (.ireturn, 1) := by decide +kernel
set_option maxRecDepth 20000 in
theorem ggX4_leastSquare_X8_at : GoodIn wsX4_leastSquare wsX8_at := goodIn_r _ [7, 8, 19] rfl (by decide +kernel)
set_option maxRecDepth 20000 in
theorem gX4_leastSquare_X8_at : GoodIn wsX4_leastSquare (wsV RX4 27 RX8 yX8_at wsX8_at) := goodIn_app (goodIn_r _ [3, 4, 5, 6] rfl (by decide +kernel)) ggX4_leastSquare_X8_at
set_option maxRecDepth 20000 in
theorem ggX4_leastSquare_X4_edgeByWay : GoodIn wsX4_leastSquare wsX4_edgeByWay := goodIn_r _ [12] rfl (by decide +kernel)
set_option maxRecDepth 20000 in
theorem gX4_leastSquare_X4_edgeByWay : GoodIn wsX4_leastSquare (va_wsS RX4 48 yX4_edgeByWay wsX4_edgeByWay) := goodIn_app (goodIn_r _ [9, 10, 11] rfl (by decide +kernel)) ggX4_leastSquare_X4_edgeByWay
set_option maxRecDepth 20000 in
theorem ggX4_leastSquare_X4_squareOfEdge : GoodIn wsX4_leastSquare wsX4_squareOfEdge := goodIn_r _ [15] rfl (by decide +kernel)
set_option maxRecDepth 20000 in
theorem gX4_leastSquare_X4_squareOfEdge : GoodIn wsX4_leastSquare (va_wsS RX4 58 yX4_squareOfEdge wsX4_squareOfEdge) := goodIn_app (goodIn_r _ [13, 14, 11] rfl (by decide +kernel)) ggX4_leastSquare_X4_squareOfEdge
theorem dX4_leastSquare_0 : decode cX4_leastSquare 0 = .ok (.fconst 0, 1) := by decide +kernel
theorem dX4_leastSquare_1 : decode cX4_leastSquare 1 = .ok (.fstore 4, 2) := by decide +kernel
theorem dX4_leastSquare_3 : decode cX4_leastSquare 3 = .ok (.iconst 0, 1) := by decide +kernel
theorem dX4_leastSquare_4 : decode cX4_leastSquare 4 = .ok (.istore 5, 2) := by decide +kernel
theorem dX4_leastSquare_6 : decode cX4_leastSquare 6 = .ok (.iload 5, 2) := by decide +kernel
theorem dX4_leastSquare_8 : decode cX4_leastSquare 8 = .ok (.aload_n 0, 1) := by decide +kernel
theorem dX4_leastSquare_9 : decode cX4_leastSquare 9 = .ok (.getfield 23, 3) := by decide +kernel
theorem dX4_leastSquare_12 : decode cX4_leastSquare 12 = .ok (.if_icmp .ge 102, 3) := by decide +kernel
theorem dX4_leastSquare_15 : decode cX4_leastSquare 15 = .ok (.aload_n 0, 1) := by decide +kernel
theorem dX4_leastSquare_16 : decode cX4_leastSquare 16 = .ok (.getfield 14, 3) := by decide +kernel
theorem dX4_leastSquare_19 : decode cX4_leastSquare 19 = .ok (.iload 5, 2) := by decide +kernel
theorem dX4_leastSquare_21 : decode cX4_leastSquare 21 = .ok (.invokevirtual 27, 3) := by decide +kernel
theorem dX4_leastSquare_24 : decode cX4_leastSquare 24 = .ok (.istore 6, 2) := by decide +kernel
theorem dX4_leastSquare_26 : decode cX4_leastSquare 26 = .ok (.aload_n 0, 1) := by decide +kernel
theorem dX4_leastSquare_27 : decode cX4_leastSquare 27 = .ok (.getfield 14, 3) := by decide +kernel
theorem dX4_leastSquare_30 : decode cX4_leastSquare 30 = .ok (.iload 5, 2) := by decide +kernel
theorem dX4_leastSquare_32 : decode cX4_leastSquare 32 = .ok (.iconst 1, 1) := by decide +kernel
theorem dX4_leastSquare_33 : decode cX4_leastSquare 33 = .ok (.iadd, 1) := by decide +kernel
theorem dX4_leastSquare_34 : decode cX4_leastSquare 34 = .ok (.invokevirtual 27, 3) := by decide +kernel
theorem dX4_leastSquare_37 : decode cX4_leastSquare 37 = .ok (.istore 7, 2) := by decide +kernel
theorem dX4_leastSquare_39 : decode cX4_leastSquare 39 = .ok (.iload 6, 2) := by decide +kernel
theorem dX4_leastSquare_41 : decode cX4_leastSquare 41 = .ok (.iload 7, 2) := by decide +kernel
theorem dX4_leastSquare_43 : decode cX4_leastSquare 43 = .ok (.iload_n 1, 1) := by decide +kernel
theorem dX4_leastSquare_44 : decode cX4_leastSquare 44 = .ok (.iload_n 2, 1) := by decide +kernel
theorem dX4_leastSquare_45 : decode cX4_leastSquare 45 = .ok (.iload_n 3, 1) := by decide +kernel
theorem dX4_leastSquare_46 : decode cX4_leastSquare 46 = .ok (.invokestatic 48, 3) := by decide +kernel
theorem dX4_leastSquare_49 : decode cX4_leastSquare 49 = .ok (.i2l, 1) := by decide +kernel
theorem dX4_leastSquare_50 : decode cX4_leastSquare 50 = .ok (.lstore 8, 2) := by decide +kernel
theorem dX4_leastSquare_52 : decode cX4_leastSquare 52 = .ok (.iload 6, 2) := by decide +kernel
theorem dX4_leastSquare_54 : decode cX4_leastSquare 54 = .ok (.iload 7, 2) := by decide +kernel
theorem dX4_leastSquare_56 : decode cX4_leastSquare 56 = .ok (.invokestatic 58, 3) := by decide +kernel
theorem dX4_leastSquare_59 : decode cX4_leastSquare 59 = .ok (.i2l, 1) := by decide +kernel
theorem dX4_leastSquare_60 : decode cX4_leastSquare 60 = .ok (.iload_n 3, 1) := by decide +kernel
theorem dX4_leastSquare_61 : decode cX4_leastSquare 61 = .ok (.i2l, 1) := by decide +kernel
theorem dX4_leastSquare_62 : decode cX4_leastSquare 62 = .ok (.lmul, 1) := by decide +kernel
theorem dX4_leastSquare_63 : decode cX4_leastSquare 63 = .ok (.iload_n 3, 1) := by decide +kernel
theorem dX4_leastSquare_64 : decode cX4_leastSquare 64 = .ok (.i2l, 1) := by decide +kernel
theorem dX4_leastSquare_65 : decode cX4_leastSquare 65 = .ok (.lmul, 1) := by decide +kernel
theorem dX4_leastSquare_66 : decode cX4_leastSquare 66 = .ok (.lstore 10, 2) := by decide +kernel
theorem dX4_leastSquare_68 : decode cX4_leastSquare 68 = .ok (.lload 10, 2) := by decide +kernel
theorem dX4_leastSquare_70 : decode cX4_leastSquare 70 = .ok (.lconst 0, 1) := by decide +kernel
theorem dX4_leastSquare_71 : decode cX4_leastSquare 71 = .ok (.lcmp, 1) := by decide +kernel
theorem dX4_leastSquare_72 : decode cX4_leastSquare 72 = .ok (.ifCond .gt 7, 3) := by decide +kernel
theorem dX4_leastSquare_75 : decode cX4_leastSquare 75 = .ok (.fconst 0, 1) := by decide +kernel
theorem dX4_leastSquare_76 : decode cX4_leastSquare 76 = .ok (.goto 13, 3) := by decide +kernel
theorem dX4_leastSquare_79 : decode cX4_leastSquare 79 = .ok (.lload 8, 2) := by decide +kernel
theorem dX4_leastSquare_81 : decode cX4_leastSquare 81 = .ok (.lload 8, 2) := by decide +kernel
theorem dX4_leastSquare_83 : decode cX4_leastSquare 83 = .ok (.lmul, 1) := by decide +kernel
theorem dX4_leastSquare_84 : decode cX4_leastSquare 84 = .ok (.l2f, 1) := by decide +kernel
theorem dX4_leastSquare_85 : decode cX4_leastSquare 85 = .ok (.lload 10, 2) := by decide +kernel
theorem dX4_leastSquare_87 : decode cX4_leastSquare 87 = .ok (.l2f, 1) := by decide +kernel
theorem dX4_leastSquare_88 : decode cX4_leastSquare 88 = .ok (.fdiv, 1) := by decide +kernel
theorem dX4_leastSquare_89 : decode cX4_leastSquare 89 = .ok (.fstore 12, 2) := by decide +kernel
theorem dX4_leastSquare_91 : decode cX4_leastSquare 91 = .ok (.iload 5, 2) := by decide +kernel
theorem dX4_leastSquare_93 : decode cX4_leastSquare 93 = .ok (.ifCond .eq 11, 3) := by decide +kernel
theorem dX4_leastSquare_96 : decode cX4_leastSquare 96 = .ok (.fload 12, 2) := by decide +kernel
theorem dX4_leastSquare_98 : decode cX4_leastSquare 98 = .ok (.fload 4, 2) := by decide +kernel
theorem dX4_leastSquare_100 : decode cX4_leastSquare 100 = .ok (.fcmp .g, 1) := by decide +kernel
theorem dX4_leastSquare_101 : decode cX4_leastSquare 101 = .ok (.ifCond .ge 7, 3) := by decide +kernel
theorem dX4_leastSquare_104 : decode cX4_leastSquare 104 = .ok (.fload 12, 2) := by decide +kernel
theorem dX4_leastSquare_106 : decode cX4_leastSquare 106 = .ok (.fstore 4, 2) := by decide +kernel
theorem dX4_leastSquare_108 : decode cX4_leastSquare 108 = .ok (.iinc 5 1, 3) := by decide +kernel
theorem dX4_leastSquare_111 : decode cX4_leastSquare 111 = .ok (.goto (-105), 3) := by decide +kernel
theorem dX4_leastSquare_114 : decode cX4_leastSquare 114 = .ok (.fload 4, 2) := by decide +kernel
theorem dX4_leastSquare_116 : decode cX4_leastSquare 116 = .ok (.freturn, 1) := by decide +kernel
set_option maxRecDepth 20000 in
theorem ggX5_init_X8_init : GoodIn wsX5_init wsX8_init := goodIn_r _ [13, 14, 2, 3, 15, 16, 17, 18, 19, 20, 21] rfl (by decide +kernel)
set_option maxRecDepth 20000 in
theorem gX5_init_X8_init : GoodIn wsX5_init (wsX8_init) := ggX5_init_X8_init
theorem dX5_init_0 : decode cX5_init 0 = .ok (.aload_n 0, 1) := by decide +kernel
theorem dX5_init_1 : decode cX5_init 1 = .ok (.invokespecial 3, 3) := by decide +kernel
theorem dX5_init_4 : decode cX5_init 4 = .ok (.aload_n 0, 1) := by decide +kernel
theorem dX5_init_5 : decode cX5_init 5 = .ok (.new 9, 3) := by decide +kernel
theorem dX5_init_8 : decode cX5_init 8 = .ok (.dup, 1) := by decide +kernel
theorem dX5_init_9 : decode cX5_init 9 = .ok (.sipush 400, 3) := by decide +kernel
theorem dX5_init_12 : decode cX5_init 12 = .ok (.iconst 0, 1) := by decide +kernel
theorem dX5_init_13 : decode cX5_init 13 = .ok (.invokespecial 11, 3) := by decide +kernel
theorem dX5_init_16 : decode cX5_init 16 = .ok (.putfield 14, 3) := by decide +kernel
theorem dX5_init_19 : decode cX5_init 19 = .ok (.aload_n 0, 1) := by decide +kernel
theorem dX5_init_20 : decode cX5_init 20 = .ok (.new 9, 3) := by decide +kernel
theorem dX5_init_23 : decode cX5_init 23 = .ok (.dup, 1) := by decide +kernel
theorem dX5_init_24 : decode cX5_init 24 = .ok (.sipush 400, 3) := by decide +kernel
theorem dX5_init_27 : decode cX5_init 27 = .ok (.bipush 99, 2) := by decide +kernel
theorem dX5_init_29 : decode cX5_init 29 = .ok (.invokespecial 11, 3) := by decide +kernel
theorem dX5_init_32 : decode cX5_init 32 = .ok (.putfield 20, 3) := by decide +kernel
theorem dX5_init_35 : decode cX5_init 35 = .ok (.aload_n 0, 1) := by decide +kernel
theorem dX5_init_36 : decode cX5_init 36 = .ok (.new 9, 3) := by decide +kernel
theorem dX5_init_39 : decode cX5_init 39 = .ok (.dup, 1) := by decide +kernel
theorem dX5_init_40 : decode cX5_init 40 = .ok (.sipush 400, 3) := by decide +kernel
theorem dX5_init_43 : decode cX5_init 43 = .ok (.bipush 9, 2) := by decide +kernel
theorem dX5_init_45 : decode cX5_init 45 = .ok (.invokespecial 11, 3) := by decide +kernel
theorem dX5_init_48 : decode cX5_init 48 = .ok (.putfield 23, 3) := by decide +kernel
theorem dX5_init_51 : decode cX5_init 51 = .ok (.aload_n 0, 1) := by decide +kernel
theorem dX5_init_52 : decode cX5_init 52 = .ok (.new 9, 3) := by decide +kernel
theorem dX5_init_55 : decode cX5_init 55 = .ok (.dup, 1) := by decide +kernel
theorem dX5_init_56 : decode cX5_init 56 = .ok (.sipush 400, 3) := by decide +kernel
theorem dX5_init_59 : decode cX5_init 59 = .ok (.iconst 0, 1) := by decide +kernel
theorem dX5_init_60 : decode cX5_init 60 = .ok (.invokespecial 11, 3) := by decide +kernel
theorem dX5_init_63 : decode cX5_init 63 = .ok (.putfield 26, 3) := by decide +kernel
theorem dX5_init_66 : decode cX5_init 66 = .ok (.return_, 1) := by decide +kernel
set_option maxRecDepth 20000 in
theorem ggX5_learn_X8_at : GoodIn wsX5_learn wsX8_at := goodIn_r _ [7, 8, 17] rfl (by decide +kernel)
set_option maxRecDepth 20000 in
theorem gX5_learn_X8_at : GoodIn wsX5_learn (wsV RX5 29 RX8 yX8_at wsX8_at) := goodIn_app (goodIn_r _ [3, 4, 5, 6] rfl (by decide +kernel)) ggX5_learn_X8_at
set_option maxRecDepth 20000 in
theorem ggX5_learn_X8_put : GoodIn wsX5_learn wsX8_put := goodIn_r _ [12, 8, 17] rfl (by decide +kernel)
set_option maxRecDepth 20000 in
theorem gX5_learn_X8_put : GoodIn wsX5_learn (wsV RX5 33 RX8 yX8_put wsX8_put) := goodIn_app (goodIn_r _ [9, 10, 11, 6] rfl (by decide +kernel)) ggX5_learn_X8_put
theorem dX5_learn_0 : decode cX5_learn 0 = .ok (.aload_n 0, 1) := by decide +kernel
theorem dX5_learn_1 : decode cX5_learn 1 = .ok (.getfield 26, 3) := by decide +kernel
theorem dX5_learn_4 : decode cX5_learn 4 = .ok (.iload_n 1, 1) := by decide +kernel
theorem dX5_learn_5 : decode cX5_learn 5 = .ok (.aload_n 0, 1) := by decide +kernel
theorem dX5_learn_6 : decode cX5_learn 6 = .ok (.getfield 14, 3) := by decide +kernel
theorem dX5_learn_9 : decode cX5_learn 9 = .ok (.iload_n 1, 1) := by decide +kernel
theorem dX5_learn_10 : decode cX5_learn 10 = .ok (.invokevirtual 29, 3) := by decide +kernel
theorem dX5_learn_13 : decode cX5_learn 13 = .ok (.invokevirtual 33, 3) := by decide +kernel
theorem dX5_learn_16 : decode cX5_learn 16 = .ok (.return_, 1) := by decide +kernel
set_option maxRecDepth 20000 in
theorem ggX5_sag_X8_at : GoodIn wsX5_sag wsX8_at := goodIn_r _ [10, 11, 26] rfl (by decide +kernel)
set_option maxRecDepth 20000 in
theorem gX5_sag_X8_at : GoodIn wsX5_sag (wsV RX5 29 RX8 yX8_at wsX8_at) := goodIn_app (goodIn_r _ [6, 7, 8, 9] rfl (by decide +kernel)) ggX5_sag_X8_at
set_option maxRecDepth 20000 in
theorem ggX5_sag_X8_put : GoodIn wsX5_sag wsX8_put := goodIn_r _ [15, 11, 26] rfl (by decide +kernel)
set_option maxRecDepth 20000 in
theorem gX5_sag_X8_put : GoodIn wsX5_sag (wsV RX5 33 RX8 yX8_put wsX8_put) := goodIn_app (goodIn_r _ [12, 13, 14, 9] rfl (by decide +kernel)) ggX5_sag_X8_put
set_option maxRecDepth 20000 in
theorem ggX5_sag_X5_learn : GoodIn wsX5_sag wsX5_learn := goodIn_r _ [20, 21, 1, 6, 7, 8, 9, 10, 11, 12, 13, 14, 15, 22, 23, 24, 25, 26] rfl (by decide +kernel)
set_option maxRecDepth 20000 in
theorem gX5_sag_X5_learn : GoodIn wsX5_sag (wsV RX5 42 RX5 yX5_learn wsX5_learn) := goodIn_app (goodIn_r _ [16, 17, 18, 19] rfl (by decide +kernel)) ggX5_sag_X5_learn
theorem dX5_sag_0 : decode cX5_sag 0 = .ok (.aload_n 0, 1) := by decide +kernel
theorem dX5_sag_1 : decode cX5_sag 1 = .ok (.getfield 14, 3) := by decide +kernel
theorem dX5_sag_4 : decode cX5_sag 4 = .ok (.iload_n 1, 1) := by decide +kernel
theorem dX5_sag_5 : decode cX5_sag 5 = .ok (.iconst 0, 1) := by decide +kernel
theorem dX5_sag_6 : decode cX5_sag 6 = .ok (.aload_n 0, 1) := by decide +kernel
theorem dX5_sag_7 : decode cX5_sag 7 = .ok (.getfield 14, 3) := by decide +kernel
theorem dX5_sag_10 : decode cX5_sag 10 = .ok (.iload_n 1, 1) := by decide +kernel
theorem dX5_sag_11 : decode cX5_sag 11 = .ok (.invokevirtual 29, 3) := by decide +kernel
theorem dX5_sag_14 : decode cX5_sag 14 = .ok (.iconst 1, 1) := by decide +kernel
theorem dX5_sag_15 : decode cX5_sag 15 = .ok (.isub, 1) := by decide +kernel
theorem dX5_sag_16 : decode cX5_sag 16 = .ok (.invokestatic 36, 3) := by decide +kernel
theorem dX5_sag_19 : decode cX5_sag 19 = .ok (.invokevirtual 33, 3) := by decide +kernel
theorem dX5_sag_22 : decode cX5_sag 22 = .ok (.aload_n 0, 1) := by decide +kernel
theorem dX5_sag_23 : decode cX5_sag 23 = .ok (.iload_n 1, 1) := by decide +kernel
theorem dX5_sag_24 : decode cX5_sag 24 = .ok (.invokevirtual 42, 3) := by decide +kernel
theorem dX5_sag_27 : decode cX5_sag 27 = .ok (.return_, 1) := by decide +kernel
set_option maxRecDepth 20000 in
theorem ggX5_slipFrom_X8_at : GoodIn wsX5_slipFrom wsX8_at := goodIn_r _ [7, 8, 24] rfl (by decide +kernel)
set_option maxRecDepth 20000 in
theorem gX5_slipFrom_X8_at : GoodIn wsX5_slipFrom (wsV RX5 29 RX8 yX8_at wsX8_at) := goodIn_app (goodIn_r _ [3, 4, 5, 6] rfl (by decide +kernel)) ggX5_slipFrom_X8_at
set_option maxRecDepth 20000 in
theorem ggX5_slipFrom_X5_neighbour : GoodIn wsX5_slipFrom wsX5_neighbour := goodIn_r _ [12, 13, 14, 15, 16, 17, 18, 19] rfl (by decide +kernel)
set_option maxRecDepth 20000 in
theorem gX5_slipFrom_X5_neighbour : GoodIn wsX5_slipFrom (va_wsS RX5 46 yX5_neighbour wsX5_neighbour) := goodIn_app (goodIn_r _ [9, 10, 11] rfl (by decide +kernel)) ggX5_slipFrom_X5_neighbour
theorem dX5_slipFrom_0 : decode cX5_slipFrom 0 = .ok (.aload_n 0, 1) := by decide +kernel
theorem dX5_slipFrom_1 : decode cX5_slipFrom 1 = .ok (.getfield 14, 3) := by decide +kernel
theorem dX5_slipFrom_4 : decode cX5_slipFrom 4 = .ok (.iload_n 1, 1) := by decide +kernel
theorem dX5_slipFrom_5 : decode cX5_slipFrom 5 = .ok (.invokevirtual 29, 3) := by decide +kernel
theorem dX5_slipFrom_8 : decode cX5_slipFrom 8 = .ok (.aload_n 0, 1) := by decide +kernel
theorem dX5_slipFrom_9 : decode cX5_slipFrom 9 = .ok (.getfield 23, 3) := by decide +kernel
theorem dX5_slipFrom_12 : decode cX5_slipFrom 12 = .ok (.iload_n 1, 1) := by decide +kernel
theorem dX5_slipFrom_13 : decode cX5_slipFrom 13 = .ok (.invokevirtual 29, 3) := by decide +kernel
theorem dX5_slipFrom_16 : decode cX5_slipFrom 16 = .ok (.isub, 1) := by decide +kernel
theorem dX5_slipFrom_17 : decode cX5_slipFrom 17 = .ok (.istore_n 2, 1) := by decide +kernel
theorem dX5_slipFrom_18 : decode cX5_slipFrom 18 = .ok (.iconst (-1), 1) := by decide +kernel
theorem dX5_slipFrom_19 : decode cX5_slipFrom 19 = .ok (.istore_n 3, 1) := by decide +kernel
theorem dX5_slipFrom_20 : decode cX5_slipFrom 20 = .ok (.iconst 0, 1) := by decide +kernel
theorem dX5_slipFrom_21 : decode cX5_slipFrom 21 = .ok (.istore 4, 2) := by decide +kernel
theorem dX5_slipFrom_23 : decode cX5_slipFrom 23 = .ok (.iload 4, 2) := by decide +kernel
theorem dX5_slipFrom_25 : decode cX5_slipFrom 25 = .ok (.iconst 4, 1) := by decide +kernel
theorem dX5_slipFrom_26 : decode cX5_slipFrom 26 = .ok (.if_icmp .ge 49, 3) := by decide +kernel
theorem dX5_slipFrom_29 : decode cX5_slipFrom 29 = .ok (.iload_n 1, 1) := by decide +kernel
theorem dX5_slipFrom_30 : decode cX5_slipFrom 30 = .ok (.iload 4, 2) := by decide +kernel
theorem dX5_slipFrom_32 : decode cX5_slipFrom 32 = .ok (.invokestatic 46, 3) := by decide +kernel
theorem dX5_slipFrom_35 : decode cX5_slipFrom 35 = .ok (.istore 5, 2) := by decide +kernel
theorem dX5_slipFrom_37 : decode cX5_slipFrom 37 = .ok (.iload 5, 2) := by decide +kernel
theorem dX5_slipFrom_39 : decode cX5_slipFrom 39 = .ok (.iconst (-1), 1) := by decide +kernel
theorem dX5_slipFrom_40 : decode cX5_slipFrom 40 = .ok (.if_icmp .eq 29, 3) := by decide +kernel
theorem dX5_slipFrom_43 : decode cX5_slipFrom 43 = .ok (.aload_n 0, 1) := by decide +kernel
theorem dX5_slipFrom_44 : decode cX5_slipFrom 44 = .ok (.getfield 14, 3) := by decide +kernel
theorem dX5_slipFrom_47 : decode cX5_slipFrom 47 = .ok (.iload 5, 2) := by decide +kernel
theorem dX5_slipFrom_49 : decode cX5_slipFrom 49 = .ok (.invokevirtual 29, 3) := by decide +kernel
theorem dX5_slipFrom_52 : decode cX5_slipFrom 52 = .ok (.iload_n 2, 1) := by decide +kernel
theorem dX5_slipFrom_53 : decode cX5_slipFrom 53 = .ok (.if_icmp .ge 16, 3) := by decide +kernel
theorem dX5_slipFrom_56 : decode cX5_slipFrom 56 = .ok (.aload_n 0, 1) := by decide +kernel
theorem dX5_slipFrom_57 : decode cX5_slipFrom 57 = .ok (.getfield 14, 3) := by decide +kernel
theorem dX5_slipFrom_60 : decode cX5_slipFrom 60 = .ok (.iload 5, 2) := by decide +kernel
theorem dX5_slipFrom_62 : decode cX5_slipFrom 62 = .ok (.invokevirtual 29, 3) := by decide +kernel
theorem dX5_slipFrom_65 : decode cX5_slipFrom 65 = .ok (.istore_n 2, 1) := by decide +kernel
theorem dX5_slipFrom_66 : decode cX5_slipFrom 66 = .ok (.iload 5, 2) := by decide +kernel
theorem dX5_slipFrom_68 : decode cX5_slipFrom 68 = .ok (.istore_n 3, 1) := by decide +kernel
theorem dX5_slipFrom_69 : decode cX5_slipFrom 69 = .ok (.iinc 4 1, 3) := by decide +kernel
theorem dX5_slipFrom_72 : decode cX5_slipFrom 72 = .ok (.goto (-49), 3) := by decide +kernel
theorem dX5_slipFrom_75 : decode cX5_slipFrom 75 = .ok (.iload_n 3, 1) := by decide +kernel
theorem dX5_slipFrom_76 : decode cX5_slipFrom 76 = .ok (.ireturn, 1) := by decide +kernel
set_option maxRecDepth 20000 in
theorem ggX5_neighbour_X10_xOf : GoodIn wsX5_neighbour wsX10_xOf := goodIn_r _ [3] rfl (by decide +kernel)
set_option maxRecDepth 20000 in
theorem gX5_neighbour_X10_xOf_n49 : GoodIn wsX5_neighbour (wsX10_xOf) := ggX5_neighbour_X10_xOf
set_option maxRecDepth 20000 in
theorem ggX5_neighbour_X10_yOf : GoodIn wsX5_neighbour wsX10_yOf := goodIn_r _ [5] rfl (by decide +kernel)
set_option maxRecDepth 20000 in
theorem gX5_neighbour_X10_yOf_n52 : GoodIn wsX5_neighbour (wsX10_yOf) := ggX5_neighbour_X10_yOf
set_option maxRecDepth 20000 in
theorem ggX5_neighbour_X10_pointAt : GoodIn wsX5_neighbour wsX10_pointAt := goodIn_r _ [7] rfl (by decide +kernel)
set_option maxRecDepth 20000 in
theorem gX5_neighbour_X10_pointAt_n55 : GoodIn wsX5_neighbour (wsX10_pointAt) := ggX5_neighbour_X10_pointAt
theorem dX5_neighbour_0 : decode cX5_neighbour 0 = .ok (.iload_n 0, 1) := by decide +kernel
theorem dX5_neighbour_1 : decode cX5_neighbour 1 = .ok (.invokestatic 49, 3) := by decide +kernel
theorem dX5_neighbour_4 : decode cX5_neighbour 4 = .ok (.istore_n 2, 1) := by decide +kernel
theorem dX5_neighbour_5 : decode cX5_neighbour 5 = .ok (.iload_n 0, 1) := by decide +kernel
theorem dX5_neighbour_6 : decode cX5_neighbour 6 = .ok (.invokestatic 52, 3) := by decide +kernel
theorem dX5_neighbour_9 : decode cX5_neighbour 9 = .ok (.istore_n 3, 1) := by decide +kernel
theorem dX5_neighbour_10 : decode cX5_neighbour 10 = .ok (.iload_n 1, 1) := by decide +kernel
theorem dX5_neighbour_11 : decode cX5_neighbour 11 = .ok (.tableswitch 49 0 2 #[25, 33, 41], 25) := by decide +kernel
theorem dX5_neighbour_36 : decode cX5_neighbour 36 = .ok (.iload_n 2, 1) := by decide +kernel
theorem dX5_neighbour_37 : decode cX5_neighbour 37 = .ok (.iload_n 3, 1) := by decide +kernel
theorem dX5_neighbour_38 : decode cX5_neighbour 38 = .ok (.iconst 1, 1) := by decide +kernel
theorem dX5_neighbour_39 : decode cX5_neighbour 39 = .ok (.isub, 1) := by decide +kernel
theorem dX5_neighbour_40 : decode cX5_neighbour 40 = .ok (.invokestatic 55, 3) := by decide +kernel
theorem dX5_neighbour_43 : decode cX5_neighbour 43 = .ok (.ireturn, 1) := by decide +kernel
theorem dX5_neighbour_44 : decode cX5_neighbour 44 = .ok (.iload_n 2, 1) := by decide +kernel
theorem dX5_neighbour_45 : decode cX5_neighbour 45 = .ok (.iconst 1, 1) := by decide +kernel
theorem dX5_neighbour_46 : decode cX5_neighbour 46 = .ok (.isub, 1) := by decide +kernel
theorem dX5_neighbour_47 : decode cX5_neighbour 47 = .ok (.iload_n 3, 1) := by decide +kernel
theorem dX5_neighbour_48 : decode cX5_neighbour 48 = .ok (.invokestatic 55, 3) := by decide +kernel
theorem dX5_neighbour_51 : decode cX5_neighbour 51 = .ok (.ireturn, 1) := by decide +kernel
theorem dX5_neighbour_52 : decode cX5_neighbour 52 = .ok (.iload_n 2, 1) := by decide +kernel
theorem dX5_neighbour_53 : decode cX5_neighbour 53 = .ok (.iconst 1, 1) := by decide +kernel
theorem dX5_neighbour_54 : decode cX5_neighbour 54 = .ok (.iadd, 1) := by decide +kernel
theorem dX5_neighbour_55 : decode cX5_neighbour 55 = .ok (.iload_n 3, 1) := by decide +kernel
theorem dX5_neighbour_56 : decode cX5_neighbour 56 = .ok (.invokestatic 55, 3) := by decide +kernel
theorem dX5_neighbour_59 : decode cX5_neighbour 59 = .ok (.ireturn, 1) := by decide +kernel
theorem dX5_neighbour_60 : decode cX5_neighbour 60 = .ok (.iload_n 2, 1) := by decide +kernel
theorem dX5_neighbour_61 : decode cX5_neighbour 61 = .ok (.iload_n 3, 1) := by decide +kernel
theorem dX5_neighbour_62 : decode cX5_neighbour 62 = .ok (.iconst 1, 1) := by decide +kernel
theorem dX5_neighbour_63 : decode cX5_neighbour 63 = .ok (.iadd, 1) := by decide +kernel
theorem dX5_neighbour_64 : decode cX5_neighbour 64 = .ok (.invokestatic 55, 3) := by decide +kernel
theorem dX5_neighbour_67 : decode cX5_neighbour 67 = .ok (.ireturn, 1) := by decide +kernel
set_option maxRecDepth 20000 in
theorem ggX6_init_X8_init : GoodIn wsX6_init wsX8_init := goodIn_r _ [12, 13, 2, 3, 14, 15, 16, 17, 18, 19, 20] rfl (by decide +kernel)
set_option maxRecDepth 20000 in
theorem gX6_init_X8_init : GoodIn wsX6_init (wsX8_init) := ggX6_init_X8_init
theorem dX6_init_0 : decode cX6_init 0 = .ok (.aload_n 0, 1) := by decide +kernel
theorem dX6_init_1 : decode cX6_init 1 = .ok (.invokespecial 3, 3) := by decide +kernel
theorem dX6_init_4 : decode cX6_init 4 = .ok (.aload_n 0, 1) := by decide +kernel
theorem dX6_init_5 : decode cX6_init 5 = .ok (.new 9, 3) := by decide +kernel
theorem dX6_init_8 : decode cX6_init 8 = .ok (.dup, 1) := by decide +kernel
theorem dX6_init_9 : decode cX6_init 9 = .ok (.bipush 6, 2) := by decide +kernel
theorem dX6_init_11 : decode cX6_init 11 = .ok (.iconst 0, 1) := by decide +kernel
theorem dX6_init_12 : decode cX6_init 12 = .ok (.invokespecial 11, 3) := by decide +kernel
theorem dX6_init_15 : decode cX6_init 15 = .ok (.putfield 14, 3) := by decide +kernel
theorem dX6_init_18 : decode cX6_init 18 = .ok (.aload_n 0, 1) := by decide +kernel
theorem dX6_init_19 : decode cX6_init 19 = .ok (.new 9, 3) := by decide +kernel
theorem dX6_init_22 : decode cX6_init 22 = .ok (.dup, 1) := by decide +kernel
theorem dX6_init_23 : decode cX6_init 23 = .ok (.bipush 6, 2) := by decide +kernel
theorem dX6_init_25 : decode cX6_init 25 = .ok (.iconst 0, 1) := by decide +kernel
theorem dX6_init_26 : decode cX6_init 26 = .ok (.invokespecial 11, 3) := by decide +kernel
theorem dX6_init_29 : decode cX6_init 29 = .ok (.putfield 20, 3) := by decide +kernel
theorem dX6_init_32 : decode cX6_init 32 = .ok (.aload_n 0, 1) := by decide +kernel
theorem dX6_init_33 : decode cX6_init 33 = .ok (.iconst 0, 1) := by decide +kernel
theorem dX6_init_34 : decode cX6_init 34 = .ok (.putfield 23, 3) := by decide +kernel
theorem dX6_init_37 : decode cX6_init 37 = .ok (.return_, 1) := by decide +kernel
set_option maxRecDepth 20000 in
theorem ggX6_gather_X8_at : GoodIn wsX6_gather wsX8_at := goodIn_r _ [8, 9, 22] rfl (by decide +kernel)
set_option maxRecDepth 20000 in
theorem gX6_gather_X8_at : GoodIn wsX6_gather (wsV RX6 27 RX8 yX8_at wsX8_at) := goodIn_app (goodIn_r _ [4, 5, 6, 7] rfl (by decide +kernel)) ggX6_gather_X8_at
set_option maxRecDepth 20000 in
theorem ggX6_gather_X10_xOf : GoodIn wsX6_gather wsX10_xOf := goodIn_r _ [12] rfl (by decide +kernel)
set_option maxRecDepth 20000 in
theorem gX6_gather_X10_xOf_n31 : GoodIn wsX6_gather (wsX10_xOf) := ggX6_gather_X10_xOf
set_option maxRecDepth 20000 in
theorem ggX6_gather_X8_put : GoodIn wsX6_gather wsX8_put := goodIn_r _ [16, 9, 22] rfl (by decide +kernel)
set_option maxRecDepth 20000 in
theorem gX6_gather_X8_put : GoodIn wsX6_gather (wsV RX6 34 RX8 yX8_put wsX8_put) := goodIn_app (goodIn_r _ [13, 14, 15, 7] rfl (by decide +kernel)) ggX6_gather_X8_put
set_option maxRecDepth 20000 in
theorem ggX6_gather_X10_yOf : GoodIn wsX6_gather wsX10_yOf := goodIn_r _ [18] rfl (by decide +kernel)
set_option maxRecDepth 20000 in
theorem gX6_gather_X10_yOf_n37 : GoodIn wsX6_gather (wsX10_yOf) := ggX6_gather_X10_yOf
theorem dX6_gather_0 : decode cX6_gather 0 = .ok (.aload_n 0, 1) := by decide +kernel
theorem dX6_gather_1 : decode cX6_gather 1 = .ok (.iconst 0, 1) := by decide +kernel
theorem dX6_gather_2 : decode cX6_gather 2 = .ok (.putfield 23, 3) := by decide +kernel
theorem dX6_gather_5 : decode cX6_gather 5 = .ok (.iconst 0, 1) := by decide +kernel
theorem dX6_gather_6 : decode cX6_gather 6 = .ok (.istore 5, 2) := by decide +kernel
theorem dX6_gather_8 : decode cX6_gather 8 = .ok (.iload 5, 2) := by decide +kernel
theorem dX6_gather_10 : decode cX6_gather 10 = .ok (.bipush 6, 2) := by decide +kernel
theorem dX6_gather_12 : decode cX6_gather 12 = .ok (.if_icmp .ge 75, 3) := by decide +kernel
theorem dX6_gather_15 : decode cX6_gather 15 = .ok (.aload_n 1, 1) := by decide +kernel
theorem dX6_gather_16 : decode cX6_gather 16 = .ok (.iload 5, 2) := by decide +kernel
theorem dX6_gather_18 : decode cX6_gather 18 = .ok (.invokevirtual 27, 3) := by decide +kernel
theorem dX6_gather_21 : decode cX6_gather 21 = .ok (.istore 6, 2) := by decide +kernel
theorem dX6_gather_23 : decode cX6_gather 23 = .ok (.iload 6, 2) := by decide +kernel
theorem dX6_gather_25 : decode cX6_gather 25 = .ok (.iconst (-1), 1) := by decide +kernel
theorem dX6_gather_26 : decode cX6_gather 26 = .ok (.if_icmp .eq 55, 3) := by decide +kernel
theorem dX6_gather_29 : decode cX6_gather 29 = .ok (.aload_n 0, 1) := by decide +kernel
theorem dX6_gather_30 : decode cX6_gather 30 = .ok (.getfield 14, 3) := by decide +kernel
theorem dX6_gather_33 : decode cX6_gather 33 = .ok (.aload_n 0, 1) := by decide +kernel
theorem dX6_gather_34 : decode cX6_gather 34 = .ok (.getfield 23, 3) := by decide +kernel
theorem dX6_gather_37 : decode cX6_gather 37 = .ok (.iload 4, 2) := by decide +kernel
theorem dX6_gather_39 : decode cX6_gather 39 = .ok (.iload 6, 2) := by decide +kernel
theorem dX6_gather_41 : decode cX6_gather 41 = .ok (.invokestatic 31, 3) := by decide +kernel
theorem dX6_gather_44 : decode cX6_gather 44 = .ok (.imul, 1) := by decide +kernel
theorem dX6_gather_45 : decode cX6_gather 45 = .ok (.iload_n 2, 1) := by decide +kernel
theorem dX6_gather_46 : decode cX6_gather 46 = .ok (.isub, 1) := by decide +kernel
theorem dX6_gather_47 : decode cX6_gather 47 = .ok (.invokevirtual 34, 3) := by decide +kernel
theorem dX6_gather_50 : decode cX6_gather 50 = .ok (.aload_n 0, 1) := by decide +kernel
theorem dX6_gather_51 : decode cX6_gather 51 = .ok (.getfield 20, 3) := by decide +kernel
theorem dX6_gather_54 : decode cX6_gather 54 = .ok (.aload_n 0, 1) := by decide +kernel
theorem dX6_gather_55 : decode cX6_gather 55 = .ok (.getfield 23, 3) := by decide +kernel
theorem dX6_gather_58 : decode cX6_gather 58 = .ok (.iload 4, 2) := by decide +kernel
theorem dX6_gather_60 : decode cX6_gather 60 = .ok (.iload 6, 2) := by decide +kernel
theorem dX6_gather_62 : decode cX6_gather 62 = .ok (.invokestatic 37, 3) := by decide +kernel
theorem dX6_gather_65 : decode cX6_gather 65 = .ok (.imul, 1) := by decide +kernel
theorem dX6_gather_66 : decode cX6_gather 66 = .ok (.iload_n 3, 1) := by decide +kernel
theorem dX6_gather_67 : decode cX6_gather 67 = .ok (.isub, 1) := by decide +kernel
theorem dX6_gather_68 : decode cX6_gather 68 = .ok (.invokevirtual 34, 3) := by decide +kernel
theorem dX6_gather_71 : decode cX6_gather 71 = .ok (.aload_n 0, 1) := by decide +kernel
theorem dX6_gather_72 : decode cX6_gather 72 = .ok (.dup, 1) := by decide +kernel
theorem dX6_gather_73 : decode cX6_gather 73 = .ok (.getfield 23, 3) := by decide +kernel
theorem dX6_gather_76 : decode cX6_gather 76 = .ok (.iconst 1, 1) := by decide +kernel
theorem dX6_gather_77 : decode cX6_gather 77 = .ok (.iadd, 1) := by decide +kernel
theorem dX6_gather_78 : decode cX6_gather 78 = .ok (.putfield 23, 3) := by decide +kernel
theorem dX6_gather_81 : decode cX6_gather 81 = .ok (.iinc 5 1, 3) := by decide +kernel
theorem dX6_gather_84 : decode cX6_gather 84 = .ok (.goto (-76), 3) := by decide +kernel
theorem dX6_gather_87 : decode cX6_gather 87 = .ok (.return_, 1) := by decide +kernel
set_option maxRecDepth 20000 in
theorem ggX6_holdMoment_X8_at : GoodIn wsX6_holdMoment wsX8_at := goodIn_r _ [8, 9, 26] rfl (by decide +kernel)
set_option maxRecDepth 20000 in
theorem gX6_holdMoment_X8_at : GoodIn wsX6_holdMoment (wsV RX6 27 RX8 yX8_at wsX8_at) := goodIn_app (goodIn_r _ [4, 5, 6, 7] rfl (by decide +kernel)) ggX6_holdMoment_X8_at
set_option maxRecDepth 20000 in
theorem ggX6_holdMoment_X6_isOnLine : GoodIn wsX6_holdMoment wsX6_isOnLine := goodIn_r _ [14, 2, 3, 15, 16, 17, 13, 18, 4, 5, 6, 7, 8, 9, 23, 24, 25, 26] rfl (by decide +kernel)
set_option maxRecDepth 20000 in
theorem gX6_holdMoment_X6_isOnLine : GoodIn wsX6_holdMoment (wsV RX6 40 RX6 yX6_isOnLine wsX6_isOnLine) := goodIn_app (goodIn_r _ [10, 11, 12, 13] rfl (by decide +kernel)) ggX6_holdMoment_X6_isOnLine
set_option maxRecDepth 20000 in
theorem ggX6_holdMoment_X6_isInTriangle : GoodIn wsX6_holdMoment wsX6_isInTriangle := goodIn_r _ [22, 15, 16, 17, 13, 18, 2, 3, 4, 5, 6, 7, 8, 9, 23, 24, 25, 26] rfl (by decide +kernel)
set_option maxRecDepth 20000 in
theorem gX6_holdMoment_X6_isInTriangle : GoodIn wsX6_holdMoment (wsV RX6 44 RX6 yX6_isInTriangle wsX6_isInTriangle) := goodIn_app (goodIn_r _ [19, 20, 21, 13] rfl (by decide +kernel)) ggX6_holdMoment_X6_isInTriangle
theorem dX6_holdMoment_0 : decode cX6_holdMoment 0 = .ok (.iconst 0, 1) := by decide +kernel
theorem dX6_holdMoment_1 : decode cX6_holdMoment 1 = .ok (.istore_n 1, 1) := by decide +kernel
theorem dX6_holdMoment_2 : decode cX6_holdMoment 2 = .ok (.iload_n 1, 1) := by decide +kernel
theorem dX6_holdMoment_3 : decode cX6_holdMoment 3 = .ok (.aload_n 0, 1) := by decide +kernel
theorem dX6_holdMoment_4 : decode cX6_holdMoment 4 = .ok (.getfield 23, 3) := by decide +kernel
theorem dX6_holdMoment_7 : decode cX6_holdMoment 7 = .ok (.if_icmp .ge 92, 3) := by decide +kernel
theorem dX6_holdMoment_10 : decode cX6_holdMoment 10 = .ok (.aload_n 0, 1) := by decide +kernel
theorem dX6_holdMoment_11 : decode cX6_holdMoment 11 = .ok (.getfield 14, 3) := by decide +kernel
theorem dX6_holdMoment_14 : decode cX6_holdMoment 14 = .ok (.iload_n 1, 1) := by decide +kernel
theorem dX6_holdMoment_15 : decode cX6_holdMoment 15 = .ok (.invokevirtual 27, 3) := by decide +kernel
theorem dX6_holdMoment_18 : decode cX6_holdMoment 18 = .ok (.ifCond .ne 16, 3) := by decide +kernel
theorem dX6_holdMoment_21 : decode cX6_holdMoment 21 = .ok (.aload_n 0, 1) := by decide +kernel
theorem dX6_holdMoment_22 : decode cX6_holdMoment 22 = .ok (.getfield 20, 3) := by decide +kernel
theorem dX6_holdMoment_25 : decode cX6_holdMoment 25 = .ok (.iload_n 1, 1) := by decide +kernel
theorem dX6_holdMoment_26 : decode cX6_holdMoment 26 = .ok (.invokevirtual 27, 3) := by decide +kernel
theorem dX6_holdMoment_29 : decode cX6_holdMoment 29 = .ok (.ifCond .ne 5, 3) := by decide +kernel
theorem dX6_holdMoment_32 : decode cX6_holdMoment 32 = .ok (.iconst 1, 1) := by decide +kernel
theorem dX6_holdMoment_33 : decode cX6_holdMoment 33 = .ok (.ireturn, 1) := by decide +kernel
theorem dX6_holdMoment_34 : decode cX6_holdMoment 34 = .ok (.iload_n 1, 1) := by decide +kernel
theorem dX6_holdMoment_35 : decode cX6_holdMoment 35 = .ok (.iconst 1, 1) := by decide +kernel
theorem dX6_holdMoment_36 : decode cX6_holdMoment 36 = .ok (.iadd, 1) := by decide +kernel
theorem dX6_holdMoment_37 : decode cX6_holdMoment 37 = .ok (.istore_n 2, 1) := by decide +kernel
theorem dX6_holdMoment_38 : decode cX6_holdMoment 38 = .ok (.iload_n 2, 1) := by decide +kernel
theorem dX6_holdMoment_39 : decode cX6_holdMoment 39 = .ok (.aload_n 0, 1) := by decide +kernel
theorem dX6_holdMoment_40 : decode cX6_holdMoment 40 = .ok (.getfield 23, 3) := by decide +kernel
theorem dX6_holdMoment_43 : decode cX6_holdMoment 43 = .ok (.if_icmp .ge 50, 3) := by decide +kernel
theorem dX6_holdMoment_46 : decode cX6_holdMoment 46 = .ok (.aload_n 0, 1) := by decide +kernel
theorem dX6_holdMoment_47 : decode cX6_holdMoment 47 = .ok (.iload_n 1, 1) := by decide +kernel
theorem dX6_holdMoment_48 : decode cX6_holdMoment 48 = .ok (.iload_n 2, 1) := by decide +kernel
theorem dX6_holdMoment_49 : decode cX6_holdMoment 49 = .ok (.invokevirtual 40, 3) := by decide +kernel
theorem dX6_holdMoment_52 : decode cX6_holdMoment 52 = .ok (.ifCond .eq 5, 3) := by decide +kernel
theorem dX6_holdMoment_55 : decode cX6_holdMoment 55 = .ok (.iconst 1, 1) := by decide +kernel
theorem dX6_holdMoment_56 : decode cX6_holdMoment 56 = .ok (.ireturn, 1) := by decide +kernel
theorem dX6_holdMoment_57 : decode cX6_holdMoment 57 = .ok (.iload_n 2, 1) := by decide +kernel
theorem dX6_holdMoment_58 : decode cX6_holdMoment 58 = .ok (.iconst 1, 1) := by decide +kernel
theorem dX6_holdMoment_59 : decode cX6_holdMoment 59 = .ok (.iadd, 1) := by decide +kernel
theorem dX6_holdMoment_60 : decode cX6_holdMoment 60 = .ok (.istore_n 3, 1) := by decide +kernel
theorem dX6_holdMoment_61 : decode cX6_holdMoment 61 = .ok (.iload_n 3, 1) := by decide +kernel
theorem dX6_holdMoment_62 : decode cX6_holdMoment 62 = .ok (.aload_n 0, 1) := by decide +kernel
theorem dX6_holdMoment_63 : decode cX6_holdMoment 63 = .ok (.getfield 23, 3) := by decide +kernel
theorem dX6_holdMoment_66 : decode cX6_holdMoment 66 = .ok (.if_icmp .ge 21, 3) := by decide +kernel
theorem dX6_holdMoment_69 : decode cX6_holdMoment 69 = .ok (.aload_n 0, 1) := by decide +kernel
theorem dX6_holdMoment_70 : decode cX6_holdMoment 70 = .ok (.iload_n 1, 1) := by decide +kernel
theorem dX6_holdMoment_71 : decode cX6_holdMoment 71 = .ok (.iload_n 2, 1) := by decide +kernel
theorem dX6_holdMoment_72 : decode cX6_holdMoment 72 = .ok (.iload_n 3, 1) := by decide +kernel
theorem dX6_holdMoment_73 : decode cX6_holdMoment 73 = .ok (.invokevirtual 44, 3) := by decide +kernel
theorem dX6_holdMoment_76 : decode cX6_holdMoment 76 = .ok (.ifCond .eq 5, 3) := by decide +kernel
theorem dX6_holdMoment_79 : decode cX6_holdMoment 79 = .ok (.iconst 1, 1) := by decide +kernel
theorem dX6_holdMoment_80 : decode cX6_holdMoment 80 = .ok (.ireturn, 1) := by decide +kernel
theorem dX6_holdMoment_81 : decode cX6_holdMoment 81 = .ok (.iinc 3 1, 3) := by decide +kernel
theorem dX6_holdMoment_84 : decode cX6_holdMoment 84 = .ok (.goto (-23), 3) := by decide +kernel
theorem dX6_holdMoment_87 : decode cX6_holdMoment 87 = .ok (.iinc 2 1, 3) := by decide +kernel
theorem dX6_holdMoment_90 : decode cX6_holdMoment 90 = .ok (.goto (-52), 3) := by decide +kernel
theorem dX6_holdMoment_93 : decode cX6_holdMoment 93 = .ok (.iinc 1 1, 3) := by decide +kernel
theorem dX6_holdMoment_96 : decode cX6_holdMoment 96 = .ok (.goto (-94), 3) := by decide +kernel
theorem dX6_holdMoment_99 : decode cX6_holdMoment 99 = .ok (.iconst 0, 1) := by decide +kernel
theorem dX6_holdMoment_100 : decode cX6_holdMoment 100 = .ok (.ireturn, 1) := by decide +kernel
set_option maxRecDepth 20000 in
theorem ggX6_isOnLine_X6_turn : GoodIn wsX6_isOnLine wsX6_turn := goodIn_r _ [7, 1, 2, 8, 9, 10, 11, 12, 13, 14, 15, 16, 17] rfl (by decide +kernel)
set_option maxRecDepth 20000 in
theorem gX6_isOnLine_X6_turn : GoodIn wsX6_isOnLine (wsV RX6 48 RX6 yX6_turn wsX6_turn) := goodIn_app (goodIn_r _ [3, 4, 5, 6] rfl (by decide +kernel)) ggX6_isOnLine_X6_turn
set_option maxRecDepth 20000 in
theorem ggX6_isOnLine_X8_at : GoodIn wsX6_isOnLine wsX8_at := goodIn_r _ [12, 13, 17] rfl (by decide +kernel)
set_option maxRecDepth 20000 in
theorem gX6_isOnLine_X8_at : GoodIn wsX6_isOnLine (wsV RX6 27 RX8 yX8_at wsX8_at) := goodIn_app (goodIn_r _ [8, 9, 10, 11] rfl (by decide +kernel)) ggX6_isOnLine_X8_at
theorem dX6_isOnLine_0 : decode cX6_isOnLine 0 = .ok (.aload_n 0, 1) := by decide +kernel
theorem dX6_isOnLine_1 : decode cX6_isOnLine 1 = .ok (.iload_n 1, 1) := by decide +kernel
theorem dX6_isOnLine_2 : decode cX6_isOnLine 2 = .ok (.iload_n 2, 1) := by decide +kernel
theorem dX6_isOnLine_3 : decode cX6_isOnLine 3 = .ok (.invokevirtual 48, 3) := by decide +kernel
theorem dX6_isOnLine_6 : decode cX6_isOnLine 6 = .ok (.ifCond .ne 45, 3) := by decide +kernel
theorem dX6_isOnLine_9 : decode cX6_isOnLine 9 = .ok (.aload_n 0, 1) := by decide +kernel
theorem dX6_isOnLine_10 : decode cX6_isOnLine 10 = .ok (.getfield 14, 3) := by decide +kernel
theorem dX6_isOnLine_13 : decode cX6_isOnLine 13 = .ok (.iload_n 1, 1) := by decide +kernel
theorem dX6_isOnLine_14 : decode cX6_isOnLine 14 = .ok (.invokevirtual 27, 3) := by decide +kernel
theorem dX6_isOnLine_17 : decode cX6_isOnLine 17 = .ok (.aload_n 0, 1) := by decide +kernel
theorem dX6_isOnLine_18 : decode cX6_isOnLine 18 = .ok (.getfield 14, 3) := by decide +kernel
theorem dX6_isOnLine_21 : decode cX6_isOnLine 21 = .ok (.iload_n 2, 1) := by decide +kernel
theorem dX6_isOnLine_22 : decode cX6_isOnLine 22 = .ok (.invokevirtual 27, 3) := by decide +kernel
theorem dX6_isOnLine_25 : decode cX6_isOnLine 25 = .ok (.imul, 1) := by decide +kernel
theorem dX6_isOnLine_26 : decode cX6_isOnLine 26 = .ok (.aload_n 0, 1) := by decide +kernel
theorem dX6_isOnLine_27 : decode cX6_isOnLine 27 = .ok (.getfield 20, 3) := by decide +kernel
theorem dX6_isOnLine_30 : decode cX6_isOnLine 30 = .ok (.iload_n 1, 1) := by decide +kernel
theorem dX6_isOnLine_31 : decode cX6_isOnLine 31 = .ok (.invokevirtual 27, 3) := by decide +kernel
theorem dX6_isOnLine_34 : decode cX6_isOnLine 34 = .ok (.aload_n 0, 1) := by decide +kernel
theorem dX6_isOnLine_35 : decode cX6_isOnLine 35 = .ok (.getfield 20, 3) := by decide +kernel
theorem dX6_isOnLine_38 : decode cX6_isOnLine 38 = .ok (.iload_n 2, 1) := by decide +kernel
theorem dX6_isOnLine_39 : decode cX6_isOnLine 39 = .ok (.invokevirtual 27, 3) := by decide +kernel
theorem dX6_isOnLine_42 : decode cX6_isOnLine 42 = .ok (.imul, 1) := by decide +kernel
theorem dX6_isOnLine_43 : decode cX6_isOnLine 43 = .ok (.iadd, 1) := by decide +kernel
theorem dX6_isOnLine_44 : decode cX6_isOnLine 44 = .ok (.ifCond .gt 7, 3) := by decide +kernel
theorem dX6_isOnLine_47 : decode cX6_isOnLine 47 = .ok (.iconst 1, 1) := by decide +kernel
theorem dX6_isOnLine_48 : decode cX6_isOnLine 48 = .ok (.goto 4, 3) := by decide +kernel
theorem dX6_isOnLine_51 : decode cX6_isOnLine 51 = .ok (.iconst 0, 1) := by decide +kernel
theorem dX6_isOnLine_52 : decode cX6_isOnLine 52 = .ok (.ireturn, 1) := by decide +kernel
set_option maxRecDepth 20000 in
theorem ggX6_isInTriangle_X6_turn : GoodIn wsX6_isInTriangle wsX6_turn := goodIn_r _ [5, 6, 7, 8, 9, 10, 11, 12, 13, 14, 15, 16, 17] rfl (by decide +kernel)
set_option maxRecDepth 20000 in
theorem gX6_isInTriangle_X6_turn : GoodIn wsX6_isInTriangle (wsV RX6 48 RX6 yX6_turn wsX6_turn) := goodIn_app (goodIn_r _ [1, 2, 3, 4] rfl (by decide +kernel)) ggX6_isInTriangle_X6_turn
theorem dX6_isInTriangle_0 : decode cX6_isInTriangle 0 = .ok (.aload_n 0, 1) := by decide +kernel
theorem dX6_isInTriangle_1 : decode cX6_isInTriangle 1 = .ok (.iload_n 1, 1) := by decide +kernel
theorem dX6_isInTriangle_2 : decode cX6_isInTriangle 2 = .ok (.iload_n 2, 1) := by decide +kernel
theorem dX6_isInTriangle_3 : decode cX6_isInTriangle 3 = .ok (.invokevirtual 48, 3) := by decide +kernel
theorem dX6_isInTriangle_6 : decode cX6_isInTriangle 6 = .ok (.istore 4, 2) := by decide +kernel
theorem dX6_isInTriangle_8 : decode cX6_isInTriangle 8 = .ok (.aload_n 0, 1) := by decide +kernel
theorem dX6_isInTriangle_9 : decode cX6_isInTriangle 9 = .ok (.iload_n 2, 1) := by decide +kernel
theorem dX6_isInTriangle_10 : decode cX6_isInTriangle 10 = .ok (.iload_n 3, 1) := by decide +kernel
theorem dX6_isInTriangle_11 : decode cX6_isInTriangle 11 = .ok (.invokevirtual 48, 3) := by decide +kernel
theorem dX6_isInTriangle_14 : decode cX6_isInTriangle 14 = .ok (.istore 5, 2) := by decide +kernel
theorem dX6_isInTriangle_16 : decode cX6_isInTriangle 16 = .ok (.aload_n 0, 1) := by decide +kernel
theorem dX6_isInTriangle_17 : decode cX6_isInTriangle 17 = .ok (.iload_n 3, 1) := by decide +kernel
theorem dX6_isInTriangle_18 : decode cX6_isInTriangle 18 = .ok (.iload_n 1, 1) := by decide +kernel
theorem dX6_isInTriangle_19 : decode cX6_isInTriangle 19 = .ok (.invokevirtual 48, 3) := by decide +kernel
theorem dX6_isInTriangle_22 : decode cX6_isInTriangle 22 = .ok (.istore 6, 2) := by decide +kernel
theorem dX6_isInTriangle_24 : decode cX6_isInTriangle 24 = .ok (.iload 4, 2) := by decide +kernel
theorem dX6_isInTriangle_26 : decode cX6_isInTriangle 26 = .ok (.iload 5, 2) := by decide +kernel
theorem dX6_isInTriangle_28 : decode cX6_isInTriangle 28 = .ok (.iadd, 1) := by decide +kernel
theorem dX6_isInTriangle_29 : decode cX6_isInTriangle 29 = .ok (.iload 6, 2) := by decide +kernel
theorem dX6_isInTriangle_31 : decode cX6_isInTriangle 31 = .ok (.iadd, 1) := by decide +kernel
theorem dX6_isInTriangle_32 : decode cX6_isInTriangle 32 = .ok (.ifCond .ne 5, 3) := by decide +kernel
theorem dX6_isInTriangle_35 : decode cX6_isInTriangle 35 = .ok (.iconst 0, 1) := by decide +kernel
theorem dX6_isInTriangle_36 : decode cX6_isInTriangle 36 = .ok (.ireturn, 1) := by decide +kernel
theorem dX6_isInTriangle_37 : decode cX6_isInTriangle 37 = .ok (.iload 4, 2) := by decide +kernel
theorem dX6_isInTriangle_39 : decode cX6_isInTriangle 39 = .ok (.ifCond .lt 13, 3) := by decide +kernel
theorem dX6_isInTriangle_42 : decode cX6_isInTriangle 42 = .ok (.iload 5, 2) := by decide +kernel
theorem dX6_isInTriangle_44 : decode cX6_isInTriangle 44 = .ok (.ifCond .lt 8, 3) := by decide +kernel
theorem dX6_isInTriangle_47 : decode cX6_isInTriangle 47 = .ok (.iload 6, 2) := by decide +kernel
theorem dX6_isInTriangle_49 : decode cX6_isInTriangle 49 = .ok (.ifCond .ge 18, 3) := by decide +kernel
theorem dX6_isInTriangle_52 : decode cX6_isInTriangle 52 = .ok (.iload 4, 2) := by decide +kernel
theorem dX6_isInTriangle_54 : decode cX6_isInTriangle 54 = .ok (.ifCond .gt 17, 3) := by decide +kernel
theorem dX6_isInTriangle_57 : decode cX6_isInTriangle 57 = .ok (.iload 5, 2) := by decide +kernel
theorem dX6_isInTriangle_59 : decode cX6_isInTriangle 59 = .ok (.ifCond .gt 12, 3) := by decide +kernel
theorem dX6_isInTriangle_62 : decode cX6_isInTriangle 62 = .ok (.iload 6, 2) := by decide +kernel
theorem dX6_isInTriangle_64 : decode cX6_isInTriangle 64 = .ok (.ifCond .gt 7, 3) := by decide +kernel
theorem dX6_isInTriangle_67 : decode cX6_isInTriangle 67 = .ok (.iconst 1, 1) := by decide +kernel
theorem dX6_isInTriangle_68 : decode cX6_isInTriangle 68 = .ok (.goto 4, 3) := by decide +kernel
theorem dX6_isInTriangle_71 : decode cX6_isInTriangle 71 = .ok (.iconst 0, 1) := by decide +kernel
theorem dX6_isInTriangle_72 : decode cX6_isInTriangle 72 = .ok (.ireturn, 1) := by decide +kernel
set_option maxRecDepth 20000 in
theorem ggX6_turn_X8_at : GoodIn wsX6_turn wsX8_at := goodIn_r _ [7, 8, 12] rfl (by decide +kernel)
set_option maxRecDepth 20000 in
theorem gX6_turn_X8_at : GoodIn wsX6_turn (wsV RX6 27 RX8 yX8_at wsX8_at) := goodIn_app (goodIn_r _ [3, 4, 5, 6] rfl (by decide +kernel)) ggX6_turn_X8_at
theorem dX6_turn_0 : decode cX6_turn 0 = .ok (.aload_n 0, 1) := by decide +kernel
theorem dX6_turn_1 : decode cX6_turn 1 = .ok (.getfield 14, 3) := by decide +kernel
theorem dX6_turn_4 : decode cX6_turn 4 = .ok (.iload_n 1, 1) := by decide +kernel
theorem dX6_turn_5 : decode cX6_turn 5 = .ok (.invokevirtual 27, 3) := by decide +kernel
theorem dX6_turn_8 : decode cX6_turn 8 = .ok (.aload_n 0, 1) := by decide +kernel
theorem dX6_turn_9 : decode cX6_turn 9 = .ok (.getfield 20, 3) := by decide +kernel
theorem dX6_turn_12 : decode cX6_turn 12 = .ok (.iload_n 2, 1) := by decide +kernel
theorem dX6_turn_13 : decode cX6_turn 13 = .ok (.invokevirtual 27, 3) := by decide +kernel
theorem dX6_turn_16 : decode cX6_turn 16 = .ok (.imul, 1) := by decide +kernel
theorem dX6_turn_17 : decode cX6_turn 17 = .ok (.aload_n 0, 1) := by decide +kernel
theorem dX6_turn_18 : decode cX6_turn 18 = .ok (.getfield 20, 3) := by decide +kernel
theorem dX6_turn_21 : decode cX6_turn 21 = .ok (.iload_n 1, 1) := by decide +kernel
theorem dX6_turn_22 : decode cX6_turn 22 = .ok (.invokevirtual 27, 3) := by decide +kernel
theorem dX6_turn_25 : decode cX6_turn 25 = .ok (.aload_n 0, 1) := by decide +kernel
theorem dX6_turn_26 : decode cX6_turn 26 = .ok (.getfield 14, 3) := by decide +kernel
theorem dX6_turn_29 : decode cX6_turn 29 = .ok (.iload_n 2, 1) := by decide +kernel
theorem dX6_turn_30 : decode cX6_turn 30 = .ok (.invokevirtual 27, 3) := by decide +kernel
theorem dX6_turn_33 : decode cX6_turn 33 = .ok (.imul, 1) := by decide +kernel
theorem dX6_turn_34 : decode cX6_turn 34 = .ok (.isub, 1) := by decide +kernel
theorem dX6_turn_35 : decode cX6_turn 35 = .ok (.ireturn, 1) := by decide +kernel
set_option maxRecDepth 20000 in
theorem ggX7_init_X9_init : GoodIn wsX7_init wsX9_init := goodIn_r _ [12, 13, 2, 3, 14, 15, 16, 17, 18, 19, 20, 21, 22, 23, 24, 25, 26, 27, 28, 29, 30, 31, 32, 42, 36, 37, 38, 39, 40, 41] rfl (by decide +kernel)
set_option maxRecDepth 20000 in
theorem gX7_init_X9_init : GoodIn wsX7_init (wsX9_init) := ggX7_init_X9_init
theorem dX7_init_0 : decode cX7_init 0 = .ok (.aload_n 0, 1) := by decide +kernel
theorem dX7_init_1 : decode cX7_init 1 = .ok (.invokespecial 3, 3) := by decide +kernel
theorem dX7_init_4 : decode cX7_init 4 = .ok (.aload_n 0, 1) := by decide +kernel
theorem dX7_init_5 : decode cX7_init 5 = .ok (.iconst 4, 1) := by decide +kernel
theorem dX7_init_6 : decode cX7_init 6 = .ok (.anewarray 9, 3) := by decide +kernel
theorem dX7_init_9 : decode cX7_init 9 = .ok (.putfield 11, 3) := by decide +kernel
theorem dX7_init_12 : decode cX7_init 12 = .ok (.aload_n 0, 1) := by decide +kernel
theorem dX7_init_13 : decode cX7_init 13 = .ok (.iconst (-1), 1) := by decide +kernel
theorem dX7_init_14 : decode cX7_init 14 = .ok (.putfield 17, 3) := by decide +kernel
theorem dX7_init_17 : decode cX7_init 17 = .ok (.aload_n 0, 1) := by decide +kernel
theorem dX7_init_18 : decode cX7_init 18 = .ok (.aload_n 2, 1) := by decide +kernel
theorem dX7_init_19 : decode cX7_init 19 = .ok (.putfield 21, 3) := by decide +kernel
theorem dX7_init_22 : decode cX7_init 22 = .ok (.iconst 0, 1) := by decide +kernel
theorem dX7_init_23 : decode cX7_init 23 = .ok (.istore 4, 2) := by decide +kernel
theorem dX7_init_25 : decode cX7_init 25 = .ok (.iload 4, 2) := by decide +kernel
theorem dX7_init_27 : decode cX7_init 27 = .ok (.aload_n 0, 1) := by decide +kernel
theorem dX7_init_28 : decode cX7_init 28 = .ok (.getfield 11, 3) := by decide +kernel
theorem dX7_init_31 : decode cX7_init 31 = .ok (.arraylength, 1) := by decide +kernel
theorem dX7_init_32 : decode cX7_init 32 = .ok (.if_icmp .ge 26, 3) := by decide +kernel
theorem dX7_init_35 : decode cX7_init 35 = .ok (.aload_n 0, 1) := by decide +kernel
theorem dX7_init_36 : decode cX7_init 36 = .ok (.getfield 11, 3) := by decide +kernel
theorem dX7_init_39 : decode cX7_init 39 = .ok (.iload 4, 2) := by decide +kernel
theorem dX7_init_41 : decode cX7_init 41 = .ok (.new 9, 3) := by decide +kernel
theorem dX7_init_44 : decode cX7_init 44 = .ok (.dup, 1) := by decide +kernel
theorem dX7_init_45 : decode cX7_init 45 = .ok (.aload_n 1, 1) := by decide +kernel
theorem dX7_init_46 : decode cX7_init 46 = .ok (.aload_n 2, 1) := by decide +kernel
theorem dX7_init_47 : decode cX7_init 47 = .ok (.aload_n 3, 1) := by decide +kernel
theorem dX7_init_48 : decode cX7_init 48 = .ok (.invokespecial 25, 3) := by decide +kernel
theorem dX7_init_51 : decode cX7_init 51 = .ok (.aastore, 1) := by decide +kernel
theorem dX7_init_52 : decode cX7_init 52 = .ok (.iinc 4 1, 3) := by decide +kernel
theorem dX7_init_55 : decode cX7_init 55 = .ok (.goto (-30), 3) := by decide +kernel
theorem dX7_init_58 : decode cX7_init 58 = .ok (.return_, 1) := by decide +kernel
set_option maxRecDepth 20000 in
theorem ggX7_start_X9_copy : GoodIn wsX7_start wsX9_copy := goodIn_r _ [7, 8, 9, 10, 11, 12, 13, 14, 15, 16, 17, 18, 19, 20, 24, 25, 26, 27, 28, 29, 30] rfl (by decide +kernel)
set_option maxRecDepth 20000 in
theorem gX7_start_X9_copy : GoodIn wsX7_start (wsV RX7 28 RX9 yX9_copy wsX9_copy) := goodIn_app (goodIn_r _ [3, 4, 5, 6] rfl (by decide +kernel)) ggX7_start_X9_copy
theorem dX7_start_0 : decode cX7_start 0 = .ok (.aload_n 0, 1) := by decide +kernel
theorem dX7_start_1 : decode cX7_start 1 = .ok (.iload_n 2, 1) := by decide +kernel
theorem dX7_start_2 : decode cX7_start 2 = .ok (.putfield 17, 3) := by decide +kernel
theorem dX7_start_5 : decode cX7_start 5 = .ok (.aload_n 0, 1) := by decide +kernel
theorem dX7_start_6 : decode cX7_start 6 = .ok (.getfield 11, 3) := by decide +kernel
theorem dX7_start_9 : decode cX7_start 9 = .ok (.arraylength, 1) := by decide +kernel
theorem dX7_start_10 : decode cX7_start 10 = .ok (.ifCond .le 13, 3) := by decide +kernel
theorem dX7_start_13 : decode cX7_start 13 = .ok (.aload_n 0, 1) := by decide +kernel
theorem dX7_start_14 : decode cX7_start 14 = .ok (.getfield 11, 3) := by decide +kernel
theorem dX7_start_17 : decode cX7_start 17 = .ok (.iconst 0, 1) := by decide +kernel
theorem dX7_start_18 : decode cX7_start 18 = .ok (.aaload, 1) := by decide +kernel
theorem dX7_start_19 : decode cX7_start 19 = .ok (.aload_n 1, 1) := by decide +kernel
theorem dX7_start_20 : decode cX7_start 20 = .ok (.invokevirtual 28, 3) := by decide +kernel
theorem dX7_start_23 : decode cX7_start 23 = .ok (.return_, 1) := by decide +kernel
set_option maxRecDepth 20000 in
theorem ggX7_away_X10_xOf : GoodIn wsX7_away wsX10_xOf := goodIn_r _ [11] rfl (by decide +kernel)
set_option maxRecDepth 20000 in
theorem gX7_away_X10_xOf_n35 : GoodIn wsX7_away (wsX10_xOf) := ggX7_away_X10_xOf
set_option maxRecDepth 20000 in
theorem ggX7_away_X10_yOf : GoodIn wsX7_away wsX10_yOf := goodIn_r _ [13] rfl (by decide +kernel)
set_option maxRecDepth 20000 in
theorem gX7_away_X10_yOf_n47 : GoodIn wsX7_away (wsX10_yOf) := ggX7_away_X10_yOf
theorem dX7_away_0 : decode cX7_away 0 = .ok (.iload_n 1, 1) := by decide +kernel
theorem dX7_away_1 : decode cX7_away 1 = .ok (.ifCond .lt 12, 3) := by decide +kernel
theorem dX7_away_4 : decode cX7_away 4 = .ok (.iload_n 1, 1) := by decide +kernel
theorem dX7_away_5 : decode cX7_away 5 = .ok (.aload_n 0, 1) := by decide +kernel
theorem dX7_away_6 : decode cX7_away 6 = .ok (.getfield 11, 3) := by decide +kernel
theorem dX7_away_9 : decode cX7_away 9 = .ok (.arraylength, 1) := by decide +kernel
theorem dX7_away_10 : decode cX7_away 10 = .ok (.if_icmp .lt 7, 3) := by decide +kernel
theorem dX7_away_13 : decode cX7_away 13 = .ok (.sipush 400, 3) := by decide +kernel
theorem dX7_away_16 : decode cX7_away 16 = .ok (.ireturn, 1) := by decide +kernel
theorem dX7_away_17 : decode cX7_away 17 = .ok (.aload_n 0, 1) := by decide +kernel
theorem dX7_away_18 : decode cX7_away 18 = .ok (.getfield 11, 3) := by decide +kernel
theorem dX7_away_21 : decode cX7_away 21 = .ok (.iload_n 1, 1) := by decide +kernel
theorem dX7_away_22 : decode cX7_away 22 = .ok (.aaload, 1) := by decide +kernel
theorem dX7_away_23 : decode cX7_away 23 = .ok (.getfield 32, 3) := by decide +kernel
theorem dX7_away_26 : decode cX7_away 26 = .ok (.aload_n 0, 1) := by decide +kernel
theorem dX7_away_27 : decode cX7_away 27 = .ok (.getfield 17, 3) := by decide +kernel
theorem dX7_away_30 : decode cX7_away 30 = .ok (.invokestatic 35, 3) := by decide +kernel
theorem dX7_away_33 : decode cX7_away 33 = .ok (.isub, 1) := by decide +kernel
theorem dX7_away_34 : decode cX7_away 34 = .ok (.invokestatic 39, 3) := by decide +kernel
theorem dX7_away_37 : decode cX7_away 37 = .ok (.aload_n 0, 1) := by decide +kernel
theorem dX7_away_38 : decode cX7_away 38 = .ok (.getfield 11, 3) := by decide +kernel
theorem dX7_away_41 : decode cX7_away 41 = .ok (.iload_n 1, 1) := by decide +kernel
theorem dX7_away_42 : decode cX7_away 42 = .ok (.aaload, 1) := by decide +kernel
theorem dX7_away_43 : decode cX7_away 43 = .ok (.getfield 44, 3) := by decide +kernel
theorem dX7_away_46 : decode cX7_away 46 = .ok (.aload_n 0, 1) := by decide +kernel
theorem dX7_away_47 : decode cX7_away 47 = .ok (.getfield 17, 3) := by decide +kernel
theorem dX7_away_50 : decode cX7_away 50 = .ok (.invokestatic 47, 3) := by decide +kernel
theorem dX7_away_53 : decode cX7_away 53 = .ok (.isub, 1) := by decide +kernel
theorem dX7_away_54 : decode cX7_away 54 = .ok (.invokestatic 39, 3) := by decide +kernel
theorem dX7_away_57 : decode cX7_away 57 = .ok (.iadd, 1) := by decide +kernel
theorem dX7_away_58 : decode cX7_away 58 = .ok (.ireturn, 1) := by decide +kernel
set_option maxRecDepth 20000 in
theorem ggX7_isMade_X9_copy : GoodIn wsX7_isMade wsX9_copy := goodIn_r _ [8, 9, 10, 11, 12, 13, 14, 15, 16, 17, 18, 19, 20, 21, 140, 141, 142, 143, 144, 145, 146] rfl (by decide +kernel)
set_option maxRecDepth 20000 in
theorem gX7_isMade_X9_copy : GoodIn wsX7_isMade (wsV RX7 28 RX9 yX9_copy wsX9_copy) := goodIn_app (goodIn_r _ [4, 5, 6, 7] rfl (by decide +kernel)) ggX7_isMade_X9_copy
set_option maxRecDepth 20000 in
theorem ggX7_isMade_X9_moveBody : GoodIn wsX7_isMade wsX9_moveBody := goodIn_r _ [25, 9, 10, 11, 26, 27, 28, 29, 19, 20, 15, 21, 17, 30, 31, 32, 7, 33, 34, 35, 36, 37, 38, 39, 40, 41, 42, 43, 44, 45, 46, 47, 48, 49, 50, 51, 52, 53, 54, 55, 56, 57, 58, 59, 60, 61, 62, 63, 64, 65, 66, 67, 68, 69, 70, 71, 72, 73, 74, 75, 76, 77, 78, 79, 80, 81, 82, 83, 84, 85, 86, 87, 88, 89, 90, 91, 92, 93, 94, 95, 96, 97, 98, 99, 100, 101, 102, 103, 104, 105, 140, 141, 142, 143, 144, 145, 146, 133, 134, 135, 136, 137, 138, 139, 147, 148, 149] rfl (by decide +kernel)
set_option maxRecDepth 20000 in
theorem gX7_isMade_X9_moveBody : GoodIn wsX7_isMade (wsV RX7 50 RX9 yX9_moveBody wsX9_moveBody) := goodIn_app (goodIn_r _ [22, 23, 24, 7] rfl (by decide +kernel)) ggX7_isMade_X9_moveBody
set_option maxRecDepth 20000 in
theorem ggX7_isMade_X9_step : GoodIn wsX7_isMade wsX9_step := goodIn_r _ [109, 11, 29, 19, 20, 15, 21, 17, 50, 51, 52, 7, 53, 54, 34, 55, 56, 57, 58, 59, 60, 61, 62, 63, 64, 65, 66, 67, 68, 69, 70, 71, 72, 73, 74, 75, 76, 77, 78, 9, 79, 80, 81, 82, 83, 84, 10, 85, 86, 87, 88, 89, 90, 91, 92, 93, 94, 95, 96, 97, 98, 99, 100, 101, 102, 103, 104, 27, 105, 110, 111, 112, 113, 35, 114, 115, 116, 117, 118, 119, 120, 121, 122, 123, 124, 38, 39, 40, 41, 42, 45, 46, 47, 48, 49, 26, 28, 125, 126, 127, 128, 129, 140, 141, 142, 143, 144, 145, 146, 147, 148, 149, 133, 134, 135, 136, 137, 138, 139, 150, 151, 152, 153] rfl (by decide +kernel)
set_option maxRecDepth 20000 in
theorem gX7_isMade_X9_step : GoodIn wsX7_isMade (wsV RX7 59 RX9 yX9_step wsX9_step) := goodIn_app (goodIn_r _ [106, 107, 108, 7] rfl (by decide +kernel)) ggX7_isMade_X9_step
theorem dX7_isMade_0 : decode cX7_isMade 0 = .ok (.iload_n 1, 1) := by decide +kernel
theorem dX7_isMade_1 : decode cX7_isMade 1 = .ok (.ifCond .lt 14, 3) := by decide +kernel
theorem dX7_isMade_4 : decode cX7_isMade 4 = .ok (.iload_n 1, 1) := by decide +kernel
theorem dX7_isMade_5 : decode cX7_isMade 5 = .ok (.iconst 1, 1) := by decide +kernel
theorem dX7_isMade_6 : decode cX7_isMade 6 = .ok (.iadd, 1) := by decide +kernel
theorem dX7_isMade_7 : decode cX7_isMade 7 = .ok (.aload_n 0, 1) := by decide +kernel
theorem dX7_isMade_8 : decode cX7_isMade 8 = .ok (.getfield 11, 3) := by decide +kernel
theorem dX7_isMade_11 : decode cX7_isMade 11 = .ok (.arraylength, 1) := by decide +kernel
theorem dX7_isMade_12 : decode cX7_isMade 12 = .ok (.if_icmp .lt 5, 3) := by decide +kernel
theorem dX7_isMade_15 : decode cX7_isMade 15 = .ok (.iconst 0, 1) := by decide +kernel
theorem dX7_isMade_16 : decode cX7_isMade 16 = .ok (.ireturn, 1) := by decide +kernel
theorem dX7_isMade_17 : decode cX7_isMade 17 = .ok (.aload_n 0, 1) := by decide +kernel
theorem dX7_isMade_18 : decode cX7_isMade 18 = .ok (.getfield 11, 3) := by decide +kernel
theorem dX7_isMade_21 : decode cX7_isMade 21 = .ok (.iload_n 1, 1) := by decide +kernel
theorem dX7_isMade_22 : decode cX7_isMade 22 = .ok (.iconst 1, 1) := by decide +kernel
theorem dX7_isMade_23 : decode cX7_isMade 23 = .ok (.iadd, 1) := by decide +kernel
theorem dX7_isMade_24 : decode cX7_isMade 24 = .ok (.aaload, 1) := by decide +kernel
theorem dX7_isMade_25 : decode cX7_isMade 25 = .ok (.astore_n 3, 1) := by decide +kernel
theorem dX7_isMade_26 : decode cX7_isMade 26 = .ok (.aload_n 3, 1) := by decide +kernel
theorem dX7_isMade_27 : decode cX7_isMade 27 = .ok (.aload_n 0, 1) := by decide +kernel
theorem dX7_isMade_28 : decode cX7_isMade 28 = .ok (.getfield 11, 3) := by decide +kernel
theorem dX7_isMade_31 : decode cX7_isMade 31 = .ok (.iload_n 1, 1) := by decide +kernel
theorem dX7_isMade_32 : decode cX7_isMade 32 = .ok (.aaload, 1) := by decide +kernel
theorem dX7_isMade_33 : decode cX7_isMade 33 = .ok (.invokevirtual 28, 3) := by decide +kernel
theorem dX7_isMade_36 : decode cX7_isMade 36 = .ok (.iload_n 2, 1) := by decide +kernel
theorem dX7_isMade_37 : decode cX7_isMade 37 = .ok (.bipush 6, 2) := by decide +kernel
theorem dX7_isMade_39 : decode cX7_isMade 39 = .ok (.isub, 1) := by decide +kernel
theorem dX7_isMade_40 : decode cX7_isMade 40 = .ok (.tableswitch 60 0 3 #[32, 39, 46, 53], 32) := by decide +kernel
theorem dX7_isMade_72 : decode cX7_isMade 72 = .ok (.aload_n 3, 1) := by decide +kernel
theorem dX7_isMade_73 : decode cX7_isMade 73 = .ok (.iconst (-1), 1) := by decide +kernel
theorem dX7_isMade_74 : decode cX7_isMade 74 = .ok (.iconst 0, 1) := by decide +kernel
theorem dX7_isMade_75 : decode cX7_isMade 75 = .ok (.invokevirtual 50, 3) := by decide +kernel
theorem dX7_isMade_78 : decode cX7_isMade 78 = .ok (.ireturn, 1) := by decide +kernel
theorem dX7_isMade_79 : decode cX7_isMade 79 = .ok (.aload_n 3, 1) := by decide +kernel
theorem dX7_isMade_80 : decode cX7_isMade 80 = .ok (.iconst 1, 1) := by decide +kernel
theorem dX7_isMade_81 : decode cX7_isMade 81 = .ok (.iconst 0, 1) := by decide +kernel
theorem dX7_isMade_82 : decode cX7_isMade 82 = .ok (.invokevirtual 50, 3) := by decide +kernel
theorem dX7_isMade_85 : decode cX7_isMade 85 = .ok (.ireturn, 1) := by decide +kernel
theorem dX7_isMade_86 : decode cX7_isMade 86 = .ok (.aload_n 3, 1) := by decide +kernel
theorem dX7_isMade_87 : decode cX7_isMade 87 = .ok (.iconst 0, 1) := by decide +kernel
theorem dX7_isMade_88 : decode cX7_isMade 88 = .ok (.iconst (-1), 1) := by decide +kernel
theorem dX7_isMade_89 : decode cX7_isMade 89 = .ok (.invokevirtual 50, 3) := by decide +kernel
theorem dX7_isMade_92 : decode cX7_isMade 92 = .ok (.ireturn, 1) := by decide +kernel
theorem dX7_isMade_93 : decode cX7_isMade 93 = .ok (.aload_n 3, 1) := by decide +kernel
theorem dX7_isMade_94 : decode cX7_isMade 94 = .ok (.iconst 0, 1) := by decide +kernel
theorem dX7_isMade_95 : decode cX7_isMade 95 = .ok (.iconst 1, 1) := by decide +kernel
theorem dX7_isMade_96 : decode cX7_isMade 96 = .ok (.invokevirtual 50, 3) := by decide +kernel
theorem dX7_isMade_99 : decode cX7_isMade 99 = .ok (.ireturn, 1) := by decide +kernel
theorem dX7_isMade_100 : decode cX7_isMade 100 = .ok (.iload_n 2, 1) := by decide +kernel
theorem dX7_isMade_101 : decode cX7_isMade 101 = .ok (.aload_n 0, 1) := by decide +kernel
theorem dX7_isMade_102 : decode cX7_isMade 102 = .ok (.getfield 21, 3) := by decide +kernel
theorem dX7_isMade_105 : decode cX7_isMade 105 = .ok (.getfield 54, 3) := by decide +kernel
theorem dX7_isMade_108 : decode cX7_isMade 108 = .ok (.if_icmp .ge 15, 3) := by decide +kernel
theorem dX7_isMade_111 : decode cX7_isMade 111 = .ok (.aload_n 3, 1) := by decide +kernel
theorem dX7_isMade_112 : decode cX7_isMade 112 = .ok (.iload_n 2, 1) := by decide +kernel
theorem dX7_isMade_113 : decode cX7_isMade 113 = .ok (.invokevirtual 59, 3) := by decide +kernel
theorem dX7_isMade_116 : decode cX7_isMade 116 = .ok (.ifCond .eq 7, 3) := by decide +kernel
theorem dX7_isMade_119 : decode cX7_isMade 119 = .ok (.iconst 1, 1) := by decide +kernel
theorem dX7_isMade_120 : decode cX7_isMade 120 = .ok (.goto 4, 3) := by decide +kernel
theorem dX7_isMade_123 : decode cX7_isMade 123 = .ok (.iconst 0, 1) := by decide +kernel
theorem dX7_isMade_124 : decode cX7_isMade 124 = .ok (.ireturn, 1) := by decide +kernel
set_option maxRecDepth 20000 in
theorem ggX8_init_J7_fill_53178 : GoodIn wsX8_init wsJ7_fill_53178 := goodIn_r _ [9] rfl (by decide +kernel)
set_option maxRecDepth 20000 in
theorem gX8_init_J7_fill_53178 : GoodIn wsX8_init (va_wsS RX8 13 yJ7_fill_53178 wsJ7_fill_53178) := goodIn_app (goodIn_r _ [6, 7, 8] rfl (by decide +kernel)) ggX8_init_J7_fill_53178
theorem dX8_init_0 : decode cX8_init 0 = .ok (.aload_n 0, 1) := by decide +kernel
theorem dX8_init_1 : decode cX8_init 1 = .ok (.invokespecial 1, 3) := by decide +kernel
theorem dX8_init_4 : decode cX8_init 4 = .ok (.aload_n 0, 1) := by decide +kernel
theorem dX8_init_5 : decode cX8_init 5 = .ok (.iload_n 1, 1) := by decide +kernel
theorem dX8_init_6 : decode cX8_init 6 = .ok (.ifCond .ge 7, 3) := by decide +kernel
theorem dX8_init_9 : decode cX8_init 9 = .ok (.iconst 0, 1) := by decide +kernel
theorem dX8_init_10 : decode cX8_init 10 = .ok (.goto 4, 3) := by decide +kernel
theorem dX8_init_13 : decode cX8_init 13 = .ok (.iload_n 1, 1) := by decide +kernel
theorem dX8_init_14 : decode cX8_init 14 = .ok (.newarray .int, 2) := by decide +kernel
theorem dX8_init_16 : decode cX8_init 16 = .ok (.putfield 7, 3) := by decide +kernel
theorem dX8_init_19 : decode cX8_init 19 = .ok (.aload_n 0, 1) := by decide +kernel
theorem dX8_init_20 : decode cX8_init 20 = .ok (.getfield 7, 3) := by decide +kernel
theorem dX8_init_23 : decode cX8_init 23 = .ok (.iload_n 2, 1) := by decide +kernel
theorem dX8_init_24 : decode cX8_init 24 = .ok (.invokestatic 13, 3) := by decide +kernel
theorem dX8_init_27 : decode cX8_init 27 = .ok (.return_, 1) := by decide +kernel
theorem dX8_at_0 : decode cX8_at 0 = .ok (.iload_n 1, 1) := by decide +kernel
theorem dX8_at_1 : decode cX8_at 1 = .ok (.ifCond .lt 21, 3) := by decide +kernel
theorem dX8_at_4 : decode cX8_at 4 = .ok (.iload_n 1, 1) := by decide +kernel
theorem dX8_at_5 : decode cX8_at 5 = .ok (.aload_n 0, 1) := by decide +kernel
theorem dX8_at_6 : decode cX8_at 6 = .ok (.getfield 7, 3) := by decide +kernel
theorem dX8_at_9 : decode cX8_at 9 = .ok (.arraylength, 1) := by decide +kernel
theorem dX8_at_10 : decode cX8_at 10 = .ok (.if_icmp .ge 12, 3) := by decide +kernel
theorem dX8_at_13 : decode cX8_at 13 = .ok (.aload_n 0, 1) := by decide +kernel
theorem dX8_at_14 : decode cX8_at 14 = .ok (.getfield 7, 3) := by decide +kernel
theorem dX8_at_17 : decode cX8_at 17 = .ok (.iload_n 1, 1) := by decide +kernel
theorem dX8_at_18 : decode cX8_at 18 = .ok (.iaload, 1) := by decide +kernel
theorem dX8_at_19 : decode cX8_at 19 = .ok (.goto 4, 3) := by decide +kernel
theorem dX8_at_22 : decode cX8_at 22 = .ok (.iconst 0, 1) := by decide +kernel
theorem dX8_at_23 : decode cX8_at 23 = .ok (.ireturn, 1) := by decide +kernel
theorem dX8_put_0 : decode cX8_put 0 = .ok (.iload_n 1, 1) := by decide +kernel
theorem dX8_put_1 : decode cX8_put 1 = .ok (.ifCond .lt 19, 3) := by decide +kernel
theorem dX8_put_4 : decode cX8_put 4 = .ok (.iload_n 1, 1) := by decide +kernel
theorem dX8_put_5 : decode cX8_put 5 = .ok (.aload_n 0, 1) := by decide +kernel
theorem dX8_put_6 : decode cX8_put 6 = .ok (.getfield 7, 3) := by decide +kernel
theorem dX8_put_9 : decode cX8_put 9 = .ok (.arraylength, 1) := by decide +kernel
theorem dX8_put_10 : decode cX8_put 10 = .ok (.if_icmp .ge 10, 3) := by decide +kernel
theorem dX8_put_13 : decode cX8_put 13 = .ok (.aload_n 0, 1) := by decide +kernel
theorem dX8_put_14 : decode cX8_put 14 = .ok (.getfield 7, 3) := by decide +kernel
theorem dX8_put_17 : decode cX8_put 17 = .ok (.iload_n 1, 1) := by decide +kernel
theorem dX8_put_18 : decode cX8_put 18 = .ok (.iload_n 2, 1) := by decide +kernel
theorem dX8_put_19 : decode cX8_put 19 = .ok (.iastore, 1) := by decide +kernel
theorem dX8_put_20 : decode cX8_put 20 = .ok (.return_, 1) := by decide +kernel
set_option maxRecDepth 20000 in
theorem ggX8_fill_J7_fill_53178 : GoodIn wsX8_fill wsJ7_fill_53178 := goodIn_r _ [5] rfl (by decide +kernel)
set_option maxRecDepth 20000 in
theorem gX8_fill_J7_fill_53178 : GoodIn wsX8_fill (va_wsS RX8 13 yJ7_fill_53178 wsJ7_fill_53178) := goodIn_app (goodIn_r _ [2, 3, 4] rfl (by decide +kernel)) ggX8_fill_J7_fill_53178
theorem dX8_fill_0 : decode cX8_fill 0 = .ok (.aload_n 0, 1) := by decide +kernel
theorem dX8_fill_1 : decode cX8_fill 1 = .ok (.getfield 7, 3) := by decide +kernel
theorem dX8_fill_4 : decode cX8_fill 4 = .ok (.iload_n 1, 1) := by decide +kernel
theorem dX8_fill_5 : decode cX8_fill 5 = .ok (.invokestatic 13, 3) := by decide +kernel
theorem dX8_fill_8 : decode cX8_fill 8 = .ok (.return_, 1) := by decide +kernel
set_option maxRecDepth 20000 in
theorem ggX8_copy_X8_at : GoodIn wsX8_copy wsX8_at := goodIn_r _ [6, 1, 7] rfl (by decide +kernel)
set_option maxRecDepth 20000 in
theorem gX8_copy_X8_at : GoodIn wsX8_copy (wsV RX8 19 RX8 yX8_at wsX8_at) := goodIn_app (goodIn_r _ [2, 3, 4, 5] rfl (by decide +kernel)) ggX8_copy_X8_at
theorem dX8_copy_0 : decode cX8_copy 0 = .ok (.iconst 0, 1) := by decide +kernel
theorem dX8_copy_1 : decode cX8_copy 1 = .ok (.istore_n 2, 1) := by decide +kernel
theorem dX8_copy_2 : decode cX8_copy 2 = .ok (.iload_n 2, 1) := by decide +kernel
theorem dX8_copy_3 : decode cX8_copy 3 = .ok (.aload_n 0, 1) := by decide +kernel
theorem dX8_copy_4 : decode cX8_copy 4 = .ok (.getfield 7, 3) := by decide +kernel
theorem dX8_copy_7 : decode cX8_copy 7 = .ok (.arraylength, 1) := by decide +kernel
theorem dX8_copy_8 : decode cX8_copy 8 = .ok (.if_icmp .ge 20, 3) := by decide +kernel
theorem dX8_copy_11 : decode cX8_copy 11 = .ok (.aload_n 0, 1) := by decide +kernel
theorem dX8_copy_12 : decode cX8_copy 12 = .ok (.getfield 7, 3) := by decide +kernel
theorem dX8_copy_15 : decode cX8_copy 15 = .ok (.iload_n 2, 1) := by decide +kernel
theorem dX8_copy_16 : decode cX8_copy 16 = .ok (.aload_n 1, 1) := by decide +kernel
theorem dX8_copy_17 : decode cX8_copy 17 = .ok (.iload_n 2, 1) := by decide +kernel
theorem dX8_copy_18 : decode cX8_copy 18 = .ok (.invokevirtual 19, 3) := by decide +kernel
theorem dX8_copy_21 : decode cX8_copy 21 = .ok (.iastore, 1) := by decide +kernel
theorem dX8_copy_22 : decode cX8_copy 22 = .ok (.iinc 2 1, 3) := by decide +kernel
theorem dX8_copy_25 : decode cX8_copy 25 = .ok (.goto (-23), 3) := by decide +kernel
theorem dX8_copy_28 : decode cX8_copy 28 = .ok (.return_, 1) := by decide +kernel
set_option maxRecDepth 20000 in
theorem ggX9_init_X8_init : GoodIn wsX9_init wsX8_init := goodIn_r _ [15, 16, 2, 3, 17, 18, 19, 20, 21, 22, 23] rfl (by decide +kernel)
set_option maxRecDepth 20000 in
theorem gX9_init_X8_init : GoodIn wsX9_init (wsX8_init) := ggX9_init_X8_init
theorem dX9_init_0 : decode cX9_init 0 = .ok (.aload_n 0, 1) := by decide +kernel
theorem dX9_init_1 : decode cX9_init 1 = .ok (.invokespecial 3, 3) := by decide +kernel
theorem dX9_init_4 : decode cX9_init 4 = .ok (.aload_n 0, 1) := by decide +kernel
theorem dX9_init_5 : decode cX9_init 5 = .ok (.new 9, 3) := by decide +kernel
theorem dX9_init_8 : decode cX9_init 8 = .ok (.dup, 1) := by decide +kernel
theorem dX9_init_9 : decode cX9_init 9 = .ok (.bipush 6, 2) := by decide +kernel
theorem dX9_init_11 : decode cX9_init 11 = .ok (.iconst (-1), 1) := by decide +kernel
theorem dX9_init_12 : decode cX9_init 12 = .ok (.invokespecial 11, 3) := by decide +kernel
theorem dX9_init_15 : decode cX9_init 15 = .ok (.putfield 14, 3) := by decide +kernel
theorem dX9_init_18 : decode cX9_init 18 = .ok (.aload_n 0, 1) := by decide +kernel
theorem dX9_init_19 : decode cX9_init 19 = .ok (.bipush 10, 2) := by decide +kernel
theorem dX9_init_21 : decode cX9_init 21 = .ok (.putfield 20, 3) := by decide +kernel
theorem dX9_init_24 : decode cX9_init 24 = .ok (.aload_n 0, 1) := by decide +kernel
theorem dX9_init_25 : decode cX9_init 25 = .ok (.bipush 10, 2) := by decide +kernel
theorem dX9_init_27 : decode cX9_init 27 = .ok (.putfield 24, 3) := by decide +kernel
theorem dX9_init_30 : decode cX9_init 30 = .ok (.aload_n 0, 1) := by decide +kernel
theorem dX9_init_31 : decode cX9_init 31 = .ok (.aload_n 1, 1) := by decide +kernel
theorem dX9_init_32 : decode cX9_init 32 = .ok (.putfield 27, 3) := by decide +kernel
theorem dX9_init_35 : decode cX9_init 35 = .ok (.aload_n 0, 1) := by decide +kernel
theorem dX9_init_36 : decode cX9_init 36 = .ok (.aload_n 2, 1) := by decide +kernel
theorem dX9_init_37 : decode cX9_init 37 = .ok (.putfield 31, 3) := by decide +kernel
theorem dX9_init_40 : decode cX9_init 40 = .ok (.aload_n 0, 1) := by decide +kernel
theorem dX9_init_41 : decode cX9_init 41 = .ok (.aload_n 3, 1) := by decide +kernel
theorem dX9_init_42 : decode cX9_init 42 = .ok (.putfield 35, 3) := by decide +kernel
theorem dX9_init_45 : decode cX9_init 45 = .ok (.return_, 1) := by decide +kernel
set_option maxRecDepth 20000 in
theorem ggX9_copy_X8_copy : GoodIn wsX9_copy wsX8_copy := goodIn_r _ [8, 9, 10, 11, 12, 7, 13, 20] rfl (by decide +kernel)
set_option maxRecDepth 20000 in
theorem gX9_copy_X8_copy : GoodIn wsX9_copy (wsV RX9 39 RX8 yX8_copy wsX8_copy) := goodIn_app (goodIn_r _ [4, 5, 6, 7] rfl (by decide +kernel)) ggX9_copy_X8_copy
theorem dX9_copy_0 : decode cX9_copy 0 = .ok (.aload_n 0, 1) := by decide +kernel
theorem dX9_copy_1 : decode cX9_copy 1 = .ok (.aload_n 1, 1) := by decide +kernel
theorem dX9_copy_2 : decode cX9_copy 2 = .ok (.getfield 20, 3) := by decide +kernel
theorem dX9_copy_5 : decode cX9_copy 5 = .ok (.putfield 20, 3) := by decide +kernel
theorem dX9_copy_8 : decode cX9_copy 8 = .ok (.aload_n 0, 1) := by decide +kernel
theorem dX9_copy_9 : decode cX9_copy 9 = .ok (.aload_n 1, 1) := by decide +kernel
theorem dX9_copy_10 : decode cX9_copy 10 = .ok (.getfield 24, 3) := by decide +kernel
theorem dX9_copy_13 : decode cX9_copy 13 = .ok (.putfield 24, 3) := by decide +kernel
theorem dX9_copy_16 : decode cX9_copy 16 = .ok (.aload_n 0, 1) := by decide +kernel
theorem dX9_copy_17 : decode cX9_copy 17 = .ok (.getfield 14, 3) := by decide +kernel
theorem dX9_copy_20 : decode cX9_copy 20 = .ok (.aload_n 1, 1) := by decide +kernel
theorem dX9_copy_21 : decode cX9_copy 21 = .ok (.getfield 14, 3) := by decide +kernel
theorem dX9_copy_24 : decode cX9_copy 24 = .ok (.invokevirtual 39, 3) := by decide +kernel
theorem dX9_copy_27 : decode cX9_copy 27 = .ok (.return_, 1) := by decide +kernel
set_option maxRecDepth 20000 in
theorem ggX9_hipX_X8_at : GoodIn wsX9_hipX wsX8_at := goodIn_r _ [8, 9, 23] rfl (by decide +kernel)
set_option maxRecDepth 20000 in
theorem gX9_hipX_X8_at : GoodIn wsX9_hipX (wsV RX9 48 RX8 yX8_at wsX8_at) := goodIn_app (goodIn_r _ [4, 5, 6, 7] rfl (by decide +kernel)) ggX9_hipX_X8_at
theorem dX9_hipX_0 : decode cX9_hipX 0 = .ok (.aload_n 0, 1) := by decide +kernel
theorem dX9_hipX_1 : decode cX9_hipX 1 = .ok (.getfield 20, 3) := by decide +kernel
theorem dX9_hipX_4 : decode cX9_hipX 4 = .ok (.aload_n 0, 1) := by decide +kernel
theorem dX9_hipX_5 : decode cX9_hipX 5 = .ok (.getfield 31, 3) := by decide +kernel
theorem dX9_hipX_8 : decode cX9_hipX 8 = .ok (.getfield 43, 3) := by decide +kernel
theorem dX9_hipX_11 : decode cX9_hipX 11 = .ok (.iload_n 1, 1) := by decide +kernel
theorem dX9_hipX_12 : decode cX9_hipX 12 = .ok (.invokevirtual 48, 3) := by decide +kernel
theorem dX9_hipX_15 : decode cX9_hipX 15 = .ok (.iadd, 1) := by decide +kernel
theorem dX9_hipX_16 : decode cX9_hipX 16 = .ok (.ireturn, 1) := by decide +kernel
set_option maxRecDepth 20000 in
theorem ggX9_hipY_X8_at : GoodIn wsX9_hipY wsX8_at := goodIn_r _ [8, 9, 23] rfl (by decide +kernel)
set_option maxRecDepth 20000 in
theorem gX9_hipY_X8_at : GoodIn wsX9_hipY (wsV RX9 48 RX8 yX8_at wsX8_at) := goodIn_app (goodIn_r _ [4, 5, 6, 7] rfl (by decide +kernel)) ggX9_hipY_X8_at
theorem dX9_hipY_0 : decode cX9_hipY 0 = .ok (.aload_n 0, 1) := by decide +kernel
theorem dX9_hipY_1 : decode cX9_hipY 1 = .ok (.getfield 24, 3) := by decide +kernel
theorem dX9_hipY_4 : decode cX9_hipY 4 = .ok (.aload_n 0, 1) := by decide +kernel
theorem dX9_hipY_5 : decode cX9_hipY 5 = .ok (.getfield 31, 3) := by decide +kernel
theorem dX9_hipY_8 : decode cX9_hipY 8 = .ok (.getfield 52, 3) := by decide +kernel
theorem dX9_hipY_11 : decode cX9_hipY 11 = .ok (.iload_n 1, 1) := by decide +kernel
theorem dX9_hipY_12 : decode cX9_hipY 12 = .ok (.invokevirtual 48, 3) := by decide +kernel
theorem dX9_hipY_15 : decode cX9_hipY 15 = .ok (.iadd, 1) := by decide +kernel
theorem dX9_hipY_16 : decode cX9_hipY 16 = .ok (.ireturn, 1) := by decide +kernel
set_option maxRecDepth 20000 in
theorem ggX9_isInReach_X10_xOf : GoodIn wsX9_isInReach wsX10_xOf := goodIn_r _ [5] rfl (by decide +kernel)
set_option maxRecDepth 20000 in
theorem gX9_isInReach_X10_xOf_n55 : GoodIn wsX9_isInReach (wsX10_xOf) := ggX9_isInReach_X10_xOf
set_option maxRecDepth 20000 in
theorem ggX9_isInReach_X9_hipX : GoodIn wsX9_isInReach wsX9_hipX := goodIn_r _ [10, 11, 1, 12, 13, 14, 15, 16, 17, 18, 27, 28, 29, 30, 31, 32, 33, 34, 35, 36, 37, 38, 39, 40] rfl (by decide +kernel)
set_option maxRecDepth 20000 in
theorem gX9_isInReach_X9_hipX : GoodIn wsX9_isInReach (wsV RX9 58 RX9 yX9_hipX wsX9_hipX) := goodIn_app (goodIn_r _ [6, 7, 8, 9] rfl (by decide +kernel)) ggX9_isInReach_X9_hipX
set_option maxRecDepth 20000 in
theorem ggX9_isInReach_X10_yOf : GoodIn wsX9_isInReach wsX10_yOf := goodIn_r _ [20] rfl (by decide +kernel)
set_option maxRecDepth 20000 in
theorem gX9_isInReach_X10_yOf_n60 : GoodIn wsX9_isInReach (wsX10_yOf) := ggX9_isInReach_X10_yOf
set_option maxRecDepth 20000 in
theorem ggX9_isInReach_X9_hipY : GoodIn wsX9_isInReach wsX9_hipY := goodIn_r _ [24, 25, 1, 26, 13, 14, 15, 16, 17, 18, 27, 28, 29, 30, 31, 32, 33, 34, 35, 36, 37, 38, 39, 40] rfl (by decide +kernel)
set_option maxRecDepth 20000 in
theorem gX9_isInReach_X9_hipY : GoodIn wsX9_isInReach (wsV RX9 63 RX9 yX9_hipY wsX9_hipY) := goodIn_app (goodIn_r _ [21, 22, 23, 9] rfl (by decide +kernel)) ggX9_isInReach_X9_hipY
set_option maxRecDepth 20000 in
theorem ggX9_isInReach_X8_at : GoodIn wsX9_isInReach wsX8_at := goodIn_r _ [17, 18, 40] rfl (by decide +kernel)
set_option maxRecDepth 20000 in
theorem gX9_isInReach_X8_at : GoodIn wsX9_isInReach (wsV RX9 48 RX8 yX8_at wsX8_at) := goodIn_app (goodIn_r _ [13, 14, 15, 16] rfl (by decide +kernel)) ggX9_isInReach_X8_at
theorem dX9_isInReach_0 : decode cX9_isInReach 0 = .ok (.iload_n 2, 1) := by decide +kernel
theorem dX9_isInReach_1 : decode cX9_isInReach 1 = .ok (.invokestatic 55, 3) := by decide +kernel
theorem dX9_isInReach_4 : decode cX9_isInReach 4 = .ok (.aload_n 0, 1) := by decide +kernel
theorem dX9_isInReach_5 : decode cX9_isInReach 5 = .ok (.iload_n 1, 1) := by decide +kernel
theorem dX9_isInReach_6 : decode cX9_isInReach 6 = .ok (.invokevirtual 58, 3) := by decide +kernel
theorem dX9_isInReach_9 : decode cX9_isInReach 9 = .ok (.isub, 1) := by decide +kernel
theorem dX9_isInReach_10 : decode cX9_isInReach 10 = .ok (.istore_n 3, 1) := by decide +kernel
theorem dX9_isInReach_11 : decode cX9_isInReach 11 = .ok (.iload_n 2, 1) := by decide +kernel
theorem dX9_isInReach_12 : decode cX9_isInReach 12 = .ok (.invokestatic 60, 3) := by decide +kernel
theorem dX9_isInReach_15 : decode cX9_isInReach 15 = .ok (.aload_n 0, 1) := by decide +kernel
theorem dX9_isInReach_16 : decode cX9_isInReach 16 = .ok (.iload_n 1, 1) := by decide +kernel
theorem dX9_isInReach_17 : decode cX9_isInReach 17 = .ok (.invokevirtual 63, 3) := by decide +kernel
theorem dX9_isInReach_20 : decode cX9_isInReach 20 = .ok (.isub, 1) := by decide +kernel
theorem dX9_isInReach_21 : decode cX9_isInReach 21 = .ok (.istore 4, 2) := by decide +kernel
theorem dX9_isInReach_23 : decode cX9_isInReach 23 = .ok (.aload_n 0, 1) := by decide +kernel
theorem dX9_isInReach_24 : decode cX9_isInReach 24 = .ok (.getfield 31, 3) := by decide +kernel
theorem dX9_isInReach_27 : decode cX9_isInReach 27 = .ok (.getfield 65, 3) := by decide +kernel
theorem dX9_isInReach_30 : decode cX9_isInReach 30 = .ok (.iload_n 1, 1) := by decide +kernel
theorem dX9_isInReach_31 : decode cX9_isInReach 31 = .ok (.invokevirtual 48, 3) := by decide +kernel
theorem dX9_isInReach_34 : decode cX9_isInReach 34 = .ok (.istore 5, 2) := by decide +kernel
theorem dX9_isInReach_36 : decode cX9_isInReach 36 = .ok (.iload_n 3, 1) := by decide +kernel
theorem dX9_isInReach_37 : decode cX9_isInReach 37 = .ok (.iload_n 3, 1) := by decide +kernel
theorem dX9_isInReach_38 : decode cX9_isInReach 38 = .ok (.imul, 1) := by decide +kernel
theorem dX9_isInReach_39 : decode cX9_isInReach 39 = .ok (.iload 4, 2) := by decide +kernel
theorem dX9_isInReach_41 : decode cX9_isInReach 41 = .ok (.iload 4, 2) := by decide +kernel
theorem dX9_isInReach_43 : decode cX9_isInReach 43 = .ok (.imul, 1) := by decide +kernel
theorem dX9_isInReach_44 : decode cX9_isInReach 44 = .ok (.iadd, 1) := by decide +kernel
theorem dX9_isInReach_45 : decode cX9_isInReach 45 = .ok (.iload 5, 2) := by decide +kernel
theorem dX9_isInReach_47 : decode cX9_isInReach 47 = .ok (.iload 5, 2) := by decide +kernel
theorem dX9_isInReach_49 : decode cX9_isInReach 49 = .ok (.imul, 1) := by decide +kernel
theorem dX9_isInReach_50 : decode cX9_isInReach 50 = .ok (.if_icmp .gt 7, 3) := by decide +kernel
theorem dX9_isInReach_53 : decode cX9_isInReach 53 = .ok (.iconst 1, 1) := by decide +kernel
theorem dX9_isInReach_54 : decode cX9_isInReach 54 = .ok (.goto 4, 3) := by decide +kernel
theorem dX9_isInReach_57 : decode cX9_isInReach 57 = .ok (.iconst 0, 1) := by decide +kernel
theorem dX9_isInReach_58 : decode cX9_isInReach 58 = .ok (.ireturn, 1) := by decide +kernel
set_option maxRecDepth 20000 in
theorem ggX9_far_X10_xOf : GoodIn wsX9_far wsX10_xOf := goodIn_r _ [7] rfl (by decide +kernel)
set_option maxRecDepth 20000 in
theorem gX9_far_X10_xOf_n55 : GoodIn wsX9_far (wsX10_xOf) := ggX9_far_X10_xOf
set_option maxRecDepth 20000 in
theorem ggX9_far_X9_hipX : GoodIn wsX9_far wsX9_hipX := goodIn_r _ [12, 13, 14, 15, 16, 17, 18, 19, 20, 21, 30, 31, 32, 33, 34, 35, 36, 37, 38, 39, 40, 41, 42, 43] rfl (by decide +kernel)
set_option maxRecDepth 20000 in
theorem gX9_far_X9_hipX : GoodIn wsX9_far (wsV RX9 58 RX9 yX9_hipX wsX9_hipX) := goodIn_app (goodIn_r _ [8, 9, 10, 11] rfl (by decide +kernel)) ggX9_far_X9_hipX
set_option maxRecDepth 20000 in
theorem ggX9_far_X10_yOf : GoodIn wsX9_far wsX10_yOf := goodIn_r _ [23] rfl (by decide +kernel)
set_option maxRecDepth 20000 in
theorem gX9_far_X10_yOf_n60 : GoodIn wsX9_far (wsX10_yOf) := ggX9_far_X10_yOf
set_option maxRecDepth 20000 in
theorem ggX9_far_X9_hipY : GoodIn wsX9_far wsX9_hipY := goodIn_r _ [27, 28, 14, 29, 16, 17, 18, 19, 20, 21, 30, 31, 32, 33, 34, 35, 36, 37, 38, 39, 40, 41, 42, 43] rfl (by decide +kernel)
set_option maxRecDepth 20000 in
theorem gX9_far_X9_hipY : GoodIn wsX9_far (wsV RX9 63 RX9 yX9_hipY wsX9_hipY) := goodIn_app (goodIn_r _ [24, 25, 26, 11] rfl (by decide +kernel)) ggX9_far_X9_hipY
theorem dX9_far_0 : decode cX9_far 0 = .ok (.iload_n 2, 1) := by decide +kernel
theorem dX9_far_1 : decode cX9_far 1 = .ok (.invokestatic 55, 3) := by decide +kernel
theorem dX9_far_4 : decode cX9_far 4 = .ok (.aload_n 0, 1) := by decide +kernel
theorem dX9_far_5 : decode cX9_far 5 = .ok (.iload_n 1, 1) := by decide +kernel
theorem dX9_far_6 : decode cX9_far 6 = .ok (.invokevirtual 58, 3) := by decide +kernel
theorem dX9_far_9 : decode cX9_far 9 = .ok (.isub, 1) := by decide +kernel
theorem dX9_far_10 : decode cX9_far 10 = .ok (.invokestatic 68, 3) := by decide +kernel
theorem dX9_far_13 : decode cX9_far 13 = .ok (.iload_n 2, 1) := by decide +kernel
theorem dX9_far_14 : decode cX9_far 14 = .ok (.invokestatic 60, 3) := by decide +kernel
theorem dX9_far_17 : decode cX9_far 17 = .ok (.aload_n 0, 1) := by decide +kernel
theorem dX9_far_18 : decode cX9_far 18 = .ok (.iload_n 1, 1) := by decide +kernel
theorem dX9_far_19 : decode cX9_far 19 = .ok (.invokevirtual 63, 3) := by decide +kernel
theorem dX9_far_22 : decode cX9_far 22 = .ok (.isub, 1) := by decide +kernel
theorem dX9_far_23 : decode cX9_far 23 = .ok (.invokestatic 68, 3) := by decide +kernel
theorem dX9_far_26 : decode cX9_far 26 = .ok (.iadd, 1) := by decide +kernel
theorem dX9_far_27 : decode cX9_far 27 = .ok (.ireturn, 1) := by decide +kernel
set_option maxRecDepth 20000 in
theorem ggX9_isTaken_X8_at : GoodIn wsX9_isTaken wsX8_at := goodIn_r _ [6, 7, 14] rfl (by decide +kernel)
set_option maxRecDepth 20000 in
theorem gX9_isTaken_X8_at : GoodIn wsX9_isTaken (wsV RX9 48 RX8 yX8_at wsX8_at) := goodIn_app (goodIn_r _ [2, 3, 4, 5] rfl (by decide +kernel)) ggX9_isTaken_X8_at
theorem dX9_isTaken_0 : decode cX9_isTaken 0 = .ok (.iconst 0, 1) := by decide +kernel
theorem dX9_isTaken_1 : decode cX9_isTaken 1 = .ok (.istore_n 3, 1) := by decide +kernel
theorem dX9_isTaken_2 : decode cX9_isTaken 2 = .ok (.iload_n 3, 1) := by decide +kernel
theorem dX9_isTaken_3 : decode cX9_isTaken 3 = .ok (.bipush 6, 2) := by decide +kernel
theorem dX9_isTaken_5 : decode cX9_isTaken 5 = .ok (.if_icmp .ge 28, 3) := by decide +kernel
theorem dX9_isTaken_8 : decode cX9_isTaken 8 = .ok (.iload_n 3, 1) := by decide +kernel
theorem dX9_isTaken_9 : decode cX9_isTaken 9 = .ok (.iload_n 2, 1) := by decide +kernel
theorem dX9_isTaken_10 : decode cX9_isTaken 10 = .ok (.if_icmp .eq 17, 3) := by decide +kernel
theorem dX9_isTaken_13 : decode cX9_isTaken 13 = .ok (.aload_n 0, 1) := by decide +kernel
theorem dX9_isTaken_14 : decode cX9_isTaken 14 = .ok (.getfield 14, 3) := by decide +kernel
theorem dX9_isTaken_17 : decode cX9_isTaken 17 = .ok (.iload_n 3, 1) := by decide +kernel
theorem dX9_isTaken_18 : decode cX9_isTaken 18 = .ok (.invokevirtual 48, 3) := by decide +kernel
theorem dX9_isTaken_21 : decode cX9_isTaken 21 = .ok (.iload_n 1, 1) := by decide +kernel
theorem dX9_isTaken_22 : decode cX9_isTaken 22 = .ok (.if_icmp .ne 5, 3) := by decide +kernel
theorem dX9_isTaken_25 : decode cX9_isTaken 25 = .ok (.iconst 1, 1) := by decide +kernel
theorem dX9_isTaken_26 : decode cX9_isTaken 26 = .ok (.ireturn, 1) := by decide +kernel
theorem dX9_isTaken_27 : decode cX9_isTaken 27 = .ok (.iinc 3 1, 3) := by decide +kernel
theorem dX9_isTaken_30 : decode cX9_isTaken 30 = .ok (.goto (-28), 3) := by decide +kernel
theorem dX9_isTaken_33 : decode cX9_isTaken 33 = .ok (.iconst 0, 1) := by decide +kernel
theorem dX9_isTaken_34 : decode cX9_isTaken 34 = .ok (.ireturn, 1) := by decide +kernel
set_option maxRecDepth 20000 in
theorem ggX9_down_X8_at : GoodIn wsX9_down wsX8_at := goodIn_r _ [6, 7, 14] rfl (by decide +kernel)
set_option maxRecDepth 20000 in
theorem gX9_down_X8_at : GoodIn wsX9_down (wsV RX9 48 RX8 yX8_at wsX8_at) := goodIn_app (goodIn_r _ [2, 3, 4, 5] rfl (by decide +kernel)) ggX9_down_X8_at
theorem dX9_down_0 : decode cX9_down 0 = .ok (.iconst 0, 1) := by decide +kernel
theorem dX9_down_1 : decode cX9_down 1 = .ok (.istore_n 1, 1) := by decide +kernel
theorem dX9_down_2 : decode cX9_down 2 = .ok (.iconst 0, 1) := by decide +kernel
theorem dX9_down_3 : decode cX9_down 3 = .ok (.istore_n 2, 1) := by decide +kernel
theorem dX9_down_4 : decode cX9_down 4 = .ok (.iload_n 2, 1) := by decide +kernel
theorem dX9_down_5 : decode cX9_down 5 = .ok (.bipush 6, 2) := by decide +kernel
theorem dX9_down_7 : decode cX9_down 7 = .ok (.if_icmp .ge 24, 3) := by decide +kernel
theorem dX9_down_10 : decode cX9_down 10 = .ok (.aload_n 0, 1) := by decide +kernel
theorem dX9_down_11 : decode cX9_down 11 = .ok (.getfield 14, 3) := by decide +kernel
theorem dX9_down_14 : decode cX9_down 14 = .ok (.iload_n 2, 1) := by decide +kernel
theorem dX9_down_15 : decode cX9_down 15 = .ok (.invokevirtual 48, 3) := by decide +kernel
theorem dX9_down_18 : decode cX9_down 18 = .ok (.iconst (-1), 1) := by decide +kernel
theorem dX9_down_19 : decode cX9_down 19 = .ok (.if_icmp .eq 6, 3) := by decide +kernel
theorem dX9_down_22 : decode cX9_down 22 = .ok (.iinc 1 1, 3) := by decide +kernel
theorem dX9_down_25 : decode cX9_down 25 = .ok (.iinc 2 1, 3) := by decide +kernel
theorem dX9_down_28 : decode cX9_down 28 = .ok (.goto (-24), 3) := by decide +kernel
theorem dX9_down_31 : decode cX9_down 31 = .ok (.iload_n 1, 1) := by decide +kernel
theorem dX9_down_32 : decode cX9_down 32 = .ok (.ireturn, 1) := by decide +kernel
set_option maxRecDepth 20000 in
theorem ggX9_level_X8_at : GoodIn wsX9_level wsX8_at := goodIn_r _ [12, 13, 24] rfl (by decide +kernel)
set_option maxRecDepth 20000 in
theorem gX9_level_X8_at : GoodIn wsX9_level (wsV RX9 48 RX8 yX8_at wsX8_at) := goodIn_app (goodIn_r _ [8, 9, 10, 11] rfl (by decide +kernel)) ggX9_level_X8_at
theorem dX9_level_0 : decode cX9_level 0 = .ok (.iconst 0, 1) := by decide +kernel
theorem dX9_level_1 : decode cX9_level 1 = .ok (.istore_n 2, 1) := by decide +kernel
theorem dX9_level_2 : decode cX9_level 2 = .ok (.iconst 0, 1) := by decide +kernel
theorem dX9_level_3 : decode cX9_level 3 = .ok (.istore_n 3, 1) := by decide +kernel
theorem dX9_level_4 : decode cX9_level 4 = .ok (.iload_n 3, 1) := by decide +kernel
theorem dX9_level_5 : decode cX9_level 5 = .ok (.bipush 6, 2) := by decide +kernel
theorem dX9_level_7 : decode cX9_level 7 = .ok (.if_icmp .ge 47, 3) := by decide +kernel
theorem dX9_level_10 : decode cX9_level 10 = .ok (.aload_n 0, 1) := by decide +kernel
theorem dX9_level_11 : decode cX9_level 11 = .ok (.getfield 14, 3) := by decide +kernel
theorem dX9_level_14 : decode cX9_level 14 = .ok (.iload_n 3, 1) := by decide +kernel
theorem dX9_level_15 : decode cX9_level 15 = .ok (.invokevirtual 48, 3) := by decide +kernel
theorem dX9_level_18 : decode cX9_level 18 = .ok (.istore 4, 2) := by decide +kernel
theorem dX9_level_20 : decode cX9_level 20 = .ok (.iload_n 3, 1) := by decide +kernel
theorem dX9_level_21 : decode cX9_level 21 = .ok (.iload_n 1, 1) := by decide +kernel
theorem dX9_level_22 : decode cX9_level 22 = .ok (.if_icmp .eq 26, 3) := by decide +kernel
theorem dX9_level_25 : decode cX9_level 25 = .ok (.iload 4, 2) := by decide +kernel
theorem dX9_level_27 : decode cX9_level 27 = .ok (.iconst (-1), 1) := by decide +kernel
theorem dX9_level_28 : decode cX9_level 28 = .ok (.if_icmp .eq 20, 3) := by decide +kernel
theorem dX9_level_31 : decode cX9_level 31 = .ok (.iload_n 2, 1) := by decide +kernel
theorem dX9_level_32 : decode cX9_level 32 = .ok (.aload_n 0, 1) := by decide +kernel
theorem dX9_level_33 : decode cX9_level 33 = .ok (.getfield 27, 3) := by decide +kernel
theorem dX9_level_36 : decode cX9_level 36 = .ok (.getfield 73, 3) := by decide +kernel
theorem dX9_level_39 : decode cX9_level 39 = .ok (.iload 4, 2) := by decide +kernel
theorem dX9_level_41 : decode cX9_level 41 = .ok (.invokevirtual 48, 3) := by decide +kernel
theorem dX9_level_44 : decode cX9_level 44 = .ok (.invokestatic 78, 3) := by decide +kernel
theorem dX9_level_47 : decode cX9_level 47 = .ok (.istore_n 2, 1) := by decide +kernel
theorem dX9_level_48 : decode cX9_level 48 = .ok (.iinc 3 1, 3) := by decide +kernel
theorem dX9_level_51 : decode cX9_level 51 = .ok (.goto (-47), 3) := by decide +kernel
theorem dX9_level_54 : decode cX9_level 54 = .ok (.iload_n 2, 1) := by decide +kernel
theorem dX9_level_55 : decode cX9_level 55 = .ok (.ireturn, 1) := by decide +kernel
set_option maxRecDepth 20000 in
theorem ggX9_pressure_X2_weight : GoodIn wsX9_pressure wsX2_weight := goodIn_r _ [6, 7, 29, 30, 31, 32, 33, 34, 35] rfl (by decide +kernel)
set_option maxRecDepth 20000 in
theorem gX9_pressure_X2_weight : GoodIn wsX9_pressure (wsV RX9 82 RX2 yX2_weight wsX2_weight) := goodIn_app (goodIn_r _ [2, 3, 4, 5] rfl (by decide +kernel)) ggX9_pressure_X2_weight
set_option maxRecDepth 20000 in
theorem ggX9_pressure_X9_down : GoodIn wsX9_pressure wsX9_down := goodIn_r _ [12, 13, 14, 15, 16, 17, 18, 19, 23, 24, 25, 26, 27, 28, 36] rfl (by decide +kernel)
set_option maxRecDepth 20000 in
theorem gX9_pressure_X9_down : GoodIn wsX9_pressure (wsV RX9 86 RX9 yX9_down wsX9_down) := goodIn_app (goodIn_r _ [8, 9, 10, 11] rfl (by decide +kernel)) ggX9_pressure_X9_down
set_option maxRecDepth 20000 in
theorem ggX9_pressure_X10_roundedUp : GoodIn wsX9_pressure wsX10_roundedUp := goodIn_r _ [22] rfl (by decide +kernel)
set_option maxRecDepth 20000 in
theorem gX9_pressure_X10_roundedUp_n89 : GoodIn wsX9_pressure (wsX10_roundedUp) := ggX9_pressure_X10_roundedUp
theorem dX9_pressure_0 : decode cX9_pressure 0 = .ok (.aload_n 0, 1) := by decide +kernel
theorem dX9_pressure_1 : decode cX9_pressure 1 = .ok (.getfield 31, 3) := by decide +kernel
theorem dX9_pressure_4 : decode cX9_pressure 4 = .ok (.invokevirtual 82, 3) := by decide +kernel
theorem dX9_pressure_7 : decode cX9_pressure 7 = .ok (.aload_n 0, 1) := by decide +kernel
theorem dX9_pressure_8 : decode cX9_pressure 8 = .ok (.invokevirtual 86, 3) := by decide +kernel
theorem dX9_pressure_11 : decode cX9_pressure 11 = .ok (.invokestatic 89, 3) := by decide +kernel
theorem dX9_pressure_14 : decode cX9_pressure 14 = .ok (.ireturn, 1) := by decide +kernel
set_option maxRecDepth 20000 in
theorem ggX9_sinking_X9_pressure : GoodIn wsX9_sinking wsX9_pressure := goodIn_r _ [8, 9, 10, 11, 12, 13, 14, 15, 16, 17, 18, 7, 19, 1, 20, 21, 22, 23, 24, 25, 26, 27, 28, 29, 30, 31, 32, 33, 34, 39, 40, 41, 42, 43, 44, 45, 46] rfl (by decide +kernel)
set_option maxRecDepth 20000 in
theorem gX9_sinking_X9_pressure : GoodIn wsX9_sinking (wsV RX9 92 RX9 yX9_pressure wsX9_pressure) := goodIn_app (goodIn_r _ [4, 5, 6, 7] rfl (by decide +kernel)) ggX9_sinking_X9_pressure
set_option maxRecDepth 20000 in
theorem ggX9_sinking_X8_at : GoodIn wsX9_sinking wsX8_at := goodIn_r _ [24, 25, 46] rfl (by decide +kernel)
set_option maxRecDepth 20000 in
theorem gX9_sinking_X8_at : GoodIn wsX9_sinking (wsV RX9 48 RX8 yX8_at wsX8_at) := goodIn_app (goodIn_r _ [20, 21, 22, 23] rfl (by decide +kernel)) ggX9_sinking_X8_at
theorem dX9_sinking_0 : decode cX9_sinking 0 = .ok (.aload_n 0, 1) := by decide +kernel
theorem dX9_sinking_1 : decode cX9_sinking 1 = .ok (.invokevirtual 92, 3) := by decide +kernel
theorem dX9_sinking_4 : decode cX9_sinking 4 = .ok (.istore_n 1, 1) := by decide +kernel
theorem dX9_sinking_5 : decode cX9_sinking 5 = .ok (.iconst 0, 1) := by decide +kernel
theorem dX9_sinking_6 : decode cX9_sinking 6 = .ok (.istore_n 2, 1) := by decide +kernel
theorem dX9_sinking_7 : decode cX9_sinking 7 = .ok (.iconst 0, 1) := by decide +kernel
theorem dX9_sinking_8 : decode cX9_sinking 8 = .ok (.istore_n 3, 1) := by decide +kernel
theorem dX9_sinking_9 : decode cX9_sinking 9 = .ok (.iload_n 3, 1) := by decide +kernel
theorem dX9_sinking_10 : decode cX9_sinking 10 = .ok (.bipush 6, 2) := by decide +kernel
theorem dX9_sinking_12 : decode cX9_sinking 12 = .ok (.if_icmp .ge 47, 3) := by decide +kernel
theorem dX9_sinking_15 : decode cX9_sinking 15 = .ok (.aload_n 0, 1) := by decide +kernel
theorem dX9_sinking_16 : decode cX9_sinking 16 = .ok (.getfield 14, 3) := by decide +kernel
theorem dX9_sinking_19 : decode cX9_sinking 19 = .ok (.iload_n 3, 1) := by decide +kernel
theorem dX9_sinking_20 : decode cX9_sinking 20 = .ok (.invokevirtual 48, 3) := by decide +kernel
theorem dX9_sinking_23 : decode cX9_sinking 23 = .ok (.istore 4, 2) := by decide +kernel
theorem dX9_sinking_25 : decode cX9_sinking 25 = .ok (.iload 4, 2) := by decide +kernel
theorem dX9_sinking_27 : decode cX9_sinking 27 = .ok (.iconst (-1), 1) := by decide +kernel
theorem dX9_sinking_28 : decode cX9_sinking 28 = .ok (.if_icmp .eq 25, 3) := by decide +kernel
theorem dX9_sinking_31 : decode cX9_sinking 31 = .ok (.aload_n 0, 1) := by decide +kernel
theorem dX9_sinking_32 : decode cX9_sinking 32 = .ok (.getfield 27, 3) := by decide +kernel
theorem dX9_sinking_35 : decode cX9_sinking 35 = .ok (.getfield 95, 3) := by decide +kernel
theorem dX9_sinking_38 : decode cX9_sinking 38 = .ok (.iload 4, 2) := by decide +kernel
theorem dX9_sinking_40 : decode cX9_sinking 40 = .ok (.invokevirtual 48, 3) := by decide +kernel
theorem dX9_sinking_43 : decode cX9_sinking 43 = .ok (.iload_n 1, 1) := by decide +kernel
theorem dX9_sinking_44 : decode cX9_sinking 44 = .ok (.if_icmp .ge 9, 3) := by decide +kernel
theorem dX9_sinking_47 : decode cX9_sinking 47 = .ok (.iload_n 2, 1) := by decide +kernel
theorem dX9_sinking_48 : decode cX9_sinking 48 = .ok (.iconst 1, 1) := by decide +kernel
theorem dX9_sinking_49 : decode cX9_sinking 49 = .ok (.iload_n 3, 1) := by decide +kernel
theorem dX9_sinking_50 : decode cX9_sinking 50 = .ok (.ishl, 1) := by decide +kernel
theorem dX9_sinking_51 : decode cX9_sinking 51 = .ok (.ior, 1) := by decide +kernel
theorem dX9_sinking_52 : decode cX9_sinking 52 = .ok (.istore_n 2, 1) := by decide +kernel
theorem dX9_sinking_53 : decode cX9_sinking 53 = .ok (.iinc 3 1, 3) := by decide +kernel
theorem dX9_sinking_56 : decode cX9_sinking 56 = .ok (.goto (-47), 3) := by decide +kernel
theorem dX9_sinking_59 : decode cX9_sinking 59 = .ok (.iload_n 2, 1) := by decide +kernel
theorem dX9_sinking_60 : decode cX9_sinking 60 = .ok (.ireturn, 1) := by decide +kernel
set_option maxRecDepth 20000 in
theorem ggX9_raise_X8_put : GoodIn wsX9_raise wsX8_put := goodIn_r _ [6, 7, 14] rfl (by decide +kernel)
set_option maxRecDepth 20000 in
theorem gX9_raise_X8_put : GoodIn wsX9_raise (wsV RX9 98 RX8 yX8_put wsX8_put) := goodIn_app (goodIn_r _ [2, 3, 4, 5] rfl (by decide +kernel)) ggX9_raise_X8_put
theorem dX9_raise_0 : decode cX9_raise 0 = .ok (.iconst 0, 1) := by decide +kernel
theorem dX9_raise_1 : decode cX9_raise 1 = .ok (.istore_n 2, 1) := by decide +kernel
theorem dX9_raise_2 : decode cX9_raise 2 = .ok (.iload_n 2, 1) := by decide +kernel
theorem dX9_raise_3 : decode cX9_raise 3 = .ok (.bipush 6, 2) := by decide +kernel
theorem dX9_raise_5 : decode cX9_raise 5 = .ok (.if_icmp .ge 26, 3) := by decide +kernel
theorem dX9_raise_8 : decode cX9_raise 8 = .ok (.iload_n 1, 1) := by decide +kernel
theorem dX9_raise_9 : decode cX9_raise 9 = .ok (.iload_n 2, 1) := by decide +kernel
theorem dX9_raise_10 : decode cX9_raise 10 = .ok (.ishr, 1) := by decide +kernel
theorem dX9_raise_11 : decode cX9_raise 11 = .ok (.iconst 1, 1) := by decide +kernel
theorem dX9_raise_12 : decode cX9_raise 12 = .ok (.iand, 1) := by decide +kernel
theorem dX9_raise_13 : decode cX9_raise 13 = .ok (.ifCond .eq 12, 3) := by decide +kernel
theorem dX9_raise_16 : decode cX9_raise 16 = .ok (.aload_n 0, 1) := by decide +kernel
theorem dX9_raise_17 : decode cX9_raise 17 = .ok (.getfield 14, 3) := by decide +kernel
theorem dX9_raise_20 : decode cX9_raise 20 = .ok (.iload_n 2, 1) := by decide +kernel
theorem dX9_raise_21 : decode cX9_raise 21 = .ok (.iconst (-1), 1) := by decide +kernel
theorem dX9_raise_22 : decode cX9_raise 22 = .ok (.invokevirtual 98, 3) := by decide +kernel
theorem dX9_raise_25 : decode cX9_raise 25 = .ok (.iinc 2 1, 3) := by decide +kernel
theorem dX9_raise_28 : decode cX9_raise 28 = .ok (.goto (-26), 3) := by decide +kernel
theorem dX9_raise_31 : decode cX9_raise 31 = .ok (.return_, 1) := by decide +kernel
set_option maxRecDepth 20000 in
theorem ggX9_sinkAway_X9_sinking : GoodIn wsX9_sinkAway wsX9_sinking := goodIn_r _ [5, 6, 7, 8, 9, 10, 11, 4, 12, 13, 14, 15, 16, 17, 18, 19, 20, 21, 22, 23, 24, 25, 26, 27, 28, 29, 30, 31, 32, 41, 42, 43, 44, 45, 46, 47, 48, 49, 50, 51, 52, 53, 54, 55, 56, 57, 58] rfl (by decide +kernel)
set_option maxRecDepth 20000 in
theorem gX9_sinkAway_X9_sinking : GoodIn wsX9_sinkAway (wsV RX9 101 RX9 yX9_sinking wsX9_sinking) := goodIn_app (goodIn_r _ [1, 2, 3, 4] rfl (by decide +kernel)) ggX9_sinkAway_X9_sinking
set_option maxRecDepth 20000 in
theorem ggX9_sinkAway_X9_raise : GoodIn wsX9_sinkAway wsX9_raise := goodIn_r _ [36, 6, 37, 38, 39, 27, 40, 29, 41, 42, 43, 44, 45, 46, 58] rfl (by decide +kernel)
set_option maxRecDepth 20000 in
theorem gX9_sinkAway_X9_raise : GoodIn wsX9_sinkAway (wsV RX9 104 RX9 yX9_raise wsX9_raise) := goodIn_app (goodIn_r _ [33, 34, 35, 4] rfl (by decide +kernel)) ggX9_sinkAway_X9_raise
theorem dX9_sinkAway_0 : decode cX9_sinkAway 0 = .ok (.aload_n 0, 1) := by decide +kernel
theorem dX9_sinkAway_1 : decode cX9_sinkAway 1 = .ok (.invokevirtual 101, 3) := by decide +kernel
theorem dX9_sinkAway_4 : decode cX9_sinkAway 4 = .ok (.istore_n 1, 1) := by decide +kernel
theorem dX9_sinkAway_5 : decode cX9_sinkAway 5 = .ok (.iload_n 1, 1) := by decide +kernel
theorem dX9_sinkAway_6 : decode cX9_sinkAway 6 = .ok (.istore_n 2, 1) := by decide +kernel
theorem dX9_sinkAway_7 : decode cX9_sinkAway 7 = .ok (.iconst 0, 1) := by decide +kernel
theorem dX9_sinkAway_8 : decode cX9_sinkAway 8 = .ok (.istore_n 3, 1) := by decide +kernel
theorem dX9_sinkAway_9 : decode cX9_sinkAway 9 = .ok (.iload_n 2, 1) := by decide +kernel
theorem dX9_sinkAway_10 : decode cX9_sinkAway 10 = .ok (.ifCond .eq 25, 3) := by decide +kernel
theorem dX9_sinkAway_13 : decode cX9_sinkAway 13 = .ok (.iload_n 3, 1) := by decide +kernel
theorem dX9_sinkAway_14 : decode cX9_sinkAway 14 = .ok (.bipush 6, 2) := by decide +kernel
theorem dX9_sinkAway_16 : decode cX9_sinkAway 16 = .ok (.if_icmp .ge 19, 3) := by decide +kernel
theorem dX9_sinkAway_19 : decode cX9_sinkAway 19 = .ok (.aload_n 0, 1) := by decide +kernel
theorem dX9_sinkAway_20 : decode cX9_sinkAway 20 = .ok (.iload_n 2, 1) := by decide +kernel
theorem dX9_sinkAway_21 : decode cX9_sinkAway 21 = .ok (.invokevirtual 104, 3) := by decide +kernel
theorem dX9_sinkAway_24 : decode cX9_sinkAway 24 = .ok (.aload_n 0, 1) := by decide +kernel
theorem dX9_sinkAway_25 : decode cX9_sinkAway 25 = .ok (.invokevirtual 101, 3) := by decide +kernel
theorem dX9_sinkAway_28 : decode cX9_sinkAway 28 = .ok (.istore_n 2, 1) := by decide +kernel
theorem dX9_sinkAway_29 : decode cX9_sinkAway 29 = .ok (.iinc 3 1, 3) := by decide +kernel
theorem dX9_sinkAway_32 : decode cX9_sinkAway 32 = .ok (.goto (-23), 3) := by decide +kernel
theorem dX9_sinkAway_35 : decode cX9_sinkAway 35 = .ok (.iload_n 1, 1) := by decide +kernel
theorem dX9_sinkAway_36 : decode cX9_sinkAway 36 = .ok (.ifCond .eq 7, 3) := by decide +kernel
theorem dX9_sinkAway_39 : decode cX9_sinkAway 39 = .ok (.iconst 1, 1) := by decide +kernel
theorem dX9_sinkAway_40 : decode cX9_sinkAway 40 = .ok (.goto 4, 3) := by decide +kernel
theorem dX9_sinkAway_43 : decode cX9_sinkAway 43 = .ok (.iconst 0, 1) := by decide +kernel
theorem dX9_sinkAway_44 : decode cX9_sinkAway 44 = .ok (.ireturn, 1) := by decide +kernel
theorem dX9_momentX_0 : decode cX9_momentX 0 = .ok (.bipush 10, 2) := by decide +kernel
theorem dX9_momentX_2 : decode cX9_momentX 2 = .ok (.aload_n 0, 1) := by decide +kernel
theorem dX9_momentX_3 : decode cX9_momentX 3 = .ok (.getfield 20, 3) := by decide +kernel
theorem dX9_momentX_6 : decode cX9_momentX 6 = .ok (.imul, 1) := by decide +kernel
theorem dX9_momentX_7 : decode cX9_momentX 7 = .ok (.aload_n 0, 1) := by decide +kernel
theorem dX9_momentX_8 : decode cX9_momentX 8 = .ok (.getfield 31, 3) := by decide +kernel
theorem dX9_momentX_11 : decode cX9_momentX 11 = .ok (.getfield 108, 3) := by decide +kernel
theorem dX9_momentX_14 : decode cX9_momentX 14 = .ok (.aload_n 0, 1) := by decide +kernel
theorem dX9_momentX_15 : decode cX9_momentX 15 = .ok (.getfield 20, 3) := by decide +kernel
theorem dX9_momentX_18 : decode cX9_momentX 18 = .ok (.aload_n 0, 1) := by decide +kernel
theorem dX9_momentX_19 : decode cX9_momentX 19 = .ok (.getfield 31, 3) := by decide +kernel
theorem dX9_momentX_22 : decode cX9_momentX 22 = .ok (.getfield 111, 3) := by decide +kernel
theorem dX9_momentX_25 : decode cX9_momentX 25 = .ok (.iadd, 1) := by decide +kernel
theorem dX9_momentX_26 : decode cX9_momentX 26 = .ok (.imul, 1) := by decide +kernel
theorem dX9_momentX_27 : decode cX9_momentX 27 = .ok (.iadd, 1) := by decide +kernel
theorem dX9_momentX_28 : decode cX9_momentX 28 = .ok (.ireturn, 1) := by decide +kernel
theorem dX9_momentY_0 : decode cX9_momentY 0 = .ok (.bipush 10, 2) := by decide +kernel
theorem dX9_momentY_2 : decode cX9_momentY 2 = .ok (.aload_n 0, 1) := by decide +kernel
theorem dX9_momentY_3 : decode cX9_momentY 3 = .ok (.getfield 24, 3) := by decide +kernel
theorem dX9_momentY_6 : decode cX9_momentY 6 = .ok (.imul, 1) := by decide +kernel
theorem dX9_momentY_7 : decode cX9_momentY 7 = .ok (.aload_n 0, 1) := by decide +kernel
theorem dX9_momentY_8 : decode cX9_momentY 8 = .ok (.getfield 31, 3) := by decide +kernel
theorem dX9_momentY_11 : decode cX9_momentY 11 = .ok (.getfield 108, 3) := by decide +kernel
theorem dX9_momentY_14 : decode cX9_momentY 14 = .ok (.aload_n 0, 1) := by decide +kernel
theorem dX9_momentY_15 : decode cX9_momentY 15 = .ok (.getfield 24, 3) := by decide +kernel
theorem dX9_momentY_18 : decode cX9_momentY 18 = .ok (.aload_n 0, 1) := by decide +kernel
theorem dX9_momentY_19 : decode cX9_momentY 19 = .ok (.getfield 31, 3) := by decide +kernel
theorem dX9_momentY_22 : decode cX9_momentY 22 = .ok (.getfield 114, 3) := by decide +kernel
theorem dX9_momentY_25 : decode cX9_momentY 25 = .ok (.iadd, 1) := by decide +kernel
theorem dX9_momentY_26 : decode cX9_momentY 26 = .ok (.imul, 1) := by decide +kernel
theorem dX9_momentY_27 : decode cX9_momentY 27 = .ok (.iadd, 1) := by decide +kernel
theorem dX9_momentY_28 : decode cX9_momentY 28 = .ok (.ireturn, 1) := by decide +kernel
set_option maxRecDepth 20000 in
theorem ggX9_holdsWithout_X4_wrap : GoodIn wsX9_holdsWithout wsX4_wrap := goodIn_r _ [8, 9, 10, 11, 12, 13, 14, 15, 16, 17, 18, 19, 20, 21, 22, 23, 24, 25, 26, 27, 7, 28, 70, 71, 72, 73] rfl (by decide +kernel)
set_option maxRecDepth 20000 in
theorem gX9_holdsWithout_X4_wrap : GoodIn wsX9_holdsWithout (wsV RX9 117 RX4 yX4_wrap wsX4_wrap) := goodIn_app (goodIn_r _ [4, 5, 6, 7] rfl (by decide +kernel)) ggX9_holdsWithout_X4_wrap
set_option maxRecDepth 20000 in
theorem ggX9_holdsWithout_X9_momentX : GoodIn wsX9_holdsWithout wsX9_momentX := goodIn_r _ [33, 34, 3, 35, 36, 64, 65, 66, 67, 68, 69, 74, 75, 76, 77, 78, 79, 80] rfl (by decide +kernel)
set_option maxRecDepth 20000 in
theorem gX9_holdsWithout_X9_momentX : GoodIn wsX9_holdsWithout (wsV RX9 123 RX9 yX9_momentX wsX9_momentX) := goodIn_app (goodIn_r _ [29, 30, 31, 32] rfl (by decide +kernel)) ggX9_holdsWithout_X9_momentX
set_option maxRecDepth 20000 in
theorem ggX9_holdsWithout_X9_momentY : GoodIn wsX9_holdsWithout wsX9_momentY := goodIn_r _ [40, 41, 3, 35, 42, 64, 65, 66, 67, 68, 69, 74, 75, 76, 77, 78, 79, 80] rfl (by decide +kernel)
set_option maxRecDepth 20000 in
theorem gX9_holdsWithout_X9_momentY : GoodIn wsX9_holdsWithout (wsV RX9 126 RX9 yX9_momentY wsX9_momentY) := goodIn_app (goodIn_r _ [37, 38, 39, 32] rfl (by decide +kernel)) ggX9_holdsWithout_X9_momentY
set_option maxRecDepth 20000 in
theorem ggX9_holdsWithout_X2_weight : GoodIn wsX9_holdsWithout wsX2_weight := goodIn_r _ [47, 48, 74, 75, 76, 77, 78, 79, 80] rfl (by decide +kernel)
set_option maxRecDepth 20000 in
theorem gX9_holdsWithout_X2_weight : GoodIn wsX9_holdsWithout (wsV RX9 82 RX2 yX2_weight wsX2_weight) := goodIn_app (goodIn_r _ [43, 44, 45, 46] rfl (by decide +kernel)) ggX9_holdsWithout_X2_weight
set_option maxRecDepth 20000 in
theorem ggX9_holdsWithout_X4_holds : GoodIn wsX9_holdsWithout wsX4_holds := goodIn_r _ [52, 53, 54, 14, 15, 10, 11, 12, 13, 55, 56, 57, 16, 17, 18, 19, 20, 21, 58, 59, 7, 60, 61, 62, 63, 70, 71, 72, 73] rfl (by decide +kernel)
set_option maxRecDepth 20000 in
theorem gX9_holdsWithout_X4_holds : GoodIn wsX9_holdsWithout (wsV RX9 129 RX4 yX4_holds wsX4_holds) := goodIn_app (goodIn_r _ [49, 50, 51, 7] rfl (by decide +kernel)) ggX9_holdsWithout_X4_holds
theorem dX9_holdsWithout_0 : decode cX9_holdsWithout 0 = .ok (.aload_n 0, 1) := by decide +kernel
theorem dX9_holdsWithout_1 : decode cX9_holdsWithout 1 = .ok (.getfield 35, 3) := by decide +kernel
theorem dX9_holdsWithout_4 : decode cX9_holdsWithout 4 = .ok (.aload_n 0, 1) := by decide +kernel
theorem dX9_holdsWithout_5 : decode cX9_holdsWithout 5 = .ok (.getfield 14, 3) := by decide +kernel
theorem dX9_holdsWithout_8 : decode cX9_holdsWithout 8 = .ok (.iload_n 1, 1) := by decide +kernel
theorem dX9_holdsWithout_9 : decode cX9_holdsWithout 9 = .ok (.invokevirtual 117, 3) := by decide +kernel
theorem dX9_holdsWithout_12 : decode cX9_holdsWithout 12 = .ok (.aload_n 0, 1) := by decide +kernel
theorem dX9_holdsWithout_13 : decode cX9_holdsWithout 13 = .ok (.getfield 35, 3) := by decide +kernel
theorem dX9_holdsWithout_16 : decode cX9_holdsWithout 16 = .ok (.aload_n 0, 1) := by decide +kernel
theorem dX9_holdsWithout_17 : decode cX9_holdsWithout 17 = .ok (.invokevirtual 123, 3) := by decide +kernel
theorem dX9_holdsWithout_20 : decode cX9_holdsWithout 20 = .ok (.aload_n 0, 1) := by decide +kernel
theorem dX9_holdsWithout_21 : decode cX9_holdsWithout 21 = .ok (.invokevirtual 126, 3) := by decide +kernel
theorem dX9_holdsWithout_24 : decode cX9_holdsWithout 24 = .ok (.aload_n 0, 1) := by decide +kernel
theorem dX9_holdsWithout_25 : decode cX9_holdsWithout 25 = .ok (.getfield 31, 3) := by decide +kernel
theorem dX9_holdsWithout_28 : decode cX9_holdsWithout 28 = .ok (.invokevirtual 82, 3) := by decide +kernel
theorem dX9_holdsWithout_31 : decode cX9_holdsWithout 31 = .ok (.invokevirtual 129, 3) := by decide +kernel
theorem dX9_holdsWithout_34 : decode cX9_holdsWithout 34 = .ok (.ireturn, 1) := by decide +kernel
set_option maxRecDepth 20000 in
theorem ggX9_direction_X8_at : GoodIn wsX9_direction wsX8_at := goodIn_r _ [7, 8, 44] rfl (by decide +kernel)
set_option maxRecDepth 20000 in
theorem gX9_direction_X8_at : GoodIn wsX9_direction (wsV RX9 48 RX8 yX8_at wsX8_at) := goodIn_app (goodIn_r _ [3, 4, 5, 6] rfl (by decide +kernel)) ggX9_direction_X8_at
set_option maxRecDepth 20000 in
theorem ggX9_direction_X10_xOf : GoodIn wsX9_direction wsX10_xOf := goodIn_r _ [11] rfl (by decide +kernel)
set_option maxRecDepth 20000 in
theorem gX9_direction_X10_xOf_n55 : GoodIn wsX9_direction (wsX10_xOf) := ggX9_direction_X10_xOf
set_option maxRecDepth 20000 in
theorem ggX9_direction_X10_yOf : GoodIn wsX9_direction wsX10_yOf := goodIn_r _ [13] rfl (by decide +kernel)
set_option maxRecDepth 20000 in
theorem gX9_direction_X10_yOf_n60 : GoodIn wsX9_direction (wsX10_yOf) := ggX9_direction_X10_yOf
set_option maxRecDepth 20000 in
theorem ggX9_direction_X9_momentX : GoodIn wsX9_direction wsX9_momentX := goodIn_r _ [18, 19, 2, 20, 21, 38, 39, 40, 41, 42, 43, 45, 46, 47, 48, 49, 50, 51] rfl (by decide +kernel)
set_option maxRecDepth 20000 in
theorem gX9_direction_X9_momentX : GoodIn wsX9_direction (wsV RX9 123 RX9 yX9_momentX wsX9_momentX) := goodIn_app (goodIn_r _ [14, 15, 16, 17] rfl (by decide +kernel)) ggX9_direction_X9_momentX
set_option maxRecDepth 20000 in
theorem ggX9_direction_X2_weight : GoodIn wsX9_direction wsX2_weight := goodIn_r _ [26, 27, 45, 46, 47, 48, 49, 50, 51] rfl (by decide +kernel)
set_option maxRecDepth 20000 in
theorem gX9_direction_X2_weight : GoodIn wsX9_direction (wsV RX9 82 RX2 yX2_weight wsX2_weight) := goodIn_app (goodIn_r _ [22, 23, 24, 25] rfl (by decide +kernel)) ggX9_direction_X2_weight
set_option maxRecDepth 20000 in
theorem ggX9_direction_J6_signum_0f7a4 : GoodIn wsX9_direction wsJ6_signum_0f7a4 := goodIn_r _ [31] rfl (by decide +kernel)
set_option maxRecDepth 20000 in
theorem gX9_direction_J6_signum_0f7a4 : GoodIn wsX9_direction (va_wsS RX9 133 yJ6_signum_0f7a4 wsJ6_signum_0f7a4) := goodIn_app (goodIn_r _ [28, 29, 30] rfl (by decide +kernel)) ggX9_direction_J6_signum_0f7a4
set_option maxRecDepth 20000 in
theorem ggX9_direction_X9_momentY : GoodIn wsX9_direction wsX9_momentY := goodIn_r _ [35, 36, 2, 20, 37, 38, 39, 40, 41, 42, 43, 45, 46, 47, 48, 49, 50, 51] rfl (by decide +kernel)
set_option maxRecDepth 20000 in
theorem gX9_direction_X9_momentY : GoodIn wsX9_direction (wsV RX9 126 RX9 yX9_momentY wsX9_momentY) := goodIn_app (goodIn_r _ [32, 33, 34, 17] rfl (by decide +kernel)) ggX9_direction_X9_momentY
theorem dX9_direction_0 : decode cX9_direction 0 = .ok (.iconst 0, 1) := by decide +kernel
theorem dX9_direction_1 : decode cX9_direction 1 = .ok (.istore_n 1, 1) := by decide +kernel
theorem dX9_direction_2 : decode cX9_direction 2 = .ok (.iconst 0, 1) := by decide +kernel
theorem dX9_direction_3 : decode cX9_direction 3 = .ok (.istore_n 2, 1) := by decide +kernel
theorem dX9_direction_4 : decode cX9_direction 4 = .ok (.iconst 0, 1) := by decide +kernel
theorem dX9_direction_5 : decode cX9_direction 5 = .ok (.istore_n 3, 1) := by decide +kernel
theorem dX9_direction_6 : decode cX9_direction 6 = .ok (.iconst 0, 1) := by decide +kernel
theorem dX9_direction_7 : decode cX9_direction 7 = .ok (.istore 4, 2) := by decide +kernel
theorem dX9_direction_9 : decode cX9_direction 9 = .ok (.iload 4, 2) := by decide +kernel
theorem dX9_direction_11 : decode cX9_direction 11 = .ok (.bipush 6, 2) := by decide +kernel
theorem dX9_direction_13 : decode cX9_direction 13 = .ok (.if_icmp .ge 45, 3) := by decide +kernel
theorem dX9_direction_16 : decode cX9_direction 16 = .ok (.aload_n 0, 1) := by decide +kernel
theorem dX9_direction_17 : decode cX9_direction 17 = .ok (.getfield 14, 3) := by decide +kernel
theorem dX9_direction_20 : decode cX9_direction 20 = .ok (.iload 4, 2) := by decide +kernel
theorem dX9_direction_22 : decode cX9_direction 22 = .ok (.invokevirtual 48, 3) := by decide +kernel
theorem dX9_direction_25 : decode cX9_direction 25 = .ok (.istore 5, 2) := by decide +kernel
theorem dX9_direction_27 : decode cX9_direction 27 = .ok (.iload 5, 2) := by decide +kernel
theorem dX9_direction_29 : decode cX9_direction 29 = .ok (.iconst (-1), 1) := by decide +kernel
theorem dX9_direction_30 : decode cX9_direction 30 = .ok (.if_icmp .eq 22, 3) := by decide +kernel
theorem dX9_direction_33 : decode cX9_direction 33 = .ok (.iinc 1 1, 3) := by decide +kernel
theorem dX9_direction_36 : decode cX9_direction 36 = .ok (.iload_n 2, 1) := by decide +kernel
theorem dX9_direction_37 : decode cX9_direction 37 = .ok (.iload 5, 2) := by decide +kernel
theorem dX9_direction_39 : decode cX9_direction 39 = .ok (.invokestatic 55, 3) := by decide +kernel
theorem dX9_direction_42 : decode cX9_direction 42 = .ok (.iadd, 1) := by decide +kernel
theorem dX9_direction_43 : decode cX9_direction 43 = .ok (.istore_n 2, 1) := by decide +kernel
theorem dX9_direction_44 : decode cX9_direction 44 = .ok (.iload_n 3, 1) := by decide +kernel
theorem dX9_direction_45 : decode cX9_direction 45 = .ok (.iload 5, 2) := by decide +kernel
theorem dX9_direction_47 : decode cX9_direction 47 = .ok (.invokestatic 60, 3) := by decide +kernel
theorem dX9_direction_50 : decode cX9_direction 50 = .ok (.iadd, 1) := by decide +kernel
theorem dX9_direction_51 : decode cX9_direction 51 = .ok (.istore_n 3, 1) := by decide +kernel
theorem dX9_direction_52 : decode cX9_direction 52 = .ok (.iinc 4 1, 3) := by decide +kernel
theorem dX9_direction_55 : decode cX9_direction 55 = .ok (.goto (-46), 3) := by decide +kernel
theorem dX9_direction_58 : decode cX9_direction 58 = .ok (.aload_n 0, 1) := by decide +kernel
theorem dX9_direction_59 : decode cX9_direction 59 = .ok (.invokevirtual 123, 3) := by decide +kernel
theorem dX9_direction_62 : decode cX9_direction 62 = .ok (.iload_n 1, 1) := by decide +kernel
theorem dX9_direction_63 : decode cX9_direction 63 = .ok (.imul, 1) := by decide +kernel
theorem dX9_direction_64 : decode cX9_direction 64 = .ok (.iload_n 2, 1) := by decide +kernel
theorem dX9_direction_65 : decode cX9_direction 65 = .ok (.aload_n 0, 1) := by decide +kernel
theorem dX9_direction_66 : decode cX9_direction 66 = .ok (.getfield 31, 3) := by decide +kernel
theorem dX9_direction_69 : decode cX9_direction 69 = .ok (.invokevirtual 82, 3) := by decide +kernel
theorem dX9_direction_72 : decode cX9_direction 72 = .ok (.imul, 1) := by decide +kernel
theorem dX9_direction_73 : decode cX9_direction 73 = .ok (.isub, 1) := by decide +kernel
theorem dX9_direction_74 : decode cX9_direction 74 = .ok (.invokestatic 133, 3) := by decide +kernel
theorem dX9_direction_77 : decode cX9_direction 77 = .ok (.istore 4, 2) := by decide +kernel
theorem dX9_direction_79 : decode cX9_direction 79 = .ok (.aload_n 0, 1) := by decide +kernel
theorem dX9_direction_80 : decode cX9_direction 80 = .ok (.invokevirtual 126, 3) := by decide +kernel
theorem dX9_direction_83 : decode cX9_direction 83 = .ok (.iload_n 1, 1) := by decide +kernel
theorem dX9_direction_84 : decode cX9_direction 84 = .ok (.imul, 1) := by decide +kernel
theorem dX9_direction_85 : decode cX9_direction 85 = .ok (.iload_n 3, 1) := by decide +kernel
theorem dX9_direction_86 : decode cX9_direction 86 = .ok (.aload_n 0, 1) := by decide +kernel
theorem dX9_direction_87 : decode cX9_direction 87 = .ok (.getfield 31, 3) := by decide +kernel
theorem dX9_direction_90 : decode cX9_direction 90 = .ok (.invokevirtual 82, 3) := by decide +kernel
theorem dX9_direction_93 : decode cX9_direction 93 = .ok (.imul, 1) := by decide +kernel
theorem dX9_direction_94 : decode cX9_direction 94 = .ok (.isub, 1) := by decide +kernel
theorem dX9_direction_95 : decode cX9_direction 95 = .ok (.invokestatic 133, 3) := by decide +kernel
theorem dX9_direction_98 : decode cX9_direction 98 = .ok (.istore 5, 2) := by decide +kernel
theorem dX9_direction_100 : decode cX9_direction 100 = .ok (.iconst 3, 1) := by decide +kernel
theorem dX9_direction_101 : decode cX9_direction 101 = .ok (.iload 4, 2) := by decide +kernel
theorem dX9_direction_103 : decode cX9_direction 103 = .ok (.iconst 1, 1) := by decide +kernel
theorem dX9_direction_104 : decode cX9_direction 104 = .ok (.iadd, 1) := by decide +kernel
theorem dX9_direction_105 : decode cX9_direction 105 = .ok (.imul, 1) := by decide +kernel
theorem dX9_direction_106 : decode cX9_direction 106 = .ok (.iload 5, 2) := by decide +kernel
theorem dX9_direction_108 : decode cX9_direction 108 = .ok (.iadd, 1) := by decide +kernel
theorem dX9_direction_109 : decode cX9_direction 109 = .ok (.iconst 1, 1) := by decide +kernel
theorem dX9_direction_110 : decode cX9_direction 110 = .ok (.iadd, 1) := by decide +kernel
theorem dX9_direction_111 : decode cX9_direction 111 = .ok (.ireturn, 1) := by decide +kernel
set_option maxRecDepth 20000 in
theorem ggX9_moveBody_X10_pointAt : GoodIn wsX9_moveBody wsX10_pointAt := goodIn_r _ [6] rfl (by decide +kernel)
set_option maxRecDepth 20000 in
theorem gX9_moveBody_X10_pointAt_n138 : GoodIn wsX9_moveBody (wsX10_pointAt) := ggX9_moveBody_X10_pointAt
set_option maxRecDepth 20000 in
theorem ggX9_moveBody_X8_at : GoodIn wsX9_moveBody wsX8_at := goodIn_r _ [11, 12, 96] rfl (by decide +kernel)
set_option maxRecDepth 20000 in
theorem gX9_moveBody_X8_at : GoodIn wsX9_moveBody (wsV RX9 48 RX8 yX8_at wsX8_at) := goodIn_app (goodIn_r _ [7, 8, 9, 10] rfl (by decide +kernel)) ggX9_moveBody_X8_at
set_option maxRecDepth 20000 in
theorem ggX9_moveBody_X9_isInReach : GoodIn wsX9_moveBody wsX9_isInReach := goodIn_r _ [17, 18, 19, 20, 5, 21, 22, 23, 24, 16, 25, 1, 26, 7, 8, 9, 10, 11, 12, 27, 28, 29, 30, 31, 32, 2, 33, 90, 91, 92, 93, 94, 95, 97, 98, 99, 100, 101, 102, 103, 96] rfl (by decide +kernel)
set_option maxRecDepth 20000 in
theorem gX9_moveBody_X9_isInReach : GoodIn wsX9_moveBody (wsV RX9 141 RX9 yX9_isInReach wsX9_isInReach) := goodIn_app (goodIn_r _ [13, 14, 15, 16] rfl (by decide +kernel)) ggX9_moveBody_X9_isInReach
set_option maxRecDepth 20000 in
theorem ggX9_moveBody_X9_holdsWithout : GoodIn wsX9_moveBody wsX9_holdsWithout := goodIn_r _ [37, 38, 3, 18, 39, 40, 41, 42, 43, 44, 45, 46, 47, 48, 49, 50, 51, 8, 9, 10, 11, 12, 52, 53, 54, 55, 56, 57, 58, 59, 60, 61, 16, 62, 1, 63, 64, 65, 66, 67, 68, 2, 69, 70, 71, 72, 73, 74, 75, 76, 77, 78, 79, 80, 81, 82, 83, 84, 85, 86, 87, 88, 5, 89, 90, 91, 92, 93, 94, 95, 104, 105, 106, 96, 97, 98, 99, 100, 101, 102, 103] rfl (by decide +kernel)
set_option maxRecDepth 20000 in
theorem gX9_moveBody_X9_holdsWithout : GoodIn wsX9_moveBody (wsV RX9 145 RX9 yX9_holdsWithout wsX9_holdsWithout) := goodIn_app (goodIn_r _ [34, 35, 36, 16] rfl (by decide +kernel)) ggX9_moveBody_X9_holdsWithout
theorem dX9_moveBody_0 : decode cX9_moveBody 0 = .ok (.aload_n 0, 1) := by decide +kernel
theorem dX9_moveBody_1 : decode cX9_moveBody 1 = .ok (.dup, 1) := by decide +kernel
theorem dX9_moveBody_2 : decode cX9_moveBody 2 = .ok (.getfield 20, 3) := by decide +kernel
theorem dX9_moveBody_5 : decode cX9_moveBody 5 = .ok (.iload_n 1, 1) := by decide +kernel
theorem dX9_moveBody_6 : decode cX9_moveBody 6 = .ok (.iadd, 1) := by decide +kernel
theorem dX9_moveBody_7 : decode cX9_moveBody 7 = .ok (.putfield 20, 3) := by decide +kernel
theorem dX9_moveBody_10 : decode cX9_moveBody 10 = .ok (.aload_n 0, 1) := by decide +kernel
theorem dX9_moveBody_11 : decode cX9_moveBody 11 = .ok (.dup, 1) := by decide +kernel
theorem dX9_moveBody_12 : decode cX9_moveBody 12 = .ok (.getfield 24, 3) := by decide +kernel
theorem dX9_moveBody_15 : decode cX9_moveBody 15 = .ok (.iload_n 2, 1) := by decide +kernel
theorem dX9_moveBody_16 : decode cX9_moveBody 16 = .ok (.iadd, 1) := by decide +kernel
theorem dX9_moveBody_17 : decode cX9_moveBody 17 = .ok (.putfield 24, 3) := by decide +kernel
theorem dX9_moveBody_20 : decode cX9_moveBody 20 = .ok (.aload_n 0, 1) := by decide +kernel
theorem dX9_moveBody_21 : decode cX9_moveBody 21 = .ok (.getfield 20, 3) := by decide +kernel
theorem dX9_moveBody_24 : decode cX9_moveBody 24 = .ok (.aload_n 0, 1) := by decide +kernel
theorem dX9_moveBody_25 : decode cX9_moveBody 25 = .ok (.getfield 24, 3) := by decide +kernel
theorem dX9_moveBody_28 : decode cX9_moveBody 28 = .ok (.invokestatic 138, 3) := by decide +kernel
theorem dX9_moveBody_31 : decode cX9_moveBody 31 = .ok (.iconst (-1), 1) := by decide +kernel
theorem dX9_moveBody_32 : decode cX9_moveBody 32 = .ok (.if_icmp .ne 5, 3) := by decide +kernel
theorem dX9_moveBody_35 : decode cX9_moveBody 35 = .ok (.iconst 0, 1) := by decide +kernel
theorem dX9_moveBody_36 : decode cX9_moveBody 36 = .ok (.ireturn, 1) := by decide +kernel
theorem dX9_moveBody_37 : decode cX9_moveBody 37 = .ok (.iconst 0, 1) := by decide +kernel
theorem dX9_moveBody_38 : decode cX9_moveBody 38 = .ok (.istore_n 3, 1) := by decide +kernel
theorem dX9_moveBody_39 : decode cX9_moveBody 39 = .ok (.iload_n 3, 1) := by decide +kernel
theorem dX9_moveBody_40 : decode cX9_moveBody 40 = .ok (.bipush 6, 2) := by decide +kernel
theorem dX9_moveBody_42 : decode cX9_moveBody 42 = .ok (.if_icmp .ge 37, 3) := by decide +kernel
theorem dX9_moveBody_45 : decode cX9_moveBody 45 = .ok (.aload_n 0, 1) := by decide +kernel
theorem dX9_moveBody_46 : decode cX9_moveBody 46 = .ok (.getfield 14, 3) := by decide +kernel
theorem dX9_moveBody_49 : decode cX9_moveBody 49 = .ok (.iload_n 3, 1) := by decide +kernel
theorem dX9_moveBody_50 : decode cX9_moveBody 50 = .ok (.invokevirtual 48, 3) := by decide +kernel
theorem dX9_moveBody_53 : decode cX9_moveBody 53 = .ok (.istore 4, 2) := by decide +kernel
theorem dX9_moveBody_55 : decode cX9_moveBody 55 = .ok (.iload 4, 2) := by decide +kernel
theorem dX9_moveBody_57 : decode cX9_moveBody 57 = .ok (.iconst (-1), 1) := by decide +kernel
theorem dX9_moveBody_58 : decode cX9_moveBody 58 = .ok (.if_icmp .eq 15, 3) := by decide +kernel
theorem dX9_moveBody_61 : decode cX9_moveBody 61 = .ok (.aload_n 0, 1) := by decide +kernel
theorem dX9_moveBody_62 : decode cX9_moveBody 62 = .ok (.iload_n 3, 1) := by decide +kernel
theorem dX9_moveBody_63 : decode cX9_moveBody 63 = .ok (.iload 4, 2) := by decide +kernel
theorem dX9_moveBody_65 : decode cX9_moveBody 65 = .ok (.invokevirtual 141, 3) := by decide +kernel
theorem dX9_moveBody_68 : decode cX9_moveBody 68 = .ok (.ifCond .ne 5, 3) := by decide +kernel
theorem dX9_moveBody_71 : decode cX9_moveBody 71 = .ok (.iconst 0, 1) := by decide +kernel
theorem dX9_moveBody_72 : decode cX9_moveBody 72 = .ok (.ireturn, 1) := by decide +kernel
theorem dX9_moveBody_73 : decode cX9_moveBody 73 = .ok (.iinc 3 1, 3) := by decide +kernel
theorem dX9_moveBody_76 : decode cX9_moveBody 76 = .ok (.goto (-37), 3) := by decide +kernel
theorem dX9_moveBody_79 : decode cX9_moveBody 79 = .ok (.aload_n 0, 1) := by decide +kernel
theorem dX9_moveBody_80 : decode cX9_moveBody 80 = .ok (.iconst (-1), 1) := by decide +kernel
theorem dX9_moveBody_81 : decode cX9_moveBody 81 = .ok (.invokevirtual 145, 3) := by decide +kernel
theorem dX9_moveBody_84 : decode cX9_moveBody 84 = .ok (.ireturn, 1) := by decide +kernel
set_option maxRecDepth 20000 in
theorem ggX9_step_X8_at : GoodIn wsX9_step wsX8_at := goodIn_r _ [6, 7, 108] rfl (by decide +kernel)
set_option maxRecDepth 20000 in
theorem gX9_step_X8_at : GoodIn wsX9_step (wsV RX9 48 RX8 yX8_at wsX8_at) := goodIn_app (goodIn_r _ [2, 3, 4, 5] rfl (by decide +kernel)) ggX9_step_X8_at
set_option maxRecDepth 20000 in
theorem ggX9_step_X9_holdsWithout : GoodIn wsX9_step wsX9_holdsWithout := goodIn_r _ [12, 13, 1, 14, 15, 16, 17, 18, 19, 20, 21, 22, 23, 24, 25, 26, 27, 3, 4, 5, 6, 7, 28, 29, 30, 31, 32, 33, 34, 35, 36, 37, 11, 38, 39, 40, 41, 42, 43, 44, 45, 46, 47, 48, 49, 50, 51, 52, 53, 54, 55, 56, 57, 58, 59, 60, 61, 62, 63, 64, 65, 66, 67, 68, 102, 103, 104, 105, 106, 107, 109, 110, 111, 108, 112, 113, 114, 115, 116, 117, 118] rfl (by decide +kernel)
set_option maxRecDepth 20000 in
theorem gX9_step_X9_holdsWithout : GoodIn wsX9_step (wsV RX9 145 RX9 yX9_holdsWithout wsX9_holdsWithout) := goodIn_app (goodIn_r _ [8, 9, 10, 11] rfl (by decide +kernel)) ggX9_step_X9_holdsWithout
set_option maxRecDepth 20000 in
theorem ggX9_step_X9_bestPoint : GoodIn wsX9_step wsX9_bestPoint := goodIn_r _ [72, 14, 73, 74, 75, 76, 23, 77, 78, 79, 80, 81, 82, 11, 83, 1, 84, 61, 62, 2, 3, 4, 5, 6, 7, 85, 86, 87, 88, 39, 89, 90, 91, 92, 93, 46, 94, 95, 67, 96, 97, 98, 99, 100, 102, 103, 104, 105, 106, 107, 112, 113, 114, 115, 116, 117, 118, 119, 120, 121, 122, 108] rfl (by decide +kernel)
set_option maxRecDepth 20000 in
theorem gX9_step_X9_bestPoint : GoodIn wsX9_step (wsV RX9 149 RX9 yX9_bestPoint wsX9_bestPoint) := goodIn_app (goodIn_r _ [69, 70, 71, 11] rfl (by decide +kernel)) ggX9_step_X9_bestPoint
set_option maxRecDepth 20000 in
theorem ggX9_step_X8_put : GoodIn wsX9_step wsX8_put := goodIn_r _ [31, 7, 108] rfl (by decide +kernel)
set_option maxRecDepth 20000 in
theorem gX9_step_X8_put : GoodIn wsX9_step (wsV RX9 98 RX8 yX8_put wsX8_put) := goodIn_app (goodIn_r _ [101, 29, 30, 5] rfl (by decide +kernel)) ggX9_step_X8_put
theorem dX9_step_0 : decode cX9_step 0 = .ok (.aload_n 0, 1) := by decide +kernel
theorem dX9_step_1 : decode cX9_step 1 = .ok (.getfield 14, 3) := by decide +kernel
theorem dX9_step_4 : decode cX9_step 4 = .ok (.iload_n 1, 1) := by decide +kernel
theorem dX9_step_5 : decode cX9_step 5 = .ok (.invokevirtual 48, 3) := by decide +kernel
theorem dX9_step_8 : decode cX9_step 8 = .ok (.iconst (-1), 1) := by decide +kernel
theorem dX9_step_9 : decode cX9_step 9 = .ok (.if_icmp .eq 13, 3) := by decide +kernel
theorem dX9_step_12 : decode cX9_step 12 = .ok (.aload_n 0, 1) := by decide +kernel
theorem dX9_step_13 : decode cX9_step 13 = .ok (.iload_n 1, 1) := by decide +kernel
theorem dX9_step_14 : decode cX9_step 14 = .ok (.invokevirtual 145, 3) := by decide +kernel
theorem dX9_step_17 : decode cX9_step 17 = .ok (.ifCond .ne 5, 3) := by decide +kernel
theorem dX9_step_20 : decode cX9_step 20 = .ok (.iconst 0, 1) := by decide +kernel
theorem dX9_step_21 : decode cX9_step 21 = .ok (.ireturn, 1) := by decide +kernel
theorem dX9_step_22 : decode cX9_step 22 = .ok (.aload_n 0, 1) := by decide +kernel
theorem dX9_step_23 : decode cX9_step 23 = .ok (.iload_n 1, 1) := by decide +kernel
theorem dX9_step_24 : decode cX9_step 24 = .ok (.invokevirtual 149, 3) := by decide +kernel
theorem dX9_step_27 : decode cX9_step 27 = .ok (.istore_n 2, 1) := by decide +kernel
theorem dX9_step_28 : decode cX9_step 28 = .ok (.iload_n 2, 1) := by decide +kernel
theorem dX9_step_29 : decode cX9_step 29 = .ok (.iconst (-1), 1) := by decide +kernel
theorem dX9_step_30 : decode cX9_step 30 = .ok (.if_icmp .ne 5, 3) := by decide +kernel
theorem dX9_step_33 : decode cX9_step 33 = .ok (.iconst 0, 1) := by decide +kernel
theorem dX9_step_34 : decode cX9_step 34 = .ok (.ireturn, 1) := by decide +kernel
theorem dX9_step_35 : decode cX9_step 35 = .ok (.aload_n 0, 1) := by decide +kernel
theorem dX9_step_36 : decode cX9_step 36 = .ok (.getfield 14, 3) := by decide +kernel
theorem dX9_step_39 : decode cX9_step 39 = .ok (.iload_n 1, 1) := by decide +kernel
theorem dX9_step_40 : decode cX9_step 40 = .ok (.iload_n 2, 1) := by decide +kernel
theorem dX9_step_41 : decode cX9_step 41 = .ok (.invokevirtual 98, 3) := by decide +kernel
theorem dX9_step_44 : decode cX9_step 44 = .ok (.iconst 1, 1) := by decide +kernel
theorem dX9_step_45 : decode cX9_step 45 = .ok (.ireturn, 1) := by decide +kernel
set_option maxRecDepth 20000 in
theorem ggX9_bestPoint_X9_level : GoodIn wsX9_bestPoint wsX9_level := goodIn_r _ [14, 15, 8, 9, 16, 17, 6, 18, 19, 20, 21, 22, 23, 24, 44, 45, 46, 47, 48, 49, 57, 58, 59, 60, 61] rfl (by decide +kernel)
set_option maxRecDepth 20000 in
theorem gX9_bestPoint_X9_level : GoodIn wsX9_bestPoint (wsV RX9 152 RX9 yX9_level wsX9_level) := goodIn_app (goodIn_r _ [10, 11, 12, 13] rfl (by decide +kernel)) ggX9_bestPoint_X9_level
set_option maxRecDepth 20000 in
theorem ggX9_bestPoint_X9_hipX : GoodIn wsX9_bestPoint wsX9_hipX := goodIn_r _ [28, 29, 1, 30, 19, 20, 21, 22, 23, 24, 44, 45, 46, 47, 48, 49, 50, 51, 52, 53, 54, 55, 56, 61] rfl (by decide +kernel)
set_option maxRecDepth 20000 in
theorem gX9_bestPoint_X9_hipX : GoodIn wsX9_bestPoint (wsV RX9 58 RX9 yX9_hipX wsX9_hipX) := goodIn_app (goodIn_r _ [25, 26, 27, 13] rfl (by decide +kernel)) ggX9_bestPoint_X9_hipX
set_option maxRecDepth 20000 in
theorem ggX9_bestPoint_X9_hipY : GoodIn wsX9_bestPoint wsX9_hipY := goodIn_r _ [34, 35, 1, 36, 19, 20, 21, 22, 23, 24, 44, 45, 46, 47, 48, 49, 50, 51, 52, 53, 54, 55, 56, 61] rfl (by decide +kernel)
set_option maxRecDepth 20000 in
theorem gX9_bestPoint_X9_hipY : GoodIn wsX9_bestPoint (wsV RX9 63 RX9 yX9_hipY wsX9_hipY) := goodIn_app (goodIn_r _ [31, 32, 33, 13] rfl (by decide +kernel)) ggX9_bestPoint_X9_hipY
set_option maxRecDepth 20000 in
theorem ggX9_bestPoint_X8_at : GoodIn wsX9_bestPoint wsX8_at := goodIn_r _ [23, 24, 61] rfl (by decide +kernel)
set_option maxRecDepth 20000 in
theorem gX9_bestPoint_X8_at : GoodIn wsX9_bestPoint (wsV RX9 48 RX8 yX8_at wsX8_at) := goodIn_app (goodIn_r _ [19, 20, 21, 22] rfl (by decide +kernel)) ggX9_bestPoint_X8_at
set_option maxRecDepth 20000 in
theorem ggX9_bestPoint_X10_pointAt : GoodIn wsX9_bestPoint wsX10_pointAt := goodIn_r _ [39] rfl (by decide +kernel)
set_option maxRecDepth 20000 in
theorem gX9_bestPoint_X10_pointAt_n138 : GoodIn wsX9_bestPoint (wsX10_pointAt) := ggX9_bestPoint_X10_pointAt
set_option maxRecDepth 20000 in
theorem ggX9_bestPoint_X9_isTaken : GoodIn wsX9_bestPoint wsX9_isTaken := goodIn_r _ [43, 15, 19, 20, 21, 22, 23, 24, 44, 45, 46, 47, 48, 49, 61] rfl (by decide +kernel)
set_option maxRecDepth 20000 in
theorem gX9_bestPoint_X9_isTaken : GoodIn wsX9_bestPoint (wsV RX9 156 RX9 yX9_isTaken wsX9_isTaken) := goodIn_app (goodIn_r _ [40, 41, 42, 13] rfl (by decide +kernel)) ggX9_bestPoint_X9_isTaken
theorem dX9_bestPoint_0 : decode cX9_bestPoint 0 = .ok (.aload_n 0, 1) := by decide +kernel
theorem dX9_bestPoint_1 : decode cX9_bestPoint 1 = .ok (.iload_n 1, 1) := by decide +kernel
theorem dX9_bestPoint_2 : decode cX9_bestPoint 2 = .ok (.invokevirtual 152, 3) := by decide +kernel
theorem dX9_bestPoint_5 : decode cX9_bestPoint 5 = .ok (.istore_n 2, 1) := by decide +kernel
theorem dX9_bestPoint_6 : decode cX9_bestPoint 6 = .ok (.aload_n 0, 1) := by decide +kernel
theorem dX9_bestPoint_7 : decode cX9_bestPoint 7 = .ok (.iload_n 1, 1) := by decide +kernel
theorem dX9_bestPoint_8 : decode cX9_bestPoint 8 = .ok (.invokevirtual 58, 3) := by decide +kernel
theorem dX9_bestPoint_11 : decode cX9_bestPoint 11 = .ok (.istore_n 3, 1) := by decide +kernel
theorem dX9_bestPoint_12 : decode cX9_bestPoint 12 = .ok (.aload_n 0, 1) := by decide +kernel
theorem dX9_bestPoint_13 : decode cX9_bestPoint 13 = .ok (.iload_n 1, 1) := by decide +kernel
theorem dX9_bestPoint_14 : decode cX9_bestPoint 14 = .ok (.invokevirtual 63, 3) := by decide +kernel
theorem dX9_bestPoint_17 : decode cX9_bestPoint 17 = .ok (.istore 4, 2) := by decide +kernel
theorem dX9_bestPoint_19 : decode cX9_bestPoint 19 = .ok (.aload_n 0, 1) := by decide +kernel
theorem dX9_bestPoint_20 : decode cX9_bestPoint 20 = .ok (.getfield 31, 3) := by decide +kernel
theorem dX9_bestPoint_23 : decode cX9_bestPoint 23 = .ok (.getfield 65, 3) := by decide +kernel
theorem dX9_bestPoint_26 : decode cX9_bestPoint 26 = .ok (.iload_n 1, 1) := by decide +kernel
theorem dX9_bestPoint_27 : decode cX9_bestPoint 27 = .ok (.invokevirtual 48, 3) := by decide +kernel
theorem dX9_bestPoint_30 : decode cX9_bestPoint 30 = .ok (.istore 5, 2) := by decide +kernel
theorem dX9_bestPoint_32 : decode cX9_bestPoint 32 = .ok (.iconst (-1), 1) := by decide +kernel
theorem dX9_bestPoint_33 : decode cX9_bestPoint 33 = .ok (.istore 6, 2) := by decide +kernel
theorem dX9_bestPoint_35 : decode cX9_bestPoint 35 = .ok (.ldc 155, 2) := by decide +kernel
theorem dX9_bestPoint_37 : decode cX9_bestPoint 37 = .ok (.istore 7, 2) := by decide +kernel
theorem dX9_bestPoint_39 : decode cX9_bestPoint 39 = .ok (.iconst 0, 1) := by decide +kernel
theorem dX9_bestPoint_40 : decode cX9_bestPoint 40 = .ok (.istore 8, 2) := by decide +kernel
theorem dX9_bestPoint_42 : decode cX9_bestPoint 42 = .ok (.iload 8, 2) := by decide +kernel
theorem dX9_bestPoint_44 : decode cX9_bestPoint 44 = .ok (.bipush 8, 2) := by decide +kernel
theorem dX9_bestPoint_46 : decode cX9_bestPoint 46 = .ok (.if_icmp .gt 163, 3) := by decide +kernel
theorem dX9_bestPoint_49 : decode cX9_bestPoint 49 = .ok (.iload 8, 2) := by decide +kernel
theorem dX9_bestPoint_51 : decode cX9_bestPoint 51 = .ok (.iload 7, 2) := by decide +kernel
theorem dX9_bestPoint_53 : decode cX9_bestPoint 53 = .ok (.if_icmp .ge 156, 3) := by decide +kernel
theorem dX9_bestPoint_56 : decode cX9_bestPoint 56 = .ok (.iload 8, 2) := by decide +kernel
theorem dX9_bestPoint_58 : decode cX9_bestPoint 58 = .ok (.ineg, 1) := by decide +kernel
theorem dX9_bestPoint_59 : decode cX9_bestPoint 59 = .ok (.istore 9, 2) := by decide +kernel
theorem dX9_bestPoint_61 : decode cX9_bestPoint 61 = .ok (.iload 9, 2) := by decide +kernel
theorem dX9_bestPoint_63 : decode cX9_bestPoint 63 = .ok (.iload 8, 2) := by decide +kernel
theorem dX9_bestPoint_65 : decode cX9_bestPoint 65 = .ok (.if_icmp .gt 138, 3) := by decide +kernel
theorem dX9_bestPoint_68 : decode cX9_bestPoint 68 = .ok (.iload 8, 2) := by decide +kernel
theorem dX9_bestPoint_70 : decode cX9_bestPoint 70 = .ok (.iload 9, 2) := by decide +kernel
theorem dX9_bestPoint_72 : decode cX9_bestPoint 72 = .ok (.invokestatic 68, 3) := by decide +kernel
theorem dX9_bestPoint_75 : decode cX9_bestPoint 75 = .ok (.isub, 1) := by decide +kernel
theorem dX9_bestPoint_76 : decode cX9_bestPoint 76 = .ok (.istore 10, 2) := by decide +kernel
theorem dX9_bestPoint_78 : decode cX9_bestPoint 78 = .ok (.iconst (-1), 1) := by decide +kernel
theorem dX9_bestPoint_79 : decode cX9_bestPoint 79 = .ok (.istore 11, 2) := by decide +kernel
theorem dX9_bestPoint_81 : decode cX9_bestPoint 81 = .ok (.iload 11, 2) := by decide +kernel
theorem dX9_bestPoint_83 : decode cX9_bestPoint 83 = .ok (.iconst 1, 1) := by decide +kernel
theorem dX9_bestPoint_84 : decode cX9_bestPoint 84 = .ok (.if_icmp .gt 113, 3) := by decide +kernel
theorem dX9_bestPoint_87 : decode cX9_bestPoint 87 = .ok (.iload_n 3, 1) := by decide +kernel
theorem dX9_bestPoint_88 : decode cX9_bestPoint 88 = .ok (.iload 11, 2) := by decide +kernel
theorem dX9_bestPoint_90 : decode cX9_bestPoint 90 = .ok (.iload 10, 2) := by decide +kernel
theorem dX9_bestPoint_92 : decode cX9_bestPoint 92 = .ok (.imul, 1) := by decide +kernel
theorem dX9_bestPoint_93 : decode cX9_bestPoint 93 = .ok (.iadd, 1) := by decide +kernel
theorem dX9_bestPoint_94 : decode cX9_bestPoint 94 = .ok (.iload 4, 2) := by decide +kernel
theorem dX9_bestPoint_96 : decode cX9_bestPoint 96 = .ok (.iload 9, 2) := by decide +kernel
theorem dX9_bestPoint_98 : decode cX9_bestPoint 98 = .ok (.iadd, 1) := by decide +kernel
theorem dX9_bestPoint_99 : decode cX9_bestPoint 99 = .ok (.invokestatic 138, 3) := by decide +kernel
theorem dX9_bestPoint_102 : decode cX9_bestPoint 102 = .ok (.istore 12, 2) := by decide +kernel
theorem dX9_bestPoint_104 : decode cX9_bestPoint 104 = .ok (.aload_n 0, 1) := by decide +kernel
theorem dX9_bestPoint_105 : decode cX9_bestPoint 105 = .ok (.getfield 27, 3) := by decide +kernel
theorem dX9_bestPoint_108 : decode cX9_bestPoint 108 = .ok (.getfield 73, 3) := by decide +kernel
theorem dX9_bestPoint_111 : decode cX9_bestPoint 111 = .ok (.iload 12, 2) := by decide +kernel
theorem dX9_bestPoint_113 : decode cX9_bestPoint 113 = .ok (.invokevirtual 48, 3) := by decide +kernel
theorem dX9_bestPoint_116 : decode cX9_bestPoint 116 = .ok (.iload_n 2, 1) := by decide +kernel
theorem dX9_bestPoint_117 : decode cX9_bestPoint 117 = .ok (.isub, 1) := by decide +kernel
theorem dX9_bestPoint_118 : decode cX9_bestPoint 118 = .ok (.invokestatic 68, 3) := by decide +kernel
theorem dX9_bestPoint_121 : decode cX9_bestPoint 121 = .ok (.istore 13, 2) := by decide +kernel
theorem dX9_bestPoint_123 : decode cX9_bestPoint 123 = .ok (.iload 12, 2) := by decide +kernel
theorem dX9_bestPoint_125 : decode cX9_bestPoint 125 = .ok (.iconst (-1), 1) := by decide +kernel
theorem dX9_bestPoint_126 : decode cX9_bestPoint 126 = .ok (.if_icmp .eq 65, 3) := by decide +kernel
theorem dX9_bestPoint_129 : decode cX9_bestPoint 129 = .ok (.iload 10, 2) := by decide +kernel
theorem dX9_bestPoint_131 : decode cX9_bestPoint 131 = .ok (.iload 10, 2) := by decide +kernel
theorem dX9_bestPoint_133 : decode cX9_bestPoint 133 = .ok (.imul, 1) := by decide +kernel
theorem dX9_bestPoint_134 : decode cX9_bestPoint 134 = .ok (.iload 9, 2) := by decide +kernel
theorem dX9_bestPoint_136 : decode cX9_bestPoint 136 = .ok (.iload 9, 2) := by decide +kernel
theorem dX9_bestPoint_138 : decode cX9_bestPoint 138 = .ok (.imul, 1) := by decide +kernel
theorem dX9_bestPoint_139 : decode cX9_bestPoint 139 = .ok (.iadd, 1) := by decide +kernel
theorem dX9_bestPoint_140 : decode cX9_bestPoint 140 = .ok (.iload 5, 2) := by decide +kernel
theorem dX9_bestPoint_142 : decode cX9_bestPoint 142 = .ok (.iload 5, 2) := by decide +kernel
theorem dX9_bestPoint_144 : decode cX9_bestPoint 144 = .ok (.imul, 1) := by decide +kernel
theorem dX9_bestPoint_145 : decode cX9_bestPoint 145 = .ok (.if_icmp .gt 46, 3) := by decide +kernel
theorem dX9_bestPoint_148 : decode cX9_bestPoint 148 = .ok (.iload 13, 2) := by decide +kernel
theorem dX9_bestPoint_150 : decode cX9_bestPoint 150 = .ok (.iconst 2, 1) := by decide +kernel
theorem dX9_bestPoint_151 : decode cX9_bestPoint 151 = .ok (.if_icmp .gt 40, 3) := by decide +kernel
theorem dX9_bestPoint_154 : decode cX9_bestPoint 154 = .ok (.bipush 10, 2) := by decide +kernel
theorem dX9_bestPoint_156 : decode cX9_bestPoint 156 = .ok (.iload 13, 2) := by decide +kernel
theorem dX9_bestPoint_158 : decode cX9_bestPoint 158 = .ok (.imul, 1) := by decide +kernel
theorem dX9_bestPoint_159 : decode cX9_bestPoint 159 = .ok (.iload 8, 2) := by decide +kernel
theorem dX9_bestPoint_161 : decode cX9_bestPoint 161 = .ok (.iadd, 1) := by decide +kernel
theorem dX9_bestPoint_162 : decode cX9_bestPoint 162 = .ok (.iload 7, 2) := by decide +kernel
theorem dX9_bestPoint_164 : decode cX9_bestPoint 164 = .ok (.if_icmp .ge 27, 3) := by decide +kernel
theorem dX9_bestPoint_167 : decode cX9_bestPoint 167 = .ok (.aload_n 0, 1) := by decide +kernel
theorem dX9_bestPoint_168 : decode cX9_bestPoint 168 = .ok (.iload 12, 2) := by decide +kernel
theorem dX9_bestPoint_170 : decode cX9_bestPoint 170 = .ok (.iload_n 1, 1) := by decide +kernel
theorem dX9_bestPoint_171 : decode cX9_bestPoint 171 = .ok (.invokevirtual 156, 3) := by decide +kernel
theorem dX9_bestPoint_174 : decode cX9_bestPoint 174 = .ok (.ifCond .ne 17, 3) := by decide +kernel
theorem dX9_bestPoint_177 : decode cX9_bestPoint 177 = .ok (.bipush 10, 2) := by decide +kernel
theorem dX9_bestPoint_179 : decode cX9_bestPoint 179 = .ok (.iload 13, 2) := by decide +kernel
theorem dX9_bestPoint_181 : decode cX9_bestPoint 181 = .ok (.imul, 1) := by decide +kernel
theorem dX9_bestPoint_182 : decode cX9_bestPoint 182 = .ok (.iload 8, 2) := by decide +kernel
theorem dX9_bestPoint_184 : decode cX9_bestPoint 184 = .ok (.iadd, 1) := by decide +kernel
theorem dX9_bestPoint_185 : decode cX9_bestPoint 185 = .ok (.istore 7, 2) := by decide +kernel
theorem dX9_bestPoint_187 : decode cX9_bestPoint 187 = .ok (.iload 12, 2) := by decide +kernel
theorem dX9_bestPoint_189 : decode cX9_bestPoint 189 = .ok (.istore 6, 2) := by decide +kernel
theorem dX9_bestPoint_191 : decode cX9_bestPoint 191 = .ok (.iinc 11 2, 3) := by decide +kernel
theorem dX9_bestPoint_194 : decode cX9_bestPoint 194 = .ok (.goto (-113), 3) := by decide +kernel
theorem dX9_bestPoint_197 : decode cX9_bestPoint 197 = .ok (.iinc 9 1, 3) := by decide +kernel
theorem dX9_bestPoint_200 : decode cX9_bestPoint 200 = .ok (.goto (-139), 3) := by decide +kernel
theorem dX9_bestPoint_203 : decode cX9_bestPoint 203 = .ok (.iinc 8 1, 3) := by decide +kernel
theorem dX9_bestPoint_206 : decode cX9_bestPoint 206 = .ok (.goto (-164), 3) := by decide +kernel
theorem dX9_bestPoint_209 : decode cX9_bestPoint 209 = .ok (.iload 6, 2) := by decide +kernel
theorem dX9_bestPoint_211 : decode cX9_bestPoint 211 = .ok (.ireturn, 1) := by decide +kernel
set_option maxRecDepth 20000 in
theorem ggX10_init_X4_init : GoodIn wsX10_init wsX4_init := goodIn_r _ [43, 44, 2, 3, 45, 46, 47, 48, 49, 50, 51, 52, 53, 54, 55, 56, 57, 58, 59, 60, 191, 139, 140, 141] rfl (by decide +kernel)
set_option maxRecDepth 20000 in
theorem gX10_init_X4_init_n11 : GoodIn wsX10_init (wsX4_init) := ggX10_init_X4_init
set_option maxRecDepth 20000 in
theorem ggX10_init_X5_init : GoodIn wsX10_init wsX5_init := goodIn_r _ [62, 63, 2, 3, 64, 46, 47, 65, 66, 67, 68, 69, 52, 53, 54, 55, 56, 57, 58, 59, 60, 191, 142, 143, 144, 145] rfl (by decide +kernel)
set_option maxRecDepth 20000 in
theorem gX10_init_X5_init_n14 : GoodIn wsX10_init (wsX5_init) := ggX10_init_X5_init
set_option maxRecDepth 20000 in
theorem ggX10_init_X2_init : GoodIn wsX10_init wsX2_init := goodIn_r _ [71, 72, 2, 3, 73, 46, 47, 74, 75, 76, 77, 78, 79, 80, 81, 52, 53, 54, 55, 56, 57, 58, 59, 60, 191, 157, 158, 159, 160, 161, 162, 163] rfl (by decide +kernel)
set_option maxRecDepth 20000 in
theorem gX10_init_X2_init_n21 : GoodIn wsX10_init (wsX2_init) := ggX10_init_X2_init
set_option maxRecDepth 20000 in
theorem ggX10_init_X9_init : GoodIn wsX10_init wsX9_init := goodIn_r _ [84, 85, 2, 3, 86, 46, 47, 87, 88, 89, 90, 91, 92, 93, 52, 53, 54, 55, 56, 57, 58, 59, 60, 191, 164, 165, 166, 167, 168, 169] rfl (by decide +kernel)
set_option maxRecDepth 20000 in
theorem gX10_init_X9_init : GoodIn wsX10_init (wsX9_init) := ggX10_init_X9_init
set_option maxRecDepth 20000 in
theorem ggX10_init_X6_init : GoodIn wsX10_init wsX6_init := goodIn_r _ [95, 96, 2, 3, 97, 46, 47, 98, 99, 100, 101, 52, 53, 54, 55, 56, 57, 58, 59, 60, 191, 170, 171, 172] rfl (by decide +kernel)
set_option maxRecDepth 20000 in
theorem gX10_init_X6_init_n40 : GoodIn wsX10_init (wsX6_init) := ggX10_init_X6_init
set_option maxRecDepth 20000 in
theorem ggX10_init_X0_init : GoodIn wsX10_init wsX0_init := goodIn_r _ [103, 104, 2, 3, 105, 106, 107, 108, 173, 174, 175, 176] rfl (by decide +kernel)
set_option maxRecDepth 20000 in
theorem gX10_init_X0_init_n47 : GoodIn wsX10_init (wsX0_init) := ggX10_init_X0_init
set_option maxRecDepth 20000 in
theorem ggX10_init_X1_init : GoodIn wsX10_init wsX1_init := goodIn_r _ [110, 111, 2, 3, 112, 46, 47, 113, 114, 115, 116, 117, 52, 53, 54, 55, 56, 57, 58, 59, 60, 191, 177, 178, 179, 180] rfl (by decide +kernel)
set_option maxRecDepth 20000 in
theorem gX10_init_X1_init_n54 : GoodIn wsX10_init (wsX1_init) := ggX10_init_X1_init
set_option maxRecDepth 20000 in
theorem ggX10_init_X3_init : GoodIn wsX10_init wsX3_init := goodIn_r _ [119, 120, 2, 3, 121, 46, 47, 122, 123, 124, 125, 126, 127, 128, 129, 52, 53, 54, 55, 56, 57, 58, 59, 60, 191, 181, 182, 183, 184, 185, 186, 187] rfl (by decide +kernel)
set_option maxRecDepth 20000 in
theorem gX10_init_X3_init_n61 : GoodIn wsX10_init (wsX3_init) := ggX10_init_X3_init
set_option maxRecDepth 20000 in
theorem ggX10_init_X7_init : GoodIn wsX10_init wsX7_init := goodIn_r _ [132, 133, 2, 3, 134, 135, 136, 137, 16, 17, 138, 83, 84, 85, 86, 46, 47, 87, 88, 89, 90, 91, 92, 93, 52, 53, 54, 55, 56, 57, 58, 59, 60, 188, 189, 190, 164, 165, 166, 167, 168, 169, 191] rfl (by decide +kernel)
set_option maxRecDepth 20000 in
theorem gX10_init_X7_init : GoodIn wsX10_init (wsX7_init) := ggX10_init_X7_init
theorem dX10_init_0 : decode cX10_init 0 = .ok (.aload_n 0, 1) := by decide +kernel
theorem dX10_init_1 : decode cX10_init 1 = .ok (.invokespecial 3, 3) := by decide +kernel
theorem dX10_init_4 : decode cX10_init 4 = .ok (.new 9, 3) := by decide +kernel
theorem dX10_init_7 : decode cX10_init 7 = .ok (.dup, 1) := by decide +kernel
theorem dX10_init_8 : decode cX10_init 8 = .ok (.invokespecial 11, 3) := by decide +kernel
theorem dX10_init_11 : decode cX10_init 11 = .ok (.astore_n 1, 1) := by decide +kernel
theorem dX10_init_12 : decode cX10_init 12 = .ok (.aload_n 0, 1) := by decide +kernel
theorem dX10_init_13 : decode cX10_init 13 = .ok (.new 12, 3) := by decide +kernel
theorem dX10_init_16 : decode cX10_init 16 = .ok (.dup, 1) := by decide +kernel
theorem dX10_init_17 : decode cX10_init 17 = .ok (.invokespecial 14, 3) := by decide +kernel
theorem dX10_init_20 : decode cX10_init 20 = .ok (.putfield 15, 3) := by decide +kernel
theorem dX10_init_23 : decode cX10_init 23 = .ok (.aload_n 0, 1) := by decide +kernel
theorem dX10_init_24 : decode cX10_init 24 = .ok (.new 19, 3) := by decide +kernel
theorem dX10_init_27 : decode cX10_init 27 = .ok (.dup, 1) := by decide +kernel
theorem dX10_init_28 : decode cX10_init 28 = .ok (.invokespecial 21, 3) := by decide +kernel
theorem dX10_init_31 : decode cX10_init 31 = .ok (.putfield 22, 3) := by decide +kernel
theorem dX10_init_34 : decode cX10_init 34 = .ok (.aload_n 0, 1) := by decide +kernel
theorem dX10_init_35 : decode cX10_init 35 = .ok (.new 26, 3) := by decide +kernel
theorem dX10_init_38 : decode cX10_init 38 = .ok (.dup, 1) := by decide +kernel
theorem dX10_init_39 : decode cX10_init 39 = .ok (.aload_n 0, 1) := by decide +kernel
theorem dX10_init_40 : decode cX10_init 40 = .ok (.getfield 15, 3) := by decide +kernel
theorem dX10_init_43 : decode cX10_init 43 = .ok (.aload_n 0, 1) := by decide +kernel
theorem dX10_init_44 : decode cX10_init 44 = .ok (.getfield 22, 3) := by decide +kernel
theorem dX10_init_47 : decode cX10_init 47 = .ok (.aload_n 1, 1) := by decide +kernel
theorem dX10_init_48 : decode cX10_init 48 = .ok (.invokespecial 28, 3) := by decide +kernel
theorem dX10_init_51 : decode cX10_init 51 = .ok (.putfield 31, 3) := by decide +kernel
theorem dX10_init_54 : decode cX10_init 54 = .ok (.aload_n 0, 1) := by decide +kernel
theorem dX10_init_55 : decode cX10_init 55 = .ok (.new 26, 3) := by decide +kernel
theorem dX10_init_58 : decode cX10_init 58 = .ok (.dup, 1) := by decide +kernel
theorem dX10_init_59 : decode cX10_init 59 = .ok (.aload_n 0, 1) := by decide +kernel
theorem dX10_init_60 : decode cX10_init 60 = .ok (.getfield 15, 3) := by decide +kernel
theorem dX10_init_63 : decode cX10_init 63 = .ok (.aload_n 0, 1) := by decide +kernel
theorem dX10_init_64 : decode cX10_init 64 = .ok (.getfield 22, 3) := by decide +kernel
theorem dX10_init_67 : decode cX10_init 67 = .ok (.aload_n 1, 1) := by decide +kernel
theorem dX10_init_68 : decode cX10_init 68 = .ok (.invokespecial 28, 3) := by decide +kernel
theorem dX10_init_71 : decode cX10_init 71 = .ok (.putfield 35, 3) := by decide +kernel
theorem dX10_init_74 : decode cX10_init 74 = .ok (.aload_n 0, 1) := by decide +kernel
theorem dX10_init_75 : decode cX10_init 75 = .ok (.new 38, 3) := by decide +kernel
theorem dX10_init_78 : decode cX10_init 78 = .ok (.dup, 1) := by decide +kernel
theorem dX10_init_79 : decode cX10_init 79 = .ok (.invokespecial 40, 3) := by decide +kernel
theorem dX10_init_82 : decode cX10_init 82 = .ok (.putfield 41, 3) := by decide +kernel
theorem dX10_init_85 : decode cX10_init 85 = .ok (.aload_n 0, 1) := by decide +kernel
theorem dX10_init_86 : decode cX10_init 86 = .ok (.new 45, 3) := by decide +kernel
theorem dX10_init_89 : decode cX10_init 89 = .ok (.dup, 1) := by decide +kernel
theorem dX10_init_90 : decode cX10_init 90 = .ok (.invokespecial 47, 3) := by decide +kernel
theorem dX10_init_93 : decode cX10_init 93 = .ok (.putfield 48, 3) := by decide +kernel
theorem dX10_init_96 : decode cX10_init 96 = .ok (.aload_n 0, 1) := by decide +kernel
theorem dX10_init_97 : decode cX10_init 97 = .ok (.new 52, 3) := by decide +kernel
theorem dX10_init_100 : decode cX10_init 100 = .ok (.dup, 1) := by decide +kernel
theorem dX10_init_101 : decode cX10_init 101 = .ok (.invokespecial 54, 3) := by decide +kernel
theorem dX10_init_104 : decode cX10_init 104 = .ok (.putfield 55, 3) := by decide +kernel
theorem dX10_init_107 : decode cX10_init 107 = .ok (.aload_n 0, 1) := by decide +kernel
theorem dX10_init_108 : decode cX10_init 108 = .ok (.new 59, 3) := by decide +kernel
theorem dX10_init_111 : decode cX10_init 111 = .ok (.dup, 1) := by decide +kernel
theorem dX10_init_112 : decode cX10_init 112 = .ok (.invokespecial 61, 3) := by decide +kernel
theorem dX10_init_115 : decode cX10_init 115 = .ok (.putfield 62, 3) := by decide +kernel
theorem dX10_init_118 : decode cX10_init 118 = .ok (.aload_n 0, 1) := by decide +kernel
theorem dX10_init_119 : decode cX10_init 119 = .ok (.new 66, 3) := by decide +kernel
theorem dX10_init_122 : decode cX10_init 122 = .ok (.dup, 1) := by decide +kernel
theorem dX10_init_123 : decode cX10_init 123 = .ok (.aload_n 0, 1) := by decide +kernel
theorem dX10_init_124 : decode cX10_init 124 = .ok (.getfield 15, 3) := by decide +kernel
theorem dX10_init_127 : decode cX10_init 127 = .ok (.aload_n 0, 1) := by decide +kernel
theorem dX10_init_128 : decode cX10_init 128 = .ok (.getfield 22, 3) := by decide +kernel
theorem dX10_init_131 : decode cX10_init 131 = .ok (.aload_n 1, 1) := by decide +kernel
theorem dX10_init_132 : decode cX10_init 132 = .ok (.invokespecial 68, 3) := by decide +kernel
theorem dX10_init_135 : decode cX10_init 135 = .ok (.putfield 69, 3) := by decide +kernel
theorem dX10_init_138 : decode cX10_init 138 = .ok (.aload_n 0, 1) := by decide +kernel
theorem dX10_init_139 : decode cX10_init 139 = .ok (.iconst 0, 1) := by decide +kernel
theorem dX10_init_140 : decode cX10_init 140 = .ok (.putfield 73, 3) := by decide +kernel
theorem dX10_init_143 : decode cX10_init 143 = .ok (.aload_n 0, 1) := by decide +kernel
theorem dX10_init_144 : decode cX10_init 144 = .ok (.sipush 1000, 3) := by decide +kernel
theorem dX10_init_147 : decode cX10_init 147 = .ok (.putfield 77, 3) := by decide +kernel
theorem dX10_init_150 : decode cX10_init 150 = .ok (.return_, 1) := by decide +kernel
set_option maxRecDepth 20000 in
theorem ggX10_ground_X10_pointAt : GoodIn wsX10_ground wsX10_pointAt := goodIn_r _ [13] rfl (by decide +kernel)
set_option maxRecDepth 20000 in
theorem gX10_ground_X10_pointAt : GoodIn wsX10_ground (va_wsS RX10 81 yX10_pointAt wsX10_pointAt) := goodIn_app (goodIn_r _ [10, 11, 12] rfl (by decide +kernel)) ggX10_ground_X10_pointAt
set_option maxRecDepth 20000 in
theorem ggX10_ground_X10_isWithin : GoodIn wsX10_ground wsX10_isWithin := goodIn_r _ [16] rfl (by decide +kernel)
set_option maxRecDepth 20000 in
theorem gX10_ground_X10_isWithin : GoodIn wsX10_ground (va_wsS RX10 85 yX10_isWithin wsX10_isWithin) := goodIn_app (goodIn_r _ [14, 15, 12] rfl (by decide +kernel)) ggX10_ground_X10_isWithin
set_option maxRecDepth 20000 in
theorem ggX10_ground_X9_isTaken : GoodIn wsX10_ground wsX9_isTaken := goodIn_r _ [21, 22, 23, 24, 25, 26, 27, 28, 49, 50, 51, 52, 53, 54, 55] rfl (by decide +kernel)
set_option maxRecDepth 20000 in
theorem gX10_ground_X9_isTaken : GoodIn wsX10_ground (wsV RX10 96 RX9 yX9_isTaken wsX9_isTaken) := goodIn_app (goodIn_r _ [17, 18, 19, 20] rfl (by decide +kernel)) ggX10_ground_X9_isTaken
set_option maxRecDepth 20000 in
theorem ggX10_ground_X8_at : GoodIn wsX10_ground wsX8_at := goodIn_r _ [27, 28, 55] rfl (by decide +kernel)
set_option maxRecDepth 20000 in
theorem gX10_ground_X8_at : GoodIn wsX10_ground (wsV RX10 109 RX8 yX8_at wsX8_at) := goodIn_app (goodIn_r _ [29, 24, 25, 26] rfl (by decide +kernel)) ggX10_ground_X8_at
set_option maxRecDepth 20000 in
theorem ggX10_ground_X8_put : GoodIn wsX10_ground wsX8_put := goodIn_r _ [33, 28, 55] rfl (by decide +kernel)
set_option maxRecDepth 20000 in
theorem gX10_ground_X8_put : GoodIn wsX10_ground (wsV RX10 115 RX8 yX8_put wsX8_put) := goodIn_app (goodIn_r _ [30, 31, 32, 26] rfl (by decide +kernel)) ggX10_ground_X8_put
theorem dX10_ground_0 : decode cX10_ground 0 = .ok (.iload_n 1, 1) := by decide +kernel
theorem dX10_ground_1 : decode cX10_ground 1 = .ok (.iload_n 2, 1) := by decide +kernel
theorem dX10_ground_2 : decode cX10_ground 2 = .ok (.invokestatic 81, 3) := by decide +kernel
theorem dX10_ground_5 : decode cX10_ground 5 = .ok (.istore 6, 2) := by decide +kernel
theorem dX10_ground_7 : decode cX10_ground 7 = .ok (.iload 6, 2) := by decide +kernel
theorem dX10_ground_9 : decode cX10_ground 9 = .ok (.iconst (-1), 1) := by decide +kernel
theorem dX10_ground_10 : decode cX10_ground 10 = .ok (.if_icmp .eq 35, 3) := by decide +kernel
theorem dX10_ground_13 : decode cX10_ground 13 = .ok (.iload_n 3, 1) := by decide +kernel
theorem dX10_ground_14 : decode cX10_ground 14 = .ok (.iconst 0, 1) := by decide +kernel
theorem dX10_ground_15 : decode cX10_ground 15 = .ok (.bipush 9, 2) := by decide +kernel
theorem dX10_ground_17 : decode cX10_ground 17 = .ok (.invokestatic 85, 3) := by decide +kernel
theorem dX10_ground_20 : decode cX10_ground 20 = .ok (.ifCond .eq 25, 3) := by decide +kernel
theorem dX10_ground_23 : decode cX10_ground 23 = .ok (.iload 4, 2) := by decide +kernel
theorem dX10_ground_25 : decode cX10_ground 25 = .ok (.iconst 0, 1) := by decide +kernel
theorem dX10_ground_26 : decode cX10_ground 26 = .ok (.bipush 99, 2) := by decide +kernel
theorem dX10_ground_28 : decode cX10_ground 28 = .ok (.invokestatic 85, 3) := by decide +kernel
theorem dX10_ground_31 : decode cX10_ground 31 = .ok (.ifCond .eq 14, 3) := by decide +kernel
theorem dX10_ground_34 : decode cX10_ground 34 = .ok (.iload 5, 2) := by decide +kernel
theorem dX10_ground_36 : decode cX10_ground 36 = .ok (.iconst 0, 1) := by decide +kernel
theorem dX10_ground_37 : decode cX10_ground 37 = .ok (.bipush 9, 2) := by decide +kernel
theorem dX10_ground_39 : decode cX10_ground 39 = .ok (.invokestatic 85, 3) := by decide +kernel
theorem dX10_ground_42 : decode cX10_ground 42 = .ok (.ifCond .ne 13, 3) := by decide +kernel
theorem dX10_ground_45 : decode cX10_ground 45 = .ok (.new 89, 3) := by decide +kernel
theorem dX10_ground_48 : decode cX10_ground 48 = .ok (.dup, 1) := by decide +kernel
theorem dX10_ground_49 : decode cX10_ground 49 = .ok (.ldc 91, 2) := by decide +kernel
theorem dX10_ground_51 : decode cX10_ground 51 = .ok (.invokespecial 93, 3) := by decide +kernel
theorem dX10_ground_54 : decode cX10_ground 54 = .ok (.athrow, 1) := by decide +kernel
theorem dX10_ground_55 : decode cX10_ground 55 = .ok (.aload_n 0, 1) := by decide +kernel
theorem dX10_ground_56 : decode cX10_ground 56 = .ok (.getfield 31, 3) := by decide +kernel
theorem dX10_ground_59 : decode cX10_ground 59 = .ok (.iload 6, 2) := by decide +kernel
theorem dX10_ground_61 : decode cX10_ground 61 = .ok (.iconst (-1), 1) := by decide +kernel
theorem dX10_ground_62 : decode cX10_ground 62 = .ok (.invokevirtual 96, 3) := by decide +kernel
theorem dX10_ground_65 : decode cX10_ground 65 = .ok (.ifCond .eq 13, 3) := by decide +kernel
theorem dX10_ground_68 : decode cX10_ground 68 = .ok (.new 100, 3) := by decide +kernel
theorem dX10_ground_71 : decode cX10_ground 71 = .ok (.dup, 1) := by decide +kernel
theorem dX10_ground_72 : decode cX10_ground 72 = .ok (.ldc 102, 2) := by decide +kernel
theorem dX10_ground_74 : decode cX10_ground 74 = .ok (.invokespecial 104, 3) := by decide +kernel
theorem dX10_ground_77 : decode cX10_ground 77 = .ok (.athrow, 1) := by decide +kernel
theorem dX10_ground_78 : decode cX10_ground 78 = .ok (.aload_n 0, 1) := by decide +kernel
theorem dX10_ground_79 : decode cX10_ground 79 = .ok (.getfield 15, 3) := by decide +kernel
theorem dX10_ground_82 : decode cX10_ground 82 = .ok (.getfield 105, 3) := by decide +kernel
theorem dX10_ground_85 : decode cX10_ground 85 = .ok (.iload 6, 2) := by decide +kernel
theorem dX10_ground_87 : decode cX10_ground 87 = .ok (.invokevirtual 109, 3) := by decide +kernel
theorem dX10_ground_90 : decode cX10_ground 90 = .ok (.istore 7, 2) := by decide +kernel
theorem dX10_ground_92 : decode cX10_ground 92 = .ok (.aload_n 0, 1) := by decide +kernel
theorem dX10_ground_93 : decode cX10_ground 93 = .ok (.getfield 15, 3) := by decide +kernel
theorem dX10_ground_96 : decode cX10_ground 96 = .ok (.getfield 105, 3) := by decide +kernel
theorem dX10_ground_99 : decode cX10_ground 99 = .ok (.iload 6, 2) := by decide +kernel
theorem dX10_ground_101 : decode cX10_ground 101 = .ok (.iload_n 3, 1) := by decide +kernel
theorem dX10_ground_102 : decode cX10_ground 102 = .ok (.invokevirtual 115, 3) := by decide +kernel
theorem dX10_ground_105 : decode cX10_ground 105 = .ok (.aload_n 0, 1) := by decide +kernel
theorem dX10_ground_106 : decode cX10_ground 106 = .ok (.getfield 15, 3) := by decide +kernel
theorem dX10_ground_109 : decode cX10_ground 109 = .ok (.getfield 119, 3) := by decide +kernel
theorem dX10_ground_112 : decode cX10_ground 112 = .ok (.iload 6, 2) := by decide +kernel
theorem dX10_ground_114 : decode cX10_ground 114 = .ok (.iload 4, 2) := by decide +kernel
theorem dX10_ground_116 : decode cX10_ground 116 = .ok (.invokevirtual 115, 3) := by decide +kernel
theorem dX10_ground_119 : decode cX10_ground 119 = .ok (.aload_n 0, 1) := by decide +kernel
theorem dX10_ground_120 : decode cX10_ground 120 = .ok (.getfield 15, 3) := by decide +kernel
theorem dX10_ground_123 : decode cX10_ground 123 = .ok (.getfield 122, 3) := by decide +kernel
theorem dX10_ground_126 : decode cX10_ground 126 = .ok (.iload 6, 2) := by decide +kernel
theorem dX10_ground_128 : decode cX10_ground 128 = .ok (.iload 5, 2) := by decide +kernel
theorem dX10_ground_130 : decode cX10_ground 130 = .ok (.invokevirtual 115, 3) := by decide +kernel
theorem dX10_ground_133 : decode cX10_ground 133 = .ok (.iload 7, 2) := by decide +kernel
theorem dX10_ground_135 : decode cX10_ground 135 = .ok (.ireturn, 1) := by decide +kernel
set_option maxRecDepth 20000 in
theorem ggX10_chart_X10_pointAt : GoodIn wsX10_chart wsX10_pointAt := goodIn_r _ [8] rfl (by decide +kernel)
set_option maxRecDepth 20000 in
theorem gX10_chart_X10_pointAt : GoodIn wsX10_chart (va_wsS RX10 81 yX10_pointAt wsX10_pointAt) := goodIn_app (goodIn_r _ [5, 6, 7] rfl (by decide +kernel)) ggX10_chart_X10_pointAt
set_option maxRecDepth 20000 in
theorem ggX10_chart_X10_isWithin : GoodIn wsX10_chart wsX10_isWithin := goodIn_r _ [11] rfl (by decide +kernel)
set_option maxRecDepth 20000 in
theorem gX10_chart_X10_isWithin : GoodIn wsX10_chart (va_wsS RX10 85 yX10_isWithin wsX10_isWithin) := goodIn_app (goodIn_r _ [9, 10, 7] rfl (by decide +kernel)) ggX10_chart_X10_isWithin
set_option maxRecDepth 20000 in
theorem ggX10_chart_X8_at : GoodIn wsX10_chart wsX8_at := goodIn_r _ [16, 17, 37] rfl (by decide +kernel)
set_option maxRecDepth 20000 in
theorem gX10_chart_X8_at : GoodIn wsX10_chart (wsV RX10 109 RX8 yX8_at wsX8_at) := goodIn_app (goodIn_r _ [12, 13, 14, 15] rfl (by decide +kernel)) ggX10_chart_X8_at
set_option maxRecDepth 20000 in
theorem ggX10_chart_X8_put : GoodIn wsX10_chart wsX8_put := goodIn_r _ [21, 17, 37] rfl (by decide +kernel)
set_option maxRecDepth 20000 in
theorem gX10_chart_X8_put : GoodIn wsX10_chart (wsV RX10 115 RX8 yX8_put wsX8_put) := goodIn_app (goodIn_r _ [18, 19, 20, 15] rfl (by decide +kernel)) ggX10_chart_X8_put
theorem dX10_chart_0 : decode cX10_chart 0 = .ok (.iload_n 1, 1) := by decide +kernel
theorem dX10_chart_1 : decode cX10_chart 1 = .ok (.iload_n 2, 1) := by decide +kernel
theorem dX10_chart_2 : decode cX10_chart 2 = .ok (.invokestatic 81, 3) := by decide +kernel
theorem dX10_chart_5 : decode cX10_chart 5 = .ok (.istore 4, 2) := by decide +kernel
theorem dX10_chart_7 : decode cX10_chart 7 = .ok (.iload 4, 2) := by decide +kernel
theorem dX10_chart_9 : decode cX10_chart 9 = .ok (.iconst (-1), 1) := by decide +kernel
theorem dX10_chart_10 : decode cX10_chart 10 = .ok (.if_icmp .eq 13, 3) := by decide +kernel
theorem dX10_chart_13 : decode cX10_chart 13 = .ok (.iload_n 3, 1) := by decide +kernel
theorem dX10_chart_14 : decode cX10_chart 14 = .ok (.iconst 0, 1) := by decide +kernel
theorem dX10_chart_15 : decode cX10_chart 15 = .ok (.bipush 9, 2) := by decide +kernel
theorem dX10_chart_17 : decode cX10_chart 17 = .ok (.invokestatic 85, 3) := by decide +kernel
theorem dX10_chart_20 : decode cX10_chart 20 = .ok (.ifCond .ne 13, 3) := by decide +kernel
theorem dX10_chart_23 : decode cX10_chart 23 = .ok (.new 89, 3) := by decide +kernel
theorem dX10_chart_26 : decode cX10_chart 26 = .ok (.dup, 1) := by decide +kernel
theorem dX10_chart_27 : decode cX10_chart 27 = .ok (.ldc 125, 2) := by decide +kernel
theorem dX10_chart_29 : decode cX10_chart 29 = .ok (.invokespecial 93, 3) := by decide +kernel
theorem dX10_chart_32 : decode cX10_chart 32 = .ok (.athrow, 1) := by decide +kernel
theorem dX10_chart_33 : decode cX10_chart 33 = .ok (.aload_n 0, 1) := by decide +kernel
theorem dX10_chart_34 : decode cX10_chart 34 = .ok (.getfield 15, 3) := by decide +kernel
theorem dX10_chart_37 : decode cX10_chart 37 = .ok (.getfield 127, 3) := by decide +kernel
theorem dX10_chart_40 : decode cX10_chart 40 = .ok (.iload 4, 2) := by decide +kernel
theorem dX10_chart_42 : decode cX10_chart 42 = .ok (.invokevirtual 109, 3) := by decide +kernel
theorem dX10_chart_45 : decode cX10_chart 45 = .ok (.istore 5, 2) := by decide +kernel
theorem dX10_chart_47 : decode cX10_chart 47 = .ok (.aload_n 0, 1) := by decide +kernel
theorem dX10_chart_48 : decode cX10_chart 48 = .ok (.getfield 15, 3) := by decide +kernel
theorem dX10_chart_51 : decode cX10_chart 51 = .ok (.getfield 127, 3) := by decide +kernel
theorem dX10_chart_54 : decode cX10_chart 54 = .ok (.iload 4, 2) := by decide +kernel
theorem dX10_chart_56 : decode cX10_chart 56 = .ok (.iload_n 3, 1) := by decide +kernel
theorem dX10_chart_57 : decode cX10_chart 57 = .ok (.invokevirtual 115, 3) := by decide +kernel
theorem dX10_chart_60 : decode cX10_chart 60 = .ok (.iload 5, 2) := by decide +kernel
theorem dX10_chart_62 : decode cX10_chart 62 = .ok (.ireturn, 1) := by decide +kernel
set_option maxRecDepth 20000 in
theorem ggX10_leg_X10_isAside : GoodIn wsX10_leg wsX10_isAside := goodIn_r _ [11, 12, 13, 10, 14] rfl (by decide +kernel)
set_option maxRecDepth 20000 in
theorem gX10_leg_X10_isAside : GoodIn wsX10_leg (va_wsS RX10 130 yX10_isAside wsX10_isAside) := goodIn_app (goodIn_r _ [8, 9, 10] rfl (by decide +kernel)) ggX10_leg_X10_isAside
set_option maxRecDepth 20000 in
theorem ggX10_leg_X10_isWithin : GoodIn wsX10_leg wsX10_isWithin := goodIn_r _ [14] rfl (by decide +kernel)
set_option maxRecDepth 20000 in
theorem gX10_leg_X10_isWithin : GoodIn wsX10_leg (va_wsS RX10 85 yX10_isWithin wsX10_isWithin) := goodIn_app (goodIn_r _ [12, 13, 10] rfl (by decide +kernel)) ggX10_leg_X10_isWithin
set_option maxRecDepth 20000 in
theorem ggX10_leg_X2_join : GoodIn wsX10_leg wsX2_join := goodIn_r _ [19, 20, 21, 22, 23, 24, 25, 26, 27, 28, 29, 41, 42, 43, 44, 45, 46, 47, 48] rfl (by decide +kernel)
set_option maxRecDepth 20000 in
theorem gX10_leg_X2_join : GoodIn wsX10_leg (wsV RX10 141 RX2 yX2_join wsX2_join) := goodIn_app (goodIn_r _ [15, 16, 17, 18] rfl (by decide +kernel)) ggX10_leg_X2_join
theorem dX10_leg_0 : decode cX10_leg 0 = .ok (.iload_n 1, 1) := by decide +kernel
theorem dX10_leg_1 : decode cX10_leg 1 = .ok (.invokestatic 130, 3) := by decide +kernel
theorem dX10_leg_4 : decode cX10_leg 4 = .ok (.ifCond .eq 20, 3) := by decide +kernel
theorem dX10_leg_7 : decode cX10_leg 7 = .ok (.iload_n 2, 1) := by decide +kernel
theorem dX10_leg_8 : decode cX10_leg 8 = .ok (.invokestatic 130, 3) := by decide +kernel
theorem dX10_leg_11 : decode cX10_leg 11 = .ok (.ifCond .eq 13, 3) := by decide +kernel
theorem dX10_leg_14 : decode cX10_leg 14 = .ok (.iload_n 3, 1) := by decide +kernel
theorem dX10_leg_15 : decode cX10_leg 15 = .ok (.iconst 1, 1) := by decide +kernel
theorem dX10_leg_16 : decode cX10_leg 16 = .ok (.bipush 6, 2) := by decide +kernel
theorem dX10_leg_18 : decode cX10_leg 18 = .ok (.invokestatic 85, 3) := by decide +kernel
theorem dX10_leg_21 : decode cX10_leg 21 = .ok (.ifCond .ne 13, 3) := by decide +kernel
theorem dX10_leg_24 : decode cX10_leg 24 = .ok (.new 89, 3) := by decide +kernel
theorem dX10_leg_27 : decode cX10_leg 27 = .ok (.dup, 1) := by decide +kernel
theorem dX10_leg_28 : decode cX10_leg 28 = .ok (.ldc 134, 2) := by decide +kernel
theorem dX10_leg_30 : decode cX10_leg 30 = .ok (.invokespecial 93, 3) := by decide +kernel
theorem dX10_leg_33 : decode cX10_leg 33 = .ok (.athrow, 1) := by decide +kernel
theorem dX10_leg_34 : decode cX10_leg 34 = .ok (.aload_n 0, 1) := by decide +kernel
theorem dX10_leg_35 : decode cX10_leg 35 = .ok (.getfield 73, 3) := by decide +kernel
theorem dX10_leg_38 : decode cX10_leg 38 = .ok (.ifCond .ne 15, 3) := by decide +kernel
theorem dX10_leg_41 : decode cX10_leg 41 = .ok (.aload_n 0, 1) := by decide +kernel
theorem dX10_leg_42 : decode cX10_leg 42 = .ok (.getfield 22, 3) := by decide +kernel
theorem dX10_leg_45 : decode cX10_leg 45 = .ok (.getfield 136, 3) := by decide +kernel
theorem dX10_leg_48 : decode cX10_leg 48 = .ok (.bipush 6, 2) := by decide +kernel
theorem dX10_leg_50 : decode cX10_leg 50 = .ok (.if_icmp .lt 13, 3) := by decide +kernel
theorem dX10_leg_53 : decode cX10_leg 53 = .ok (.new 100, 3) := by decide +kernel
theorem dX10_leg_56 : decode cX10_leg 56 = .ok (.dup, 1) := by decide +kernel
theorem dX10_leg_57 : decode cX10_leg 57 = .ok (.ldc 139, 2) := by decide +kernel
theorem dX10_leg_59 : decode cX10_leg 59 = .ok (.invokespecial 104, 3) := by decide +kernel
theorem dX10_leg_62 : decode cX10_leg 62 = .ok (.athrow, 1) := by decide +kernel
theorem dX10_leg_63 : decode cX10_leg 63 = .ok (.aload_n 0, 1) := by decide +kernel
theorem dX10_leg_64 : decode cX10_leg 64 = .ok (.getfield 22, 3) := by decide +kernel
theorem dX10_leg_67 : decode cX10_leg 67 = .ok (.iload_n 1, 1) := by decide +kernel
theorem dX10_leg_68 : decode cX10_leg 68 = .ok (.iload_n 2, 1) := by decide +kernel
theorem dX10_leg_69 : decode cX10_leg 69 = .ok (.iload_n 3, 1) := by decide +kernel
theorem dX10_leg_70 : decode cX10_leg 70 = .ok (.invokevirtual 141, 3) := by decide +kernel
theorem dX10_leg_73 : decode cX10_leg 73 = .ok (.ireturn, 1) := by decide +kernel
set_option maxRecDepth 20000 in
theorem ggX10_charge_X10_isWithin : GoodIn wsX10_charge wsX10_isWithin := goodIn_r _ [11] rfl (by decide +kernel)
set_option maxRecDepth 20000 in
theorem gX10_charge_X10_isWithin : GoodIn wsX10_charge (va_wsS RX10 85 yX10_isWithin wsX10_isWithin) := goodIn_app (goodIn_r _ [8, 9, 10] rfl (by decide +kernel)) ggX10_charge_X10_isWithin
theorem dX10_charge_0 : decode cX10_charge 0 = .ok (.iload_n 1, 1) := by decide +kernel
theorem dX10_charge_1 : decode cX10_charge 1 = .ok (.iconst 1, 1) := by decide +kernel
theorem dX10_charge_2 : decode cX10_charge 2 = .ok (.sipush 1000, 3) := by decide +kernel
theorem dX10_charge_5 : decode cX10_charge 5 = .ok (.invokestatic 85, 3) := by decide +kernel
theorem dX10_charge_8 : decode cX10_charge 8 = .ok (.ifCond .ne 13, 3) := by decide +kernel
theorem dX10_charge_11 : decode cX10_charge 11 = .ok (.new 89, 3) := by decide +kernel
theorem dX10_charge_14 : decode cX10_charge 14 = .ok (.dup, 1) := by decide +kernel
theorem dX10_charge_15 : decode cX10_charge 15 = .ok (.ldc 145, 2) := by decide +kernel
theorem dX10_charge_17 : decode cX10_charge 17 = .ok (.invokespecial 93, 3) := by decide +kernel
theorem dX10_charge_20 : decode cX10_charge 20 = .ok (.athrow, 1) := by decide +kernel
theorem dX10_charge_21 : decode cX10_charge 21 = .ok (.aload_n 0, 1) := by decide +kernel
theorem dX10_charge_22 : decode cX10_charge 22 = .ok (.sipush 1000, 3) := by decide +kernel
theorem dX10_charge_25 : decode cX10_charge 25 = .ok (.aload_n 0, 1) := by decide +kernel
theorem dX10_charge_26 : decode cX10_charge 26 = .ok (.getfield 77, 3) := by decide +kernel
theorem dX10_charge_29 : decode cX10_charge 29 = .ok (.iload_n 1, 1) := by decide +kernel
theorem dX10_charge_30 : decode cX10_charge 30 = .ok (.iadd, 1) := by decide +kernel
theorem dX10_charge_31 : decode cX10_charge 31 = .ok (.invokestatic 147, 3) := by decide +kernel
theorem dX10_charge_34 : decode cX10_charge 34 = .ok (.putfield 77, 3) := by decide +kernel
theorem dX10_charge_37 : decode cX10_charge 37 = .ok (.aload_n 0, 1) := by decide +kernel
theorem dX10_charge_38 : decode cX10_charge 38 = .ok (.getfield 77, 3) := by decide +kernel
theorem dX10_charge_41 : decode cX10_charge 41 = .ok (.ireturn, 1) := by decide +kernel
set_option maxRecDepth 20000 in
theorem ggX10_phase_X10_isLeg : GoodIn wsX10_phase wsX10_isLeg := goodIn_r _ [13, 14, 15, 36, 37, 38, 39, 40, 41, 42, 43, 44, 45, 46, 54, 55, 56, 57, 58, 59, 60] rfl (by decide +kernel)
set_option maxRecDepth 20000 in
theorem gX10_phase_X10_isLeg : GoodIn wsX10_phase (wsV RX10 152 RX10 yX10_isLeg wsX10_isLeg) := goodIn_app (goodIn_r _ [9, 10, 11, 12] rfl (by decide +kernel)) ggX10_phase_X10_isLeg
set_option maxRecDepth 20000 in
theorem ggX10_phase_X10_isWithin : GoodIn wsX10_phase wsX10_isWithin := goodIn_r _ [18] rfl (by decide +kernel)
set_option maxRecDepth 20000 in
theorem gX10_phase_X10_isWithin : GoodIn wsX10_phase (va_wsS RX10 85 yX10_isWithin wsX10_isWithin) := goodIn_app (goodIn_r _ [16, 17, 12] rfl (by decide +kernel)) ggX10_phase_X10_isWithin
set_option maxRecDepth 20000 in
theorem ggX10_phase_X3_add : GoodIn wsX10_phase wsX3_add := goodIn_r _ [23, 24, 25, 26, 27, 28, 29, 30, 31, 32, 33, 34, 35, 47, 48, 49, 50, 51, 52, 53, 61] rfl (by decide +kernel)
set_option maxRecDepth 20000 in
theorem gX10_phase_X3_add : GoodIn wsX10_phase (wsV RX10 167 RX3 yX3_add wsX3_add) := goodIn_app (goodIn_r _ [19, 20, 21, 22] rfl (by decide +kernel)) ggX10_phase_X3_add
theorem dX10_phase_0 : decode cX10_phase 0 = .ok (.aload_n 0, 1) := by decide +kernel
theorem dX10_phase_1 : decode cX10_phase 1 = .ok (.iload_n 1, 1) := by decide +kernel
theorem dX10_phase_2 : decode cX10_phase 2 = .ok (.invokevirtual 152, 3) := by decide +kernel
theorem dX10_phase_5 : decode cX10_phase 5 = .ok (.ifCond .ne 13, 3) := by decide +kernel
theorem dX10_phase_8 : decode cX10_phase 8 = .ok (.new 155, 3) := by decide +kernel
theorem dX10_phase_11 : decode cX10_phase 11 = .ok (.dup, 1) := by decide +kernel
theorem dX10_phase_12 : decode cX10_phase 12 = .ok (.ldc 157, 2) := by decide +kernel
theorem dX10_phase_14 : decode cX10_phase 14 = .ok (.invokespecial 159, 3) := by decide +kernel
theorem dX10_phase_17 : decode cX10_phase 17 = .ok (.athrow, 1) := by decide +kernel
theorem dX10_phase_18 : decode cX10_phase 18 = .ok (.iload_n 2, 1) := by decide +kernel
theorem dX10_phase_19 : decode cX10_phase 19 = .ok (.bipush (-6), 2) := by decide +kernel
theorem dX10_phase_21 : decode cX10_phase 21 = .ok (.bipush 6, 2) := by decide +kernel
theorem dX10_phase_23 : decode cX10_phase 23 = .ok (.invokestatic 85, 3) := by decide +kernel
theorem dX10_phase_26 : decode cX10_phase 26 = .ok (.ifCond .eq 34, 3) := by decide +kernel
theorem dX10_phase_29 : decode cX10_phase 29 = .ok (.iload_n 3, 1) := by decide +kernel
theorem dX10_phase_30 : decode cX10_phase 30 = .ok (.bipush (-6), 2) := by decide +kernel
theorem dX10_phase_32 : decode cX10_phase 32 = .ok (.bipush 6, 2) := by decide +kernel
theorem dX10_phase_34 : decode cX10_phase 34 = .ok (.invokestatic 85, 3) := by decide +kernel
theorem dX10_phase_37 : decode cX10_phase 37 = .ok (.ifCond .eq 23, 3) := by decide +kernel
theorem dX10_phase_40 : decode cX10_phase 40 = .ok (.iload 4, 2) := by decide +kernel
theorem dX10_phase_42 : decode cX10_phase 42 = .ok (.iconst (-1), 1) := by decide +kernel
theorem dX10_phase_43 : decode cX10_phase 43 = .ok (.iconst 1, 1) := by decide +kernel
theorem dX10_phase_44 : decode cX10_phase 44 = .ok (.invokestatic 85, 3) := by decide +kernel
theorem dX10_phase_47 : decode cX10_phase 47 = .ok (.ifCond .eq 13, 3) := by decide +kernel
theorem dX10_phase_50 : decode cX10_phase 50 = .ok (.iload 5, 2) := by decide +kernel
theorem dX10_phase_52 : decode cX10_phase 52 = .ok (.iconst (-1), 1) := by decide +kernel
theorem dX10_phase_53 : decode cX10_phase 53 = .ok (.iconst 1, 1) := by decide +kernel
theorem dX10_phase_54 : decode cX10_phase 54 = .ok (.invokestatic 85, 3) := by decide +kernel
theorem dX10_phase_57 : decode cX10_phase 57 = .ok (.ifCond .ne 13, 3) := by decide +kernel
theorem dX10_phase_60 : decode cX10_phase 60 = .ok (.new 89, 3) := by decide +kernel
theorem dX10_phase_63 : decode cX10_phase 63 = .ok (.dup, 1) := by decide +kernel
theorem dX10_phase_64 : decode cX10_phase 64 = .ok (.ldc 160, 2) := by decide +kernel
theorem dX10_phase_66 : decode cX10_phase 66 = .ok (.invokespecial 93, 3) := by decide +kernel
theorem dX10_phase_69 : decode cX10_phase 69 = .ok (.athrow, 1) := by decide +kernel
theorem dX10_phase_70 : decode cX10_phase 70 = .ok (.aload_n 0, 1) := by decide +kernel
theorem dX10_phase_71 : decode cX10_phase 71 = .ok (.getfield 62, 3) := by decide +kernel
theorem dX10_phase_74 : decode cX10_phase 74 = .ok (.getfield 162, 3) := by decide +kernel
theorem dX10_phase_77 : decode cX10_phase 77 = .ok (.bipush 8, 2) := by decide +kernel
theorem dX10_phase_79 : decode cX10_phase 79 = .ok (.if_icmp .lt 13, 3) := by decide +kernel
theorem dX10_phase_82 : decode cX10_phase 82 = .ok (.new 100, 3) := by decide +kernel
theorem dX10_phase_85 : decode cX10_phase 85 = .ok (.dup, 1) := by decide +kernel
theorem dX10_phase_86 : decode cX10_phase 86 = .ok (.ldc 165, 2) := by decide +kernel
theorem dX10_phase_88 : decode cX10_phase 88 = .ok (.invokespecial 104, 3) := by decide +kernel
theorem dX10_phase_91 : decode cX10_phase 91 = .ok (.athrow, 1) := by decide +kernel
theorem dX10_phase_92 : decode cX10_phase 92 = .ok (.aload_n 0, 1) := by decide +kernel
theorem dX10_phase_93 : decode cX10_phase 93 = .ok (.getfield 62, 3) := by decide +kernel
theorem dX10_phase_96 : decode cX10_phase 96 = .ok (.iload_n 1, 1) := by decide +kernel
theorem dX10_phase_97 : decode cX10_phase 97 = .ok (.iload_n 2, 1) := by decide +kernel
theorem dX10_phase_98 : decode cX10_phase 98 = .ok (.iload_n 3, 1) := by decide +kernel
theorem dX10_phase_99 : decode cX10_phase 99 = .ok (.iload 4, 2) := by decide +kernel
theorem dX10_phase_101 : decode cX10_phase 101 = .ok (.iload 5, 2) := by decide +kernel
theorem dX10_phase_103 : decode cX10_phase 103 = .ok (.invokevirtual 167, 3) := by decide +kernel
theorem dX10_phase_106 : decode cX10_phase 106 = .ok (.ireturn, 1) := by decide +kernel
set_option maxRecDepth 20000 in
theorem ggX10_halt_X3_clear : GoodIn wsX10_halt wsX3_clear := goodIn_r _ [7, 8, 9, 21, 22, 23, 24, 25, 26, 27] rfl (by decide +kernel)
set_option maxRecDepth 20000 in
theorem gX10_halt_X3_clear : GoodIn wsX10_halt (wsV RX10 171 RX3 yX3_clear wsX3_clear) := goodIn_app (goodIn_r _ [3, 4, 5, 6] rfl (by decide +kernel)) ggX10_halt_X3_clear
theorem dX10_halt_0 : decode cX10_halt 0 = .ok (.aload_n 0, 1) := by decide +kernel
theorem dX10_halt_1 : decode cX10_halt 1 = .ok (.getfield 62, 3) := by decide +kernel
theorem dX10_halt_4 : decode cX10_halt 4 = .ok (.getfield 162, 3) := by decide +kernel
theorem dX10_halt_7 : decode cX10_halt 7 = .ok (.istore_n 1, 1) := by decide +kernel
theorem dX10_halt_8 : decode cX10_halt 8 = .ok (.aload_n 0, 1) := by decide +kernel
theorem dX10_halt_9 : decode cX10_halt 9 = .ok (.getfield 62, 3) := by decide +kernel
theorem dX10_halt_12 : decode cX10_halt 12 = .ok (.invokevirtual 171, 3) := by decide +kernel
theorem dX10_halt_15 : decode cX10_halt 15 = .ok (.iload_n 1, 1) := by decide +kernel
theorem dX10_halt_16 : decode cX10_halt 16 = .ok (.ireturn, 1) := by decide +kernel
set_option maxRecDepth 20000 in
theorem ggX10_load_X10_isWithin : GoodIn wsX10_load wsX10_isWithin := goodIn_r _ [8] rfl (by decide +kernel)
set_option maxRecDepth 20000 in
theorem gX10_load_X10_isWithin : GoodIn wsX10_load (va_wsS RX10 85 yX10_isWithin wsX10_isWithin) := goodIn_app (goodIn_r _ [5, 6, 7] rfl (by decide +kernel)) ggX10_load_X10_isWithin
set_option maxRecDepth 20000 in
theorem ggX10_load_X10_isAside : GoodIn wsX10_load wsX10_isAside := goodIn_r _ [11, 5, 6, 7, 8] rfl (by decide +kernel)
set_option maxRecDepth 20000 in
theorem gX10_load_X10_isAside : GoodIn wsX10_load (va_wsS RX10 130 yX10_isAside wsX10_isAside) := goodIn_app (goodIn_r _ [9, 10, 7] rfl (by decide +kernel)) ggX10_load_X10_isAside
set_option maxRecDepth 20000 in
theorem ggX10_load_X10_takeLoad : GoodIn wsX10_load wsX10_takeLoad := goodIn_r _ [15, 16, 17, 18, 19, 20, 21, 22, 23, 24, 25, 26, 27, 28, 29, 30, 31, 32, 33, 34, 35, 36, 37, 38, 39, 40, 41, 42, 43, 44, 45, 46, 47, 48, 49, 50, 51, 52, 53, 54, 55, 56, 57, 58, 59, 60, 61, 62, 63, 64, 65, 66, 67, 68, 69, 70, 71, 72, 73, 74, 75, 76, 77, 78, 79, 80, 81, 82, 83, 84, 85, 86, 87, 88, 89, 90, 91, 92, 6, 7, 8, 93, 94, 95, 96, 97, 98, 191, 192, 193, 194, 195, 196, 197, 198, 199, 200, 201, 202, 203, 204, 205, 206, 207, 208, 209, 210, 211, 212, 213, 214, 215, 216, 217, 218, 219, 220, 221, 222] rfl (by decide +kernel)
set_option maxRecDepth 20000 in
theorem gX10_load_X10_takeLoad : GoodIn wsX10_load (wsV RX10 176 RX10 yX10_takeLoad wsX10_takeLoad) := goodIn_app (goodIn_r _ [12, 13, 14, 7] rfl (by decide +kernel)) ggX10_load_X10_takeLoad
set_option maxRecDepth 20000 in
theorem ggX10_load_X10_settled : GoodIn wsX10_load wsX10_settled := goodIn_r _ [102, 20, 21, 22, 103, 104, 105, 106, 34, 107, 37, 108, 109, 110, 111, 112, 113, 38, 77, 78, 79, 26, 80, 28, 114, 115, 116, 117, 118, 52, 53, 54, 55, 56, 119, 7, 120, 121, 122, 123, 124, 125, 126, 127, 128, 129, 130, 131, 132, 133, 134, 88, 47, 89, 135, 136, 58, 59, 60, 137, 138, 139, 140, 141, 142, 143, 144, 96, 145, 146, 147, 148, 98, 149, 150, 151, 152, 153, 31, 32, 33, 35, 36, 39, 40, 41, 42, 43, 44, 45, 46, 48, 49, 50, 51, 57, 61, 62, 63, 64, 65, 66, 67, 68, 69, 70, 71, 72, 73, 74, 75, 76, 81, 82, 83, 84, 85, 86, 87, 90, 91, 92, 6, 8, 154, 155, 156, 157, 158, 159, 160, 161, 162, 163, 164, 165, 166, 167, 168, 169, 170, 171, 172, 173, 174, 175, 176, 177, 178, 179, 180, 181, 182, 183, 184, 185, 186, 187, 188, 189, 190, 191, 192, 193, 194, 195, 196, 197, 198, 199, 200, 201, 219, 220, 221, 222, 209, 210, 211, 212, 213, 214, 223, 224, 225, 226, 202, 203, 204, 205, 206, 207, 208, 218, 215, 216, 217, 227, 228, 229, 230] rfl (by decide +kernel)
set_option maxRecDepth 20000 in
theorem gX10_load_X10_settled : GoodIn wsX10_load (wsV RX10 181 RX10 yX10_settled wsX10_settled) := goodIn_app (goodIn_r _ [99, 100, 101, 7] rfl (by decide +kernel)) ggX10_load_X10_settled
theorem dX10_load_0 : decode cX10_load 0 = .ok (.iload_n 1, 1) := by decide +kernel
theorem dX10_load_1 : decode cX10_load 1 = .ok (.iconst 0, 1) := by decide +kernel
theorem dX10_load_2 : decode cX10_load 2 = .ok (.bipush 20, 2) := by decide +kernel
theorem dX10_load_4 : decode cX10_load 4 = .ok (.invokestatic 85, 3) := by decide +kernel
theorem dX10_load_7 : decode cX10_load 7 = .ok (.ifCond .eq 17, 3) := by decide +kernel
theorem dX10_load_10 : decode cX10_load 10 = .ok (.iload_n 2, 1) := by decide +kernel
theorem dX10_load_11 : decode cX10_load 11 = .ok (.invokestatic 130, 3) := by decide +kernel
theorem dX10_load_14 : decode cX10_load 14 = .ok (.ifCond .eq 10, 3) := by decide +kernel
theorem dX10_load_17 : decode cX10_load 17 = .ok (.iload_n 3, 1) := by decide +kernel
theorem dX10_load_18 : decode cX10_load 18 = .ok (.invokestatic 130, 3) := by decide +kernel
theorem dX10_load_21 : decode cX10_load 21 = .ok (.ifCond .ne 13, 3) := by decide +kernel
theorem dX10_load_24 : decode cX10_load 24 = .ok (.new 89, 3) := by decide +kernel
theorem dX10_load_27 : decode cX10_load 27 = .ok (.dup, 1) := by decide +kernel
theorem dX10_load_28 : decode cX10_load 28 = .ok (.ldc 174, 2) := by decide +kernel
theorem dX10_load_30 : decode cX10_load 30 = .ok (.invokespecial 93, 3) := by decide +kernel
theorem dX10_load_33 : decode cX10_load 33 = .ok (.athrow, 1) := by decide +kernel
theorem dX10_load_34 : decode cX10_load 34 = .ok (.aload_n 0, 1) := by decide +kernel
theorem dX10_load_35 : decode cX10_load 35 = .ok (.iload_n 1, 1) := by decide +kernel
theorem dX10_load_36 : decode cX10_load 36 = .ok (.iload_n 2, 1) := by decide +kernel
theorem dX10_load_37 : decode cX10_load 37 = .ok (.iload_n 3, 1) := by decide +kernel
theorem dX10_load_38 : decode cX10_load 38 = .ok (.invokevirtual 176, 3) := by decide +kernel
theorem dX10_load_41 : decode cX10_load 41 = .ok (.ifCond .ne 13, 3) := by decide +kernel
theorem dX10_load_44 : decode cX10_load 44 = .ok (.new 100, 3) := by decide +kernel
theorem dX10_load_47 : decode cX10_load 47 = .ok (.dup, 1) := by decide +kernel
theorem dX10_load_48 : decode cX10_load 48 = .ok (.ldc 179, 2) := by decide +kernel
theorem dX10_load_50 : decode cX10_load 50 = .ok (.invokespecial 104, 3) := by decide +kernel
theorem dX10_load_53 : decode cX10_load 53 = .ok (.athrow, 1) := by decide +kernel
theorem dX10_load_54 : decode cX10_load 54 = .ok (.aload_n 0, 1) := by decide +kernel
theorem dX10_load_55 : decode cX10_load 55 = .ok (.invokevirtual 181, 3) := by decide +kernel
theorem dX10_load_58 : decode cX10_load 58 = .ok (.ireturn, 1) := by decide +kernel
set_option maxRecDepth 20000 in
theorem ggX10_rise_X10_getUp : GoodIn wsX10_rise wsX10_getUp := goodIn_r _ [8, 9, 10, 11, 12, 13, 3, 14, 15, 16, 7, 17, 18, 19, 20, 21, 22, 23, 24, 25, 26, 27, 28, 29, 30, 31, 32, 33, 34, 35, 36, 37, 38, 39, 40, 41, 42, 43, 44, 45, 46, 47, 48, 49, 50, 51, 52, 53, 54, 55, 56, 57, 58, 59, 60, 61, 62, 63, 64, 65, 66, 67, 68, 69, 70, 71, 72, 73, 74, 75, 76, 77, 78, 79, 80, 81, 82, 83, 84, 85, 86, 87, 88, 89, 90, 91, 92, 93, 94, 95, 96, 97, 98, 99, 100, 101, 102, 103, 104, 105, 106, 107, 108, 109, 110, 111, 112, 113, 114, 115, 116, 117, 118, 119, 120, 121, 122, 123, 124, 125, 126, 127, 128, 129, 130, 131, 132, 133, 134, 135, 136, 137, 138, 139, 140, 141, 142, 143, 144, 145, 146, 147, 148, 149, 150, 151, 152, 153, 154, 155, 156, 157, 158, 159, 160, 161, 162, 163, 164, 165, 166, 167, 238, 239, 240, 241, 242, 243, 244, 245, 246, 247, 248, 249, 250, 251, 252, 253, 254, 255, 256, 257, 258, 259, 260, 261, 262, 263, 264, 265, 266, 267, 268, 269, 270, 271, 272, 273] rfl (by decide +kernel)
set_option maxRecDepth 20000 in
theorem gX10_rise_X10_getUp : GoodIn wsX10_rise (wsV RX10 185 RX10 yX10_getUp wsX10_getUp) := goodIn_app (goodIn_r _ [4, 5, 6, 7] rfl (by decide +kernel)) ggX10_rise_X10_getUp
set_option maxRecDepth 20000 in
theorem ggX10_rise_X10_settled : GoodIn wsX10_rise wsX10_settled := goodIn_r _ [171, 9, 3, 11, 172, 173, 174, 175, 32, 176, 36, 177, 178, 179, 180, 181, 182, 51, 101, 102, 103, 104, 105, 106, 183, 184, 185, 186, 53, 44, 45, 40, 46, 42, 187, 7, 188, 189, 190, 191, 192, 19, 20, 70, 193, 194, 195, 139, 196, 142, 197, 27, 24, 28, 143, 144, 67, 68, 69, 198, 137, 138, 140, 141, 145, 146, 147, 122, 148, 124, 125, 126, 127, 199, 200, 201, 202, 203, 71, 72, 73, 74, 75, 76, 77, 78, 79, 80, 81, 82, 23, 25, 83, 84, 85, 86, 87, 88, 89, 90, 91, 92, 93, 34, 94, 95, 96, 97, 98, 99, 35, 100, 107, 108, 109, 110, 111, 112, 113, 114, 115, 116, 117, 118, 204, 205, 206, 207, 208, 209, 210, 211, 212, 213, 214, 157, 158, 159, 160, 215, 216, 217, 218, 219, 220, 221, 222, 223, 224, 225, 226, 227, 228, 229, 230, 231, 232, 233, 234, 235, 236, 238, 239, 240, 241, 242, 243, 244, 245, 246, 247, 248, 270, 271, 272, 273, 256, 257, 258, 259, 260, 261, 262, 263, 264, 265, 249, 250, 251, 252, 253, 254, 255, 266, 267, 268, 269, 274, 275, 276, 277] rfl (by decide +kernel)
set_option maxRecDepth 20000 in
theorem gX10_rise_X10_settled : GoodIn wsX10_rise (wsV RX10 181 RX10 yX10_settled wsX10_settled) := goodIn_app (goodIn_r _ [168, 169, 170, 7] rfl (by decide +kernel)) ggX10_rise_X10_settled
set_option maxRecDepth 20000 in
theorem ggX10_rise_X9_down : GoodIn wsX10_rise wsX9_down := goodIn_r _ [186, 36, 53, 44, 45, 40, 46, 42, 256, 257, 258, 259, 260, 261, 266] rfl (by decide +kernel)
set_option maxRecDepth 20000 in
theorem gX10_rise_X9_down : GoodIn wsX10_rise (wsV RX10 189 RX9 yX9_down wsX9_down) := goodIn_app (goodIn_r _ [237, 184, 185, 32] rfl (by decide +kernel)) ggX10_rise_X9_down
theorem dX10_rise_0 : decode cX10_rise 0 = .ok (.aload_n 0, 1) := by decide +kernel
theorem dX10_rise_1 : decode cX10_rise 1 = .ok (.invokevirtual 185, 3) := by decide +kernel
theorem dX10_rise_4 : decode cX10_rise 4 = .ok (.ifCond .ne 13, 3) := by decide +kernel
theorem dX10_rise_7 : decode cX10_rise 7 = .ok (.new 100, 3) := by decide +kernel
theorem dX10_rise_10 : decode cX10_rise 10 = .ok (.dup, 1) := by decide +kernel
theorem dX10_rise_11 : decode cX10_rise 11 = .ok (.ldc 179, 2) := by decide +kernel
theorem dX10_rise_13 : decode cX10_rise 13 = .ok (.invokespecial 104, 3) := by decide +kernel
theorem dX10_rise_16 : decode cX10_rise 16 = .ok (.athrow, 1) := by decide +kernel
theorem dX10_rise_17 : decode cX10_rise 17 = .ok (.aload_n 0, 1) := by decide +kernel
theorem dX10_rise_18 : decode cX10_rise 18 = .ok (.invokevirtual 181, 3) := by decide +kernel
theorem dX10_rise_21 : decode cX10_rise 21 = .ok (.pop, 1) := by decide +kernel
theorem dX10_rise_22 : decode cX10_rise 22 = .ok (.aload_n 0, 1) := by decide +kernel
theorem dX10_rise_23 : decode cX10_rise 23 = .ok (.getfield 31, 3) := by decide +kernel
theorem dX10_rise_26 : decode cX10_rise 26 = .ok (.invokevirtual 189, 3) := by decide +kernel
theorem dX10_rise_29 : decode cX10_rise 29 = .ok (.ireturn, 1) := by decide +kernel
set_option maxRecDepth 20000 in
theorem ggX10_lift_X10_isLeg : GoodIn wsX10_lift wsX10_isLeg := goodIn_r _ [9, 10, 11, 189, 190, 191, 192, 193, 194, 195, 196, 197, 198, 199, 200, 201, 202, 203, 204, 205, 206] rfl (by decide +kernel)
set_option maxRecDepth 20000 in
theorem gX10_lift_X10_isLeg : GoodIn wsX10_lift (wsV RX10 152 RX10 yX10_isLeg wsX10_isLeg) := goodIn_app (goodIn_r _ [5, 6, 7, 8] rfl (by decide +kernel)) ggX10_lift_X10_isLeg
set_option maxRecDepth 20000 in
theorem ggX10_lift_X10_liftFoot : GoodIn wsX10_lift wsX10_liftFoot := goodIn_r _ [15, 16, 17, 18, 19, 20, 21, 22, 8, 23, 24, 25, 26, 27, 28, 29, 30, 31, 32, 33, 34, 35, 36, 37, 38, 39, 40, 41, 42, 43, 44, 45, 46, 47, 48, 49, 50, 51, 52, 53, 54, 55, 56, 57, 58, 59, 60, 61, 62, 63, 64, 65, 66, 67, 68, 69, 70, 71, 72, 73, 74, 75, 76, 77, 78, 79, 80, 81, 82, 83, 84, 85, 86, 87, 88, 89, 90, 91, 92, 93, 94, 95, 96, 97, 98, 189, 190, 191, 192, 193, 194, 195, 196, 197, 198, 199, 207, 208, 209, 210, 211, 212, 213, 214, 215, 216, 200, 201, 202, 203, 204, 205, 206, 217, 218, 219, 220] rfl (by decide +kernel)
set_option maxRecDepth 20000 in
theorem gX10_lift_X10_liftFoot : GoodIn wsX10_lift (wsV RX10 192 RX10 yX10_liftFoot wsX10_liftFoot) := goodIn_app (goodIn_r _ [12, 13, 14, 8] rfl (by decide +kernel)) ggX10_lift_X10_liftFoot
set_option maxRecDepth 20000 in
theorem ggX10_lift_X10_settled : GoodIn wsX10_lift wsX10_settled := goodIn_r _ [102, 24, 18, 17, 103, 104, 105, 106, 34, 107, 37, 108, 109, 110, 111, 112, 113, 38, 72, 73, 74, 75, 76, 77, 114, 115, 116, 117, 118, 26, 27, 28, 29, 30, 119, 8, 120, 121, 122, 123, 124, 19, 125, 25, 126, 127, 128, 129, 130, 131, 132, 85, 47, 86, 133, 134, 53, 54, 55, 135, 136, 137, 138, 139, 140, 141, 142, 95, 143, 144, 145, 146, 97, 147, 148, 149, 150, 151, 31, 32, 33, 35, 36, 39, 40, 41, 42, 43, 44, 45, 46, 48, 49, 50, 51, 52, 56, 57, 58, 59, 60, 61, 62, 63, 64, 65, 66, 67, 68, 69, 70, 71, 78, 79, 80, 81, 82, 83, 84, 87, 88, 89, 90, 91, 152, 153, 154, 155, 156, 157, 158, 159, 160, 161, 162, 163, 164, 165, 166, 167, 168, 169, 170, 171, 172, 173, 174, 175, 176, 177, 178, 179, 180, 181, 182, 183, 184, 185, 186, 187, 188, 189, 190, 191, 192, 193, 194, 195, 196, 197, 198, 199, 217, 218, 219, 220, 207, 208, 209, 210, 211, 212, 221, 222, 223, 224, 200, 201, 202, 203, 204, 205, 206, 213, 214, 215, 216, 225, 226, 227, 228] rfl (by decide +kernel)
set_option maxRecDepth 20000 in
theorem gX10_lift_X10_settled : GoodIn wsX10_lift (wsV RX10 181 RX10 yX10_settled wsX10_settled) := goodIn_app (goodIn_r _ [99, 100, 101, 8] rfl (by decide +kernel)) ggX10_lift_X10_settled
theorem dX10_lift_0 : decode cX10_lift 0 = .ok (.aload_n 0, 1) := by decide +kernel
theorem dX10_lift_1 : decode cX10_lift 1 = .ok (.iload_n 1, 1) := by decide +kernel
theorem dX10_lift_2 : decode cX10_lift 2 = .ok (.invokevirtual 152, 3) := by decide +kernel
theorem dX10_lift_5 : decode cX10_lift 5 = .ok (.ifCond .ne 13, 3) := by decide +kernel
theorem dX10_lift_8 : decode cX10_lift 8 = .ok (.new 155, 3) := by decide +kernel
theorem dX10_lift_11 : decode cX10_lift 11 = .ok (.dup, 1) := by decide +kernel
theorem dX10_lift_12 : decode cX10_lift 12 = .ok (.ldc 157, 2) := by decide +kernel
theorem dX10_lift_14 : decode cX10_lift 14 = .ok (.invokespecial 159, 3) := by decide +kernel
theorem dX10_lift_17 : decode cX10_lift 17 = .ok (.athrow, 1) := by decide +kernel
theorem dX10_lift_18 : decode cX10_lift 18 = .ok (.aload_n 0, 1) := by decide +kernel
theorem dX10_lift_19 : decode cX10_lift 19 = .ok (.iload_n 1, 1) := by decide +kernel
theorem dX10_lift_20 : decode cX10_lift 20 = .ok (.invokevirtual 192, 3) := by decide +kernel
theorem dX10_lift_23 : decode cX10_lift 23 = .ok (.ifCond .ne 13, 3) := by decide +kernel
theorem dX10_lift_26 : decode cX10_lift 26 = .ok (.new 100, 3) := by decide +kernel
theorem dX10_lift_29 : decode cX10_lift 29 = .ok (.dup, 1) := by decide +kernel
theorem dX10_lift_30 : decode cX10_lift 30 = .ok (.ldc 179, 2) := by decide +kernel
theorem dX10_lift_32 : decode cX10_lift 32 = .ok (.invokespecial 104, 3) := by decide +kernel
theorem dX10_lift_35 : decode cX10_lift 35 = .ok (.athrow, 1) := by decide +kernel
theorem dX10_lift_36 : decode cX10_lift 36 = .ok (.aload_n 0, 1) := by decide +kernel
theorem dX10_lift_37 : decode cX10_lift 37 = .ok (.invokevirtual 181, 3) := by decide +kernel
theorem dX10_lift_40 : decode cX10_lift 40 = .ok (.ireturn, 1) := by decide +kernel
set_option maxRecDepth 20000 in
theorem ggX10_place_X10_isLeg : GoodIn wsX10_place wsX10_isLeg := goodIn_r _ [11, 12, 13, 238, 239, 240, 241, 242, 243, 244, 245, 246, 247, 248, 249, 250, 251, 252, 253, 254, 255] rfl (by decide +kernel)
set_option maxRecDepth 20000 in
theorem gX10_place_X10_isLeg : GoodIn wsX10_place (wsV RX10 152 RX10 yX10_isLeg wsX10_isLeg) := goodIn_app (goodIn_r _ [7, 8, 9, 10] rfl (by decide +kernel)) ggX10_place_X10_isLeg
set_option maxRecDepth 20000 in
theorem ggX10_place_X10_pointAt : GoodIn wsX10_place wsX10_pointAt := goodIn_r _ [16] rfl (by decide +kernel)
set_option maxRecDepth 20000 in
theorem gX10_place_X10_pointAt : GoodIn wsX10_place (va_wsS RX10 81 yX10_pointAt wsX10_pointAt) := goodIn_app (goodIn_r _ [14, 15, 10] rfl (by decide +kernel)) ggX10_place_X10_pointAt
set_option maxRecDepth 20000 in
theorem ggX10_place_X10_placeFoot : GoodIn wsX10_place wsX10_placeFoot := goodIn_r _ [20, 21, 22, 23, 24, 25, 26, 27, 28, 29, 30, 31, 32, 33, 34, 35, 36, 37, 38, 10, 39, 40, 41, 42, 43, 44, 45, 46, 47, 48, 49, 50, 51, 52, 53, 54, 55, 56, 57, 58, 59, 60, 61, 62, 63, 64, 65, 66, 67, 68, 69, 70, 71, 72, 73, 74, 75, 76, 77, 78, 79, 80, 81, 82, 83, 84, 85, 86, 87, 88, 89, 90, 91, 92, 93, 94, 95, 96, 97, 98, 99, 100, 101, 102, 103, 104, 105, 106, 107, 108, 109, 110, 111, 112, 113, 114, 115, 116, 117, 118, 15, 16, 119, 238, 239, 240, 241, 242, 243, 244, 245, 246, 247, 248, 256, 257, 258, 259, 260, 261, 262, 263, 264, 265, 249, 250, 251, 252, 253, 254, 255, 266, 267, 268, 269, 270] rfl (by decide +kernel)
set_option maxRecDepth 20000 in
theorem gX10_place_X10_placeFoot : GoodIn wsX10_place (wsV RX10 197 RX10 yX10_placeFoot wsX10_placeFoot) := goodIn_app (goodIn_r _ [17, 18, 19, 10] rfl (by decide +kernel)) ggX10_place_X10_placeFoot
set_option maxRecDepth 20000 in
theorem ggX10_place_X10_settled : GoodIn wsX10_place wsX10_settled := goodIn_r _ [123, 28, 21, 31, 124, 125, 126, 127, 35, 128, 66, 67, 129, 130, 131, 132, 133, 45, 134, 135, 136, 137, 138, 139, 140, 141, 142, 143, 47, 48, 49, 50, 51, 52, 144, 10, 145, 146, 147, 148, 149, 30, 22, 61, 150, 151, 152, 95, 153, 98, 154, 70, 26, 71, 99, 100, 101, 102, 103, 155, 93, 94, 96, 97, 104, 105, 106, 84, 107, 108, 109, 110, 86, 156, 157, 158, 159, 160, 161, 162, 163, 164, 165, 166, 167, 168, 169, 170, 171, 172, 173, 174, 175, 176, 177, 178, 179, 180, 181, 182, 183, 184, 185, 44, 186, 187, 188, 189, 190, 191, 59, 192, 193, 194, 195, 196, 197, 198, 199, 200, 201, 202, 203, 204, 205, 206, 207, 208, 209, 210, 211, 212, 213, 214, 215, 38, 39, 53, 54, 216, 217, 218, 219, 220, 221, 222, 223, 224, 225, 226, 227, 228, 229, 230, 231, 232, 233, 234, 235, 236, 237, 238, 239, 240, 241, 242, 243, 244, 245, 246, 247, 248, 267, 268, 269, 270, 260, 261, 262, 263, 264, 265, 256, 257, 258, 259, 249, 250, 251, 252, 253, 254, 255, 266, 271, 272, 273, 274, 275, 276, 277] rfl (by decide +kernel)
set_option maxRecDepth 20000 in
theorem gX10_place_X10_settled : GoodIn wsX10_place (wsV RX10 181 RX10 yX10_settled wsX10_settled) := goodIn_app (goodIn_r _ [120, 121, 122, 10] rfl (by decide +kernel)) ggX10_place_X10_settled
theorem dX10_place_0 : decode cX10_place 0 = .ok (.aload_n 0, 1) := by decide +kernel
theorem dX10_place_1 : decode cX10_place 1 = .ok (.iload_n 1, 1) := by decide +kernel
theorem dX10_place_2 : decode cX10_place 2 = .ok (.invokevirtual 152, 3) := by decide +kernel
theorem dX10_place_5 : decode cX10_place 5 = .ok (.ifCond .ne 13, 3) := by decide +kernel
theorem dX10_place_8 : decode cX10_place 8 = .ok (.new 155, 3) := by decide +kernel
theorem dX10_place_11 : decode cX10_place 11 = .ok (.dup, 1) := by decide +kernel
theorem dX10_place_12 : decode cX10_place 12 = .ok (.ldc 157, 2) := by decide +kernel
theorem dX10_place_14 : decode cX10_place 14 = .ok (.invokespecial 159, 3) := by decide +kernel
theorem dX10_place_17 : decode cX10_place 17 = .ok (.athrow, 1) := by decide +kernel
theorem dX10_place_18 : decode cX10_place 18 = .ok (.iload_n 2, 1) := by decide +kernel
theorem dX10_place_19 : decode cX10_place 19 = .ok (.iload_n 3, 1) := by decide +kernel
theorem dX10_place_20 : decode cX10_place 20 = .ok (.invokestatic 81, 3) := by decide +kernel
theorem dX10_place_23 : decode cX10_place 23 = .ok (.istore 4, 2) := by decide +kernel
theorem dX10_place_25 : decode cX10_place 25 = .ok (.iload 4, 2) := by decide +kernel
theorem dX10_place_27 : decode cX10_place 27 = .ok (.iconst (-1), 1) := by decide +kernel
theorem dX10_place_28 : decode cX10_place 28 = .ok (.if_icmp .ne 13, 3) := by decide +kernel
theorem dX10_place_31 : decode cX10_place 31 = .ok (.new 89, 3) := by decide +kernel
theorem dX10_place_34 : decode cX10_place 34 = .ok (.dup, 1) := by decide +kernel
theorem dX10_place_35 : decode cX10_place 35 = .ok (.ldc 195, 2) := by decide +kernel
theorem dX10_place_37 : decode cX10_place 37 = .ok (.invokespecial 93, 3) := by decide +kernel
theorem dX10_place_40 : decode cX10_place 40 = .ok (.athrow, 1) := by decide +kernel
theorem dX10_place_41 : decode cX10_place 41 = .ok (.aload_n 0, 1) := by decide +kernel
theorem dX10_place_42 : decode cX10_place 42 = .ok (.iload_n 1, 1) := by decide +kernel
theorem dX10_place_43 : decode cX10_place 43 = .ok (.iload 4, 2) := by decide +kernel
theorem dX10_place_45 : decode cX10_place 45 = .ok (.invokevirtual 197, 3) := by decide +kernel
theorem dX10_place_48 : decode cX10_place 48 = .ok (.ifCond .ne 13, 3) := by decide +kernel
theorem dX10_place_51 : decode cX10_place 51 = .ok (.new 100, 3) := by decide +kernel
theorem dX10_place_54 : decode cX10_place 54 = .ok (.dup, 1) := by decide +kernel
theorem dX10_place_55 : decode cX10_place 55 = .ok (.ldc 179, 2) := by decide +kernel
theorem dX10_place_57 : decode cX10_place 57 = .ok (.invokespecial 104, 3) := by decide +kernel
theorem dX10_place_60 : decode cX10_place 60 = .ok (.athrow, 1) := by decide +kernel
theorem dX10_place_61 : decode cX10_place 61 = .ok (.aload_n 0, 1) := by decide +kernel
theorem dX10_place_62 : decode cX10_place 62 = .ok (.invokevirtual 181, 3) := by decide +kernel
theorem dX10_place_65 : decode cX10_place 65 = .ok (.ireturn, 1) := by decide +kernel
set_option maxRecDepth 20000 in
theorem ggX10_shift_X10_isWithin : GoodIn wsX10_shift wsX10_isWithin := goodIn_r _ [8] rfl (by decide +kernel)
set_option maxRecDepth 20000 in
theorem gX10_shift_X10_isWithin : GoodIn wsX10_shift (va_wsS RX10 85 yX10_isWithin wsX10_isWithin) := goodIn_app (goodIn_r _ [5, 6, 7] rfl (by decide +kernel)) ggX10_shift_X10_isWithin
set_option maxRecDepth 20000 in
theorem ggX10_shift_X10_shiftBody : GoodIn wsX10_shift wsX10_shiftBody := goodIn_r _ [12, 13, 14, 15, 16, 17, 18, 19, 20, 21, 22, 23, 24, 25, 26, 7, 27, 28, 29, 30, 31, 32, 33, 34, 35, 36, 37, 38, 39, 40, 41, 42, 43, 44, 45, 46, 47, 48, 49, 50, 51, 52, 53, 54, 55, 56, 57, 58, 59, 60, 61, 62, 63, 64, 65, 66, 67, 68, 69, 70, 71, 72, 73, 74, 75, 76, 77, 78, 79, 80, 81, 82, 83, 84, 85, 86, 87, 88, 89, 90, 91, 92, 93, 94, 95, 96, 97, 98, 99, 100, 101, 102, 103, 104, 105, 106, 107, 108, 109, 110, 111, 112, 113, 114, 115, 116, 117, 118, 119, 120, 121, 6, 8, 122, 123, 124, 125, 126, 127, 214, 215, 216, 217, 218, 219, 220, 221, 222, 223, 224, 225, 226, 227, 228, 229, 230, 231, 232, 233, 234, 235, 236, 237, 238, 239, 240, 241, 242, 243, 244, 245] rfl (by decide +kernel)
set_option maxRecDepth 20000 in
theorem gX10_shift_X10_shiftBody : GoodIn wsX10_shift (wsV RX10 200 RX10 yX10_shiftBody wsX10_shiftBody) := goodIn_app (goodIn_r _ [9, 10, 11, 7] rfl (by decide +kernel)) ggX10_shift_X10_shiftBody
set_option maxRecDepth 20000 in
theorem ggX10_shift_X10_settled : GoodIn wsX10_shift wsX10_settled := goodIn_r _ [131, 16, 15, 18, 132, 133, 134, 135, 31, 136, 35, 137, 138, 139, 140, 141, 142, 57, 109, 20, 21, 22, 23, 24, 143, 144, 145, 146, 52, 43, 44, 39, 45, 41, 26, 7, 27, 147, 148, 149, 150, 151, 152, 153, 154, 155, 156, 157, 158, 159, 160, 117, 86, 118, 161, 162, 92, 93, 94, 163, 164, 165, 166, 167, 168, 169, 170, 125, 171, 172, 173, 174, 127, 175, 176, 177, 178, 179, 180, 74, 75, 76, 77, 78, 79, 80, 81, 82, 83, 84, 85, 87, 88, 89, 90, 91, 95, 96, 97, 98, 99, 100, 101, 33, 102, 103, 104, 105, 106, 107, 34, 108, 110, 111, 112, 113, 114, 115, 116, 119, 120, 121, 6, 8, 181, 182, 183, 184, 185, 186, 187, 188, 189, 190, 191, 59, 60, 66, 67, 192, 193, 194, 195, 196, 197, 198, 199, 200, 201, 202, 203, 204, 205, 206, 207, 208, 209, 210, 211, 212, 213, 214, 215, 216, 217, 218, 219, 220, 221, 222, 223, 224, 242, 243, 244, 245, 232, 233, 234, 235, 236, 237, 246, 247, 248, 249, 225, 226, 227, 228, 229, 230, 231, 238, 239, 240, 241, 250, 251, 252, 253] rfl (by decide +kernel)
set_option maxRecDepth 20000 in
theorem gX10_shift_X10_settled : GoodIn wsX10_shift (wsV RX10 181 RX10 yX10_settled wsX10_settled) := goodIn_app (goodIn_r _ [128, 129, 130, 7] rfl (by decide +kernel)) ggX10_shift_X10_settled
theorem dX10_shift_0 : decode cX10_shift 0 = .ok (.iload_n 1, 1) := by decide +kernel
theorem dX10_shift_1 : decode cX10_shift 1 = .ok (.iconst (-1), 1) := by decide +kernel
theorem dX10_shift_2 : decode cX10_shift 2 = .ok (.iconst 1, 1) := by decide +kernel
theorem dX10_shift_3 : decode cX10_shift 3 = .ok (.invokestatic 85, 3) := by decide +kernel
theorem dX10_shift_6 : decode cX10_shift 6 = .ok (.ifCond .eq 20, 3) := by decide +kernel
theorem dX10_shift_9 : decode cX10_shift 9 = .ok (.iload_n 2, 1) := by decide +kernel
theorem dX10_shift_10 : decode cX10_shift 10 = .ok (.iconst (-1), 1) := by decide +kernel
theorem dX10_shift_11 : decode cX10_shift 11 = .ok (.iconst 1, 1) := by decide +kernel
theorem dX10_shift_12 : decode cX10_shift 12 = .ok (.invokestatic 85, 3) := by decide +kernel
theorem dX10_shift_15 : decode cX10_shift 15 = .ok (.ifCond .eq 11, 3) := by decide +kernel
theorem dX10_shift_18 : decode cX10_shift 18 = .ok (.iload_n 1, 1) := by decide +kernel
theorem dX10_shift_19 : decode cX10_shift 19 = .ok (.ifCond .ne 17, 3) := by decide +kernel
theorem dX10_shift_22 : decode cX10_shift 22 = .ok (.iload_n 2, 1) := by decide +kernel
theorem dX10_shift_23 : decode cX10_shift 23 = .ok (.ifCond .ne 13, 3) := by decide +kernel
theorem dX10_shift_26 : decode cX10_shift 26 = .ok (.new 89, 3) := by decide +kernel
theorem dX10_shift_29 : decode cX10_shift 29 = .ok (.dup, 1) := by decide +kernel
theorem dX10_shift_30 : decode cX10_shift 30 = .ok (.ldc 160, 2) := by decide +kernel
theorem dX10_shift_32 : decode cX10_shift 32 = .ok (.invokespecial 93, 3) := by decide +kernel
theorem dX10_shift_35 : decode cX10_shift 35 = .ok (.athrow, 1) := by decide +kernel
theorem dX10_shift_36 : decode cX10_shift 36 = .ok (.aload_n 0, 1) := by decide +kernel
theorem dX10_shift_37 : decode cX10_shift 37 = .ok (.iload_n 1, 1) := by decide +kernel
theorem dX10_shift_38 : decode cX10_shift 38 = .ok (.iload_n 2, 1) := by decide +kernel
theorem dX10_shift_39 : decode cX10_shift 39 = .ok (.invokevirtual 200, 3) := by decide +kernel
theorem dX10_shift_42 : decode cX10_shift 42 = .ok (.ifCond .ne 13, 3) := by decide +kernel
theorem dX10_shift_45 : decode cX10_shift 45 = .ok (.new 100, 3) := by decide +kernel
theorem dX10_shift_48 : decode cX10_shift 48 = .ok (.dup, 1) := by decide +kernel
theorem dX10_shift_49 : decode cX10_shift 49 = .ok (.ldc 179, 2) := by decide +kernel
theorem dX10_shift_51 : decode cX10_shift 51 = .ok (.invokespecial 104, 3) := by decide +kernel
theorem dX10_shift_54 : decode cX10_shift 54 = .ok (.athrow, 1) := by decide +kernel
theorem dX10_shift_55 : decode cX10_shift 55 = .ok (.aload_n 0, 1) := by decide +kernel
theorem dX10_shift_56 : decode cX10_shift 56 = .ok (.invokevirtual 181, 3) := by decide +kernel
theorem dX10_shift_59 : decode cX10_shift 59 = .ok (.ireturn, 1) := by decide +kernel
set_option maxRecDepth 20000 in
theorem ggX10_walk_X10_isWithin : GoodIn wsX10_walk wsX10_isWithin := goodIn_r _ [11] rfl (by decide +kernel)
set_option maxRecDepth 20000 in
theorem gX10_walk_X10_isWithin : GoodIn wsX10_walk (va_wsS RX10 85 yX10_isWithin wsX10_isWithin) := goodIn_app (goodIn_r _ [8, 9, 10] rfl (by decide +kernel)) ggX10_walk_X10_isWithin
set_option maxRecDepth 20000 in
theorem ggX10_walk_X10_isPhaseDone : GoodIn wsX10_walk wsX10_isPhaseDone := goodIn_r _ [15, 5, 16, 17, 18, 19, 20, 21, 22, 23, 24, 25, 26, 27, 28, 29, 30, 31, 10, 32, 33, 34, 35, 36, 37, 38, 39, 40, 41, 42, 43, 44, 45, 46, 47, 48, 49, 50, 51, 52, 53, 54, 55, 56, 57, 58, 59, 60, 61, 62, 63, 64, 65, 66, 67, 68, 69, 70, 71, 72, 73, 74, 75, 76, 77, 78, 79, 80, 81, 82, 83, 84, 85, 86, 87, 88, 89, 90, 91, 92, 93, 94, 95, 96, 97, 98, 9, 11, 99, 100, 101, 102, 103, 104, 105, 106, 107, 108, 109, 110, 111, 112, 113, 114, 115, 116, 117, 118, 119, 120, 121, 122, 123, 124, 125, 126, 127, 128, 129, 130, 131, 132, 133, 134, 135, 136, 137, 138, 139, 140, 141, 142, 143, 144, 145, 146, 147, 148, 149, 150, 151, 152, 153, 154, 155, 156, 157, 158, 159, 160, 161, 162, 163, 164, 165, 166, 167, 168, 169, 170, 171, 172, 173, 174, 175, 176, 177, 178, 179, 180, 181, 182, 183, 184, 185, 186, 187, 188, 189, 190, 191, 192, 193, 194, 195, 196, 197, 198, 199, 200, 201, 202, 203, 204, 205, 206, 207, 208, 209, 210, 211, 212, 213, 214, 215, 216, 217, 218, 219, 220, 221, 222, 223, 224, 225, 226, 227, 228, 229, 230, 231, 232, 233, 234, 235, 236, 237, 238, 239, 240, 241, 242, 243, 244, 245, 246, 247, 248, 249, 250, 251, 252, 253, 254, 255, 256, 257, 258, 259, 260, 261, 262, 263, 264, 265, 266, 267, 268, 269, 270, 271, 272, 273, 274, 275, 283, 284, 285, 286, 287, 288, 289, 290, 291, 292, 293, 294, 295, 296, 297, 298, 299, 300, 301, 302, 303, 304, 305, 306, 307, 308, 309, 310, 311, 312, 313, 314, 315, 316, 317, 318, 319, 320, 321, 322, 323, 324, 325, 326, 327, 328, 329] rfl (by decide +kernel)
set_option maxRecDepth 20000 in
theorem gX10_walk_X10_isPhaseDone : GoodIn wsX10_walk (wsV RX10 210 RX10 yX10_isPhaseDone wsX10_isPhaseDone) := goodIn_app (goodIn_r _ [12, 13, 14, 10] rfl (by decide +kernel)) ggX10_walk_X10_isPhaseDone
set_option maxRecDepth 20000 in
theorem ggX10_walk_X3_goOn : GoodIn wsX10_walk wsX3_goOn := goodIn_r _ [280, 281, 282, 294, 295, 296, 297, 298, 299, 300] rfl (by decide +kernel)
set_option maxRecDepth 20000 in
theorem gX10_walk_X3_goOn : GoodIn wsX10_walk (wsV RX10 213 RX3 yX3_goOn wsX3_goOn) := goodIn_app (goodIn_r _ [276, 277, 278, 279] rfl (by decide +kernel)) ggX10_walk_X3_goOn
theorem dX10_walk_0 : decode cX10_walk 0 = .ok (.iload_n 1, 1) := by decide +kernel
theorem dX10_walk_1 : decode cX10_walk 1 = .ok (.iconst 1, 1) := by decide +kernel
theorem dX10_walk_2 : decode cX10_walk 2 = .ok (.bipush 20, 2) := by decide +kernel
theorem dX10_walk_4 : decode cX10_walk 4 = .ok (.invokestatic 85, 3) := by decide +kernel
theorem dX10_walk_7 : decode cX10_walk 7 = .ok (.ifCond .ne 13, 3) := by decide +kernel
theorem dX10_walk_10 : decode cX10_walk 10 = .ok (.new 89, 3) := by decide +kernel
theorem dX10_walk_13 : decode cX10_walk 13 = .ok (.dup, 1) := by decide +kernel
theorem dX10_walk_14 : decode cX10_walk 14 = .ok (.ldc 203, 2) := by decide +kernel
theorem dX10_walk_16 : decode cX10_walk 16 = .ok (.invokespecial 93, 3) := by decide +kernel
theorem dX10_walk_19 : decode cX10_walk 19 = .ok (.athrow, 1) := by decide +kernel
theorem dX10_walk_20 : decode cX10_walk 20 = .ok (.aload_n 0, 1) := by decide +kernel
theorem dX10_walk_21 : decode cX10_walk 21 = .ok (.getfield 62, 3) := by decide +kernel
theorem dX10_walk_24 : decode cX10_walk 24 = .ok (.getfield 162, 3) := by decide +kernel
theorem dX10_walk_27 : decode cX10_walk 27 = .ok (.ifCond .ne 13, 3) := by decide +kernel
theorem dX10_walk_30 : decode cX10_walk 30 = .ok (.new 100, 3) := by decide +kernel
theorem dX10_walk_33 : decode cX10_walk 33 = .ok (.dup, 1) := by decide +kernel
theorem dX10_walk_34 : decode cX10_walk 34 = .ok (.ldc 205, 2) := by decide +kernel
theorem dX10_walk_36 : decode cX10_walk 36 = .ok (.invokespecial 104, 3) := by decide +kernel
theorem dX10_walk_39 : decode cX10_walk 39 = .ok (.athrow, 1) := by decide +kernel
theorem dX10_walk_40 : decode cX10_walk 40 = .ok (.iconst 0, 1) := by decide +kernel
theorem dX10_walk_41 : decode cX10_walk 41 = .ok (.istore_n 2, 1) := by decide +kernel
theorem dX10_walk_42 : decode cX10_walk 42 = .ok (.iload_n 2, 1) := by decide +kernel
theorem dX10_walk_43 : decode cX10_walk 43 = .ok (.iload_n 1, 1) := by decide +kernel
theorem dX10_walk_44 : decode cX10_walk 44 = .ok (.if_icmp .ge 30, 3) := by decide +kernel
theorem dX10_walk_47 : decode cX10_walk 47 = .ok (.aload_n 0, 1) := by decide +kernel
theorem dX10_walk_48 : decode cX10_walk 48 = .ok (.aload_n 0, 1) := by decide +kernel
theorem dX10_walk_49 : decode cX10_walk 49 = .ok (.getfield 62, 3) := by decide +kernel
theorem dX10_walk_52 : decode cX10_walk 52 = .ok (.getfield 207, 3) := by decide +kernel
theorem dX10_walk_55 : decode cX10_walk 55 = .ok (.invokevirtual 210, 3) := by decide +kernel
theorem dX10_walk_58 : decode cX10_walk 58 = .ok (.ifCond .eq 16, 3) := by decide +kernel
theorem dX10_walk_61 : decode cX10_walk 61 = .ok (.aload_n 0, 1) := by decide +kernel
theorem dX10_walk_62 : decode cX10_walk 62 = .ok (.getfield 62, 3) := by decide +kernel
theorem dX10_walk_65 : decode cX10_walk 65 = .ok (.invokevirtual 213, 3) := by decide +kernel
theorem dX10_walk_68 : decode cX10_walk 68 = .ok (.iinc 2 1, 3) := by decide +kernel
theorem dX10_walk_71 : decode cX10_walk 71 = .ok (.goto (-29), 3) := by decide +kernel
theorem dX10_walk_74 : decode cX10_walk 74 = .ok (.iload_n 2, 1) := by decide +kernel
theorem dX10_walk_75 : decode cX10_walk 75 = .ok (.ireturn, 1) := by decide +kernel
set_option maxRecDepth 20000 in
theorem ggX10_machine_X9_level : GoodIn wsX10_machine wsX9_level := goodIn_r _ [22, 23, 24, 25, 26, 27, 28, 29, 30, 31, 32, 33, 34, 35, 66, 67, 68, 69, 70, 71, 94, 95, 96, 97, 98] rfl (by decide +kernel)
set_option maxRecDepth 20000 in
theorem gX10_machine_X9_level : GoodIn wsX10_machine (wsV RX10 225 RX9 yX9_level wsX9_level) := goodIn_app (goodIn_r _ [18, 19, 20, 21] rfl (by decide +kernel)) ggX10_machine_X9_level
set_option maxRecDepth 20000 in
theorem ggX10_machine_X9_pressure : GoodIn wsX10_machine wsX9_pressure := goodIn_r _ [39, 40, 41, 42, 43, 44, 45, 46, 47, 48, 49, 21, 50, 23, 30, 31, 32, 33, 34, 35, 51, 52, 53, 66, 67, 68, 69, 70, 71, 72, 73, 74, 75, 76, 77, 78, 98] rfl (by decide +kernel)
set_option maxRecDepth 20000 in
theorem gX10_machine_X9_pressure : GoodIn wsX10_machine (wsV RX10 228 RX9 yX9_pressure wsX9_pressure) := goodIn_app (goodIn_r _ [36, 37, 38, 21] rfl (by decide +kernel)) ggX10_machine_X9_pressure
set_option maxRecDepth 20000 in
theorem ggX10_machine_X9_down : GoodIn wsX10_machine wsX9_down := goodIn_r _ [50, 23, 30, 31, 32, 33, 34, 35, 66, 67, 68, 69, 70, 71, 98] rfl (by decide +kernel)
set_option maxRecDepth 20000 in
theorem gX10_machine_X9_down : GoodIn wsX10_machine (wsV RX10 189 RX9 yX9_down wsX9_down) := goodIn_app (goodIn_r _ [54, 48, 49, 21] rfl (by decide +kernel)) ggX10_machine_X9_down
theorem dX10_machine_0 : decode cX10_machine 0 = .ok (.iload_n 1, 1) := by decide +kernel
theorem dX10_machine_1 : decode cX10_machine 1 = .ok (.tableswitch 176 0 11 #[63, 71, 79, 92, 97, 105, 114, 122, 130, 138, 146, 154], 63) := by decide +kernel
theorem dX10_machine_64 : decode cX10_machine 64 = .ok (.aload_n 0, 1) := by decide +kernel
theorem dX10_machine_65 : decode cX10_machine 65 = .ok (.getfield 31, 3) := by decide +kernel
theorem dX10_machine_68 : decode cX10_machine 68 = .ok (.getfield 216, 3) := by decide +kernel
theorem dX10_machine_71 : decode cX10_machine 71 = .ok (.ireturn, 1) := by decide +kernel
theorem dX10_machine_72 : decode cX10_machine 72 = .ok (.aload_n 0, 1) := by decide +kernel
theorem dX10_machine_73 : decode cX10_machine 73 = .ok (.getfield 31, 3) := by decide +kernel
theorem dX10_machine_76 : decode cX10_machine 76 = .ok (.getfield 219, 3) := by decide +kernel
theorem dX10_machine_79 : decode cX10_machine 79 = .ok (.ireturn, 1) := by decide +kernel
theorem dX10_machine_80 : decode cX10_machine 80 = .ok (.aload_n 0, 1) := by decide +kernel
theorem dX10_machine_81 : decode cX10_machine 81 = .ok (.getfield 73, 3) := by decide +kernel
theorem dX10_machine_84 : decode cX10_machine 84 = .ok (.ifCond .eq 7, 3) := by decide +kernel
theorem dX10_machine_87 : decode cX10_machine 87 = .ok (.iconst 1, 1) := by decide +kernel
theorem dX10_machine_88 : decode cX10_machine 88 = .ok (.goto 4, 3) := by decide +kernel
theorem dX10_machine_91 : decode cX10_machine 91 = .ok (.iconst 0, 1) := by decide +kernel
theorem dX10_machine_92 : decode cX10_machine 92 = .ok (.ireturn, 1) := by decide +kernel
theorem dX10_machine_93 : decode cX10_machine 93 = .ok (.aload_n 0, 1) := by decide +kernel
theorem dX10_machine_94 : decode cX10_machine 94 = .ok (.getfield 77, 3) := by decide +kernel
theorem dX10_machine_97 : decode cX10_machine 97 = .ok (.ireturn, 1) := by decide +kernel
theorem dX10_machine_98 : decode cX10_machine 98 = .ok (.aload_n 0, 1) := by decide +kernel
theorem dX10_machine_99 : decode cX10_machine 99 = .ok (.getfield 22, 3) := by decide +kernel
theorem dX10_machine_102 : decode cX10_machine 102 = .ok (.getfield 222, 3) := by decide +kernel
theorem dX10_machine_105 : decode cX10_machine 105 = .ok (.ireturn, 1) := by decide +kernel
theorem dX10_machine_106 : decode cX10_machine 106 = .ok (.aload_n 0, 1) := by decide +kernel
theorem dX10_machine_107 : decode cX10_machine 107 = .ok (.getfield 31, 3) := by decide +kernel
theorem dX10_machine_110 : decode cX10_machine 110 = .ok (.iconst (-1), 1) := by decide +kernel
theorem dX10_machine_111 : decode cX10_machine 111 = .ok (.invokevirtual 225, 3) := by decide +kernel
theorem dX10_machine_114 : decode cX10_machine 114 = .ok (.ireturn, 1) := by decide +kernel
theorem dX10_machine_115 : decode cX10_machine 115 = .ok (.aload_n 0, 1) := by decide +kernel
theorem dX10_machine_116 : decode cX10_machine 116 = .ok (.getfield 31, 3) := by decide +kernel
theorem dX10_machine_119 : decode cX10_machine 119 = .ok (.invokevirtual 228, 3) := by decide +kernel
theorem dX10_machine_122 : decode cX10_machine 122 = .ok (.ireturn, 1) := by decide +kernel
theorem dX10_machine_123 : decode cX10_machine 123 = .ok (.aload_n 0, 1) := by decide +kernel
theorem dX10_machine_124 : decode cX10_machine 124 = .ok (.getfield 31, 3) := by decide +kernel
theorem dX10_machine_127 : decode cX10_machine 127 = .ok (.invokevirtual 189, 3) := by decide +kernel
theorem dX10_machine_130 : decode cX10_machine 130 = .ok (.ireturn, 1) := by decide +kernel
theorem dX10_machine_131 : decode cX10_machine 131 = .ok (.aload_n 0, 1) := by decide +kernel
theorem dX10_machine_132 : decode cX10_machine 132 = .ok (.getfield 48, 3) := by decide +kernel
theorem dX10_machine_135 : decode cX10_machine 135 = .ok (.getfield 231, 3) := by decide +kernel
theorem dX10_machine_138 : decode cX10_machine 138 = .ok (.ireturn, 1) := by decide +kernel
theorem dX10_machine_139 : decode cX10_machine 139 = .ok (.aload_n 0, 1) := by decide +kernel
theorem dX10_machine_140 : decode cX10_machine 140 = .ok (.getfield 55, 3) := by decide +kernel
theorem dX10_machine_143 : decode cX10_machine 143 = .ok (.getfield 232, 3) := by decide +kernel
theorem dX10_machine_146 : decode cX10_machine 146 = .ok (.ireturn, 1) := by decide +kernel
theorem dX10_machine_147 : decode cX10_machine 147 = .ok (.aload_n 0, 1) := by decide +kernel
theorem dX10_machine_148 : decode cX10_machine 148 = .ok (.getfield 22, 3) := by decide +kernel
theorem dX10_machine_151 : decode cX10_machine 151 = .ok (.getfield 136, 3) := by decide +kernel
theorem dX10_machine_154 : decode cX10_machine 154 = .ok (.ireturn, 1) := by decide +kernel
theorem dX10_machine_155 : decode cX10_machine 155 = .ok (.aload_n 0, 1) := by decide +kernel
theorem dX10_machine_156 : decode cX10_machine 156 = .ok (.getfield 62, 3) := by decide +kernel
theorem dX10_machine_159 : decode cX10_machine 159 = .ok (.getfield 162, 3) := by decide +kernel
theorem dX10_machine_162 : decode cX10_machine 162 = .ok (.ifCond .ne 7, 3) := by decide +kernel
theorem dX10_machine_165 : decode cX10_machine 165 = .ok (.iconst (-1), 1) := by decide +kernel
theorem dX10_machine_166 : decode cX10_machine 166 = .ok (.goto 10, 3) := by decide +kernel
theorem dX10_machine_169 : decode cX10_machine 169 = .ok (.aload_n 0, 1) := by decide +kernel
theorem dX10_machine_170 : decode cX10_machine 170 = .ok (.getfield 62, 3) := by decide +kernel
theorem dX10_machine_173 : decode cX10_machine 173 = .ok (.getfield 207, 3) := by decide +kernel
theorem dX10_machine_176 : decode cX10_machine 176 = .ok (.ireturn, 1) := by decide +kernel
theorem dX10_machine_177 : decode cX10_machine 177 = .ok (.new 89, 3) := by decide +kernel
theorem dX10_machine_180 : decode cX10_machine 180 = .ok (.dup, 1) := by decide +kernel
theorem dX10_machine_181 : decode cX10_machine 181 = .ok (.ldc 233, 2) := by decide +kernel
theorem dX10_machine_183 : decode cX10_machine 183 = .ok (.invokespecial 93, 3) := by decide +kernel
theorem dX10_machine_186 : decode cX10_machine 186 = .ok (.athrow, 1) := by decide +kernel
set_option maxRecDepth 20000 in
theorem ggX10_foot_X10_isLeg : GoodIn wsX10_foot wsX10_isLeg := goodIn_r _ [11, 12, 13, 26, 27, 28, 29, 30, 31, 32, 33, 34, 35, 36, 43, 44, 45, 46, 47, 48, 49] rfl (by decide +kernel)
set_option maxRecDepth 20000 in
theorem gX10_foot_X10_isLeg : GoodIn wsX10_foot (wsV RX10 152 RX10 yX10_isLeg wsX10_isLeg) := goodIn_app (goodIn_r _ [7, 8, 9, 10] rfl (by decide +kernel)) ggX10_foot_X10_isLeg
set_option maxRecDepth 20000 in
theorem ggX10_foot_X8_at : GoodIn wsX10_foot wsX8_at := goodIn_r _ [18, 19, 50] rfl (by decide +kernel)
set_option maxRecDepth 20000 in
theorem gX10_foot_X8_at : GoodIn wsX10_foot (wsV RX10 109 RX8 yX8_at wsX8_at) := goodIn_app (goodIn_r _ [14, 15, 16, 17] rfl (by decide +kernel)) ggX10_foot_X8_at
set_option maxRecDepth 20000 in
theorem ggX10_foot_X10_xOf : GoodIn wsX10_foot wsX10_xOf := goodIn_r _ [22] rfl (by decide +kernel)
set_option maxRecDepth 20000 in
theorem gX10_foot_X10_xOf : GoodIn wsX10_foot (va_wsS RX10 238 yX10_xOf wsX10_xOf) := goodIn_app (goodIn_r _ [20, 21, 10] rfl (by decide +kernel)) ggX10_foot_X10_xOf
set_option maxRecDepth 20000 in
theorem ggX10_foot_X10_yOf : GoodIn wsX10_foot wsX10_yOf := goodIn_r _ [25] rfl (by decide +kernel)
set_option maxRecDepth 20000 in
theorem gX10_foot_X10_yOf : GoodIn wsX10_foot (va_wsS RX10 241 yX10_yOf wsX10_yOf) := goodIn_app (goodIn_r _ [23, 24, 10] rfl (by decide +kernel)) ggX10_foot_X10_yOf
theorem dX10_foot_0 : decode cX10_foot 0 = .ok (.aload_n 0, 1) := by decide +kernel
theorem dX10_foot_1 : decode cX10_foot 1 = .ok (.iload_n 1, 1) := by decide +kernel
theorem dX10_foot_2 : decode cX10_foot 2 = .ok (.invokevirtual 152, 3) := by decide +kernel
theorem dX10_foot_5 : decode cX10_foot 5 = .ok (.ifCond .ne 13, 3) := by decide +kernel
theorem dX10_foot_8 : decode cX10_foot 8 = .ok (.new 155, 3) := by decide +kernel
theorem dX10_foot_11 : decode cX10_foot 11 = .ok (.dup, 1) := by decide +kernel
theorem dX10_foot_12 : decode cX10_foot 12 = .ok (.ldc 157, 2) := by decide +kernel
theorem dX10_foot_14 : decode cX10_foot 14 = .ok (.invokespecial 159, 3) := by decide +kernel
theorem dX10_foot_17 : decode cX10_foot 17 = .ok (.athrow, 1) := by decide +kernel
theorem dX10_foot_18 : decode cX10_foot 18 = .ok (.aload_n 0, 1) := by decide +kernel
theorem dX10_foot_19 : decode cX10_foot 19 = .ok (.getfield 31, 3) := by decide +kernel
theorem dX10_foot_22 : decode cX10_foot 22 = .ok (.getfield 235, 3) := by decide +kernel
theorem dX10_foot_25 : decode cX10_foot 25 = .ok (.iload_n 1, 1) := by decide +kernel
theorem dX10_foot_26 : decode cX10_foot 26 = .ok (.invokevirtual 109, 3) := by decide +kernel
theorem dX10_foot_29 : decode cX10_foot 29 = .ok (.istore_n 3, 1) := by decide +kernel
theorem dX10_foot_30 : decode cX10_foot 30 = .ok (.iload_n 2, 1) := by decide +kernel
theorem dX10_foot_31 : decode cX10_foot 31 = .ok (.tableswitch 64 0 2 #[25, 36, 50], 25) := by decide +kernel
theorem dX10_foot_56 : decode cX10_foot 56 = .ok (.iload_n 3, 1) := by decide +kernel
theorem dX10_foot_57 : decode cX10_foot 57 = .ok (.iconst (-1), 1) := by decide +kernel
theorem dX10_foot_58 : decode cX10_foot 58 = .ok (.if_icmp .ne 7, 3) := by decide +kernel
theorem dX10_foot_61 : decode cX10_foot 61 = .ok (.iconst 0, 1) := by decide +kernel
theorem dX10_foot_62 : decode cX10_foot 62 = .ok (.goto 4, 3) := by decide +kernel
theorem dX10_foot_65 : decode cX10_foot 65 = .ok (.iconst 1, 1) := by decide +kernel
theorem dX10_foot_66 : decode cX10_foot 66 = .ok (.ireturn, 1) := by decide +kernel
theorem dX10_foot_67 : decode cX10_foot 67 = .ok (.iload_n 3, 1) := by decide +kernel
theorem dX10_foot_68 : decode cX10_foot 68 = .ok (.iconst (-1), 1) := by decide +kernel
theorem dX10_foot_69 : decode cX10_foot 69 = .ok (.if_icmp .ne 7, 3) := by decide +kernel
theorem dX10_foot_72 : decode cX10_foot 72 = .ok (.iconst (-1), 1) := by decide +kernel
theorem dX10_foot_73 : decode cX10_foot 73 = .ok (.goto 7, 3) := by decide +kernel
theorem dX10_foot_76 : decode cX10_foot 76 = .ok (.iload_n 3, 1) := by decide +kernel
theorem dX10_foot_77 : decode cX10_foot 77 = .ok (.invokestatic 238, 3) := by decide +kernel
theorem dX10_foot_80 : decode cX10_foot 80 = .ok (.ireturn, 1) := by decide +kernel
theorem dX10_foot_81 : decode cX10_foot 81 = .ok (.iload_n 3, 1) := by decide +kernel
theorem dX10_foot_82 : decode cX10_foot 82 = .ok (.iconst (-1), 1) := by decide +kernel
theorem dX10_foot_83 : decode cX10_foot 83 = .ok (.if_icmp .ne 7, 3) := by decide +kernel
theorem dX10_foot_86 : decode cX10_foot 86 = .ok (.iconst (-1), 1) := by decide +kernel
theorem dX10_foot_87 : decode cX10_foot 87 = .ok (.goto 7, 3) := by decide +kernel
theorem dX10_foot_90 : decode cX10_foot 90 = .ok (.iload_n 3, 1) := by decide +kernel
theorem dX10_foot_91 : decode cX10_foot 91 = .ok (.invokestatic 241, 3) := by decide +kernel
theorem dX10_foot_94 : decode cX10_foot 94 = .ok (.ireturn, 1) := by decide +kernel
theorem dX10_foot_95 : decode cX10_foot 95 = .ok (.new 89, 3) := by decide +kernel
theorem dX10_foot_98 : decode cX10_foot 98 = .ok (.dup, 1) := by decide +kernel
theorem dX10_foot_99 : decode cX10_foot 99 = .ok (.ldc 233, 2) := by decide +kernel
theorem dX10_foot_101 : decode cX10_foot 101 = .ok (.invokespecial 93, 3) := by decide +kernel
theorem dX10_foot_104 : decode cX10_foot 104 = .ok (.athrow, 1) := by decide +kernel
set_option maxRecDepth 20000 in
theorem ggX10_point_X10_pointAt : GoodIn wsX10_point wsX10_pointAt := goodIn_r _ [11] rfl (by decide +kernel)
set_option maxRecDepth 20000 in
theorem gX10_point_X10_pointAt : GoodIn wsX10_point (va_wsS RX10 81 yX10_pointAt wsX10_pointAt) := goodIn_app (goodIn_r _ [8, 9, 10] rfl (by decide +kernel)) ggX10_point_X10_pointAt
set_option maxRecDepth 20000 in
theorem ggX10_point_X8_at : GoodIn wsX10_point wsX8_at := goodIn_r _ [16, 17, 33] rfl (by decide +kernel)
set_option maxRecDepth 20000 in
theorem gX10_point_X8_at : GoodIn wsX10_point (wsV RX10 109 RX8 yX8_at wsX8_at) := goodIn_app (goodIn_r _ [12, 13, 14, 15] rfl (by decide +kernel)) ggX10_point_X8_at
theorem dX10_point_0 : decode cX10_point 0 = .ok (.iload_n 1, 1) := by decide +kernel
theorem dX10_point_1 : decode cX10_point 1 = .ok (.iload_n 2, 1) := by decide +kernel
theorem dX10_point_2 : decode cX10_point 2 = .ok (.invokestatic 81, 3) := by decide +kernel
theorem dX10_point_5 : decode cX10_point 5 = .ok (.istore 4, 2) := by decide +kernel
theorem dX10_point_7 : decode cX10_point 7 = .ok (.iload 4, 2) := by decide +kernel
theorem dX10_point_9 : decode cX10_point 9 = .ok (.iconst (-1), 1) := by decide +kernel
theorem dX10_point_10 : decode cX10_point 10 = .ok (.if_icmp .ne 13, 3) := by decide +kernel
theorem dX10_point_13 : decode cX10_point 13 = .ok (.new 89, 3) := by decide +kernel
theorem dX10_point_16 : decode cX10_point 16 = .ok (.dup, 1) := by decide +kernel
theorem dX10_point_17 : decode cX10_point 17 = .ok (.ldc 195, 2) := by decide +kernel
theorem dX10_point_19 : decode cX10_point 19 = .ok (.invokespecial 93, 3) := by decide +kernel
theorem dX10_point_22 : decode cX10_point 22 = .ok (.athrow, 1) := by decide +kernel
theorem dX10_point_23 : decode cX10_point 23 = .ok (.iload_n 3, 1) := by decide +kernel
theorem dX10_point_24 : decode cX10_point 24 = .ok (.tableswitch 84 0 3 #[32, 45, 58, 71], 32) := by decide +kernel
theorem dX10_point_56 : decode cX10_point 56 = .ok (.aload_n 0, 1) := by decide +kernel
theorem dX10_point_57 : decode cX10_point 57 = .ok (.getfield 15, 3) := by decide +kernel
theorem dX10_point_60 : decode cX10_point 60 = .ok (.getfield 105, 3) := by decide +kernel
theorem dX10_point_63 : decode cX10_point 63 = .ok (.iload 4, 2) := by decide +kernel
theorem dX10_point_65 : decode cX10_point 65 = .ok (.invokevirtual 109, 3) := by decide +kernel
theorem dX10_point_68 : decode cX10_point 68 = .ok (.ireturn, 1) := by decide +kernel
theorem dX10_point_69 : decode cX10_point 69 = .ok (.aload_n 0, 1) := by decide +kernel
theorem dX10_point_70 : decode cX10_point 70 = .ok (.getfield 15, 3) := by decide +kernel
theorem dX10_point_73 : decode cX10_point 73 = .ok (.getfield 119, 3) := by decide +kernel
theorem dX10_point_76 : decode cX10_point 76 = .ok (.iload 4, 2) := by decide +kernel
theorem dX10_point_78 : decode cX10_point 78 = .ok (.invokevirtual 109, 3) := by decide +kernel
theorem dX10_point_81 : decode cX10_point 81 = .ok (.ireturn, 1) := by decide +kernel
theorem dX10_point_82 : decode cX10_point 82 = .ok (.aload_n 0, 1) := by decide +kernel
theorem dX10_point_83 : decode cX10_point 83 = .ok (.getfield 15, 3) := by decide +kernel
theorem dX10_point_86 : decode cX10_point 86 = .ok (.getfield 122, 3) := by decide +kernel
theorem dX10_point_89 : decode cX10_point 89 = .ok (.iload 4, 2) := by decide +kernel
theorem dX10_point_91 : decode cX10_point 91 = .ok (.invokevirtual 109, 3) := by decide +kernel
theorem dX10_point_94 : decode cX10_point 94 = .ok (.ireturn, 1) := by decide +kernel
theorem dX10_point_95 : decode cX10_point 95 = .ok (.aload_n 0, 1) := by decide +kernel
theorem dX10_point_96 : decode cX10_point 96 = .ok (.getfield 15, 3) := by decide +kernel
theorem dX10_point_99 : decode cX10_point 99 = .ok (.getfield 127, 3) := by decide +kernel
theorem dX10_point_102 : decode cX10_point 102 = .ok (.iload 4, 2) := by decide +kernel
theorem dX10_point_104 : decode cX10_point 104 = .ok (.invokevirtual 109, 3) := by decide +kernel
theorem dX10_point_107 : decode cX10_point 107 = .ok (.ireturn, 1) := by decide +kernel
theorem dX10_point_108 : decode cX10_point 108 = .ok (.new 89, 3) := by decide +kernel
theorem dX10_point_111 : decode cX10_point 111 = .ok (.dup, 1) := by decide +kernel
theorem dX10_point_112 : decode cX10_point 112 = .ok (.ldc 233, 2) := by decide +kernel
theorem dX10_point_114 : decode cX10_point 114 = .ok (.invokespecial 93, 3) := by decide +kernel
theorem dX10_point_117 : decode cX10_point 117 = .ok (.athrow, 1) := by decide +kernel
set_option maxRecDepth 20000 in
theorem ggX10_isStable_X9_holdsWithout : GoodIn wsX10_isStable wsX9_holdsWithout := goodIn_r _ [6, 7, 8, 9, 10, 11, 12, 13, 14, 15, 16, 17, 18, 19, 20, 21, 22, 23, 24, 25, 26, 27, 28, 29, 30, 31, 32, 33, 34, 35, 36, 37, 5, 38, 39, 40, 41, 42, 43, 44, 45, 46, 47, 48, 49, 50, 51, 52, 53, 54, 55, 56, 57, 58, 59, 60, 61, 62, 63, 64, 65, 66, 67, 68, 80, 81, 82, 83, 84, 85, 86, 87, 88, 89, 90, 91, 92, 93, 94, 95, 96] rfl (by decide +kernel)
set_option maxRecDepth 20000 in
theorem gX10_isStable_X9_holdsWithout : GoodIn wsX10_isStable (wsV RX10 244 RX9 yX9_holdsWithout wsX9_holdsWithout) := goodIn_app (goodIn_r _ [2, 3, 4, 5] rfl (by decide +kernel)) ggX10_isStable_X9_holdsWithout
theorem dX10_isStable_0 : decode cX10_isStable 0 = .ok (.aload_n 0, 1) := by decide +kernel
theorem dX10_isStable_1 : decode cX10_isStable 1 = .ok (.getfield 31, 3) := by decide +kernel
theorem dX10_isStable_4 : decode cX10_isStable 4 = .ok (.iconst (-1), 1) := by decide +kernel
theorem dX10_isStable_5 : decode cX10_isStable 5 = .ok (.invokevirtual 244, 3) := by decide +kernel
theorem dX10_isStable_8 : decode cX10_isStable 8 = .ok (.ireturn, 1) := by decide +kernel
set_option maxRecDepth 20000 in
theorem ggX10_isStableAnew_X9_momentX : GoodIn wsX10_isStableAnew wsX9_momentX := goodIn_r _ [9, 10, 11, 12, 13, 76, 77, 78, 79, 80, 81, 82, 83, 84, 85, 86, 87, 88] rfl (by decide +kernel)
set_option maxRecDepth 20000 in
theorem gX10_isStableAnew_X9_momentX : GoodIn wsX10_isStableAnew (wsV RX10 247 RX9 yX9_momentX wsX9_momentX) := goodIn_app (goodIn_r _ [5, 6, 7, 8] rfl (by decide +kernel)) ggX10_isStableAnew_X9_momentX
set_option maxRecDepth 20000 in
theorem ggX10_isStableAnew_X9_momentY : GoodIn wsX10_isStableAnew wsX9_momentY := goodIn_r _ [17, 18, 11, 12, 19, 76, 77, 78, 79, 80, 81, 82, 83, 84, 85, 86, 87, 88] rfl (by decide +kernel)
set_option maxRecDepth 20000 in
theorem gX10_isStableAnew_X9_momentY : GoodIn wsX10_isStableAnew (wsV RX10 250 RX9 yX9_momentY wsX9_momentY) := goodIn_app (goodIn_r _ [14, 15, 16, 8] rfl (by decide +kernel)) ggX10_isStableAnew_X9_momentY
set_option maxRecDepth 20000 in
theorem ggX10_isStableAnew_X2_weight : GoodIn wsX10_isStableAnew wsX2_weight := goodIn_r _ [24, 25, 82, 83, 84, 85, 86, 87, 88] rfl (by decide +kernel)
set_option maxRecDepth 20000 in
theorem gX10_isStableAnew_X2_weight : GoodIn wsX10_isStableAnew (wsV RX10 253 RX2 yX2_weight wsX2_weight) := goodIn_app (goodIn_r _ [20, 21, 22, 23] rfl (by decide +kernel)) ggX10_isStableAnew_X2_weight
set_option maxRecDepth 20000 in
theorem ggX10_isStableAnew_X6_gather : GoodIn wsX10_isStableAnew wsX6_gather := goodIn_r _ [30, 31, 32, 33, 34, 35, 36, 37, 38, 39, 40, 41, 42, 43, 44, 45, 46, 47, 48, 89, 90, 91, 92] rfl (by decide +kernel)
set_option maxRecDepth 20000 in
theorem gX10_isStableAnew_X6_gather : GoodIn wsX10_isStableAnew (wsV RX10 256 RX6 yX6_gather wsX6_gather) := goodIn_app (goodIn_r _ [26, 27, 28, 29] rfl (by decide +kernel)) ggX10_isStableAnew_X6_gather
set_option maxRecDepth 20000 in
theorem ggX10_isStableAnew_X6_holdMoment : GoodIn wsX10_isStableAnew wsX6_holdMoment := goodIn_r _ [52, 31, 32, 33, 34, 35, 36, 37, 38, 39, 53, 54, 55, 29, 56, 57, 58, 59, 60, 61, 62, 63, 64, 89, 90, 91, 92] rfl (by decide +kernel)
set_option maxRecDepth 20000 in
theorem gX10_isStableAnew_X6_holdMoment : GoodIn wsX10_isStableAnew (wsV RX10 260 RX6 yX6_holdMoment wsX6_holdMoment) := goodIn_app (goodIn_r _ [49, 50, 51, 29] rfl (by decide +kernel)) ggX10_isStableAnew_X6_holdMoment
theorem dX10_isStableAnew_0 : decode cX10_isStableAnew 0 = .ok (.aload_n 0, 1) := by decide +kernel
theorem dX10_isStableAnew_1 : decode cX10_isStableAnew 1 = .ok (.getfield 41, 3) := by decide +kernel
theorem dX10_isStableAnew_4 : decode cX10_isStableAnew 4 = .ok (.aload_n 0, 1) := by decide +kernel
theorem dX10_isStableAnew_5 : decode cX10_isStableAnew 5 = .ok (.getfield 31, 3) := by decide +kernel
theorem dX10_isStableAnew_8 : decode cX10_isStableAnew 8 = .ok (.getfield 235, 3) := by decide +kernel
theorem dX10_isStableAnew_11 : decode cX10_isStableAnew 11 = .ok (.aload_n 0, 1) := by decide +kernel
theorem dX10_isStableAnew_12 : decode cX10_isStableAnew 12 = .ok (.getfield 31, 3) := by decide +kernel
theorem dX10_isStableAnew_15 : decode cX10_isStableAnew 15 = .ok (.invokevirtual 247, 3) := by decide +kernel
theorem dX10_isStableAnew_18 : decode cX10_isStableAnew 18 = .ok (.aload_n 0, 1) := by decide +kernel
theorem dX10_isStableAnew_19 : decode cX10_isStableAnew 19 = .ok (.getfield 31, 3) := by decide +kernel
theorem dX10_isStableAnew_22 : decode cX10_isStableAnew 22 = .ok (.invokevirtual 250, 3) := by decide +kernel
theorem dX10_isStableAnew_25 : decode cX10_isStableAnew 25 = .ok (.aload_n 0, 1) := by decide +kernel
theorem dX10_isStableAnew_26 : decode cX10_isStableAnew 26 = .ok (.getfield 22, 3) := by decide +kernel
theorem dX10_isStableAnew_29 : decode cX10_isStableAnew 29 = .ok (.invokevirtual 253, 3) := by decide +kernel
theorem dX10_isStableAnew_32 : decode cX10_isStableAnew 32 = .ok (.invokevirtual 256, 3) := by decide +kernel
theorem dX10_isStableAnew_35 : decode cX10_isStableAnew 35 = .ok (.aload_n 0, 1) := by decide +kernel
theorem dX10_isStableAnew_36 : decode cX10_isStableAnew 36 = .ok (.getfield 41, 3) := by decide +kernel
theorem dX10_isStableAnew_39 : decode cX10_isStableAnew 39 = .ok (.invokevirtual 260, 3) := by decide +kernel
theorem dX10_isStableAnew_42 : decode cX10_isStableAnew 42 = .ok (.ireturn, 1) := by decide +kernel
set_option maxRecDepth 20000 in
theorem ggX10_margin_X9_holdsWithout : GoodIn wsX10_margin wsX9_holdsWithout := goodIn_r _ [10, 11, 12, 13, 14, 15, 16, 17, 18, 19, 20, 21, 22, 23, 24, 25, 26, 27, 28, 29, 30, 31, 32, 33, 34, 35, 36, 37, 38, 39, 40, 41, 9, 42, 43, 44, 45, 46, 47, 48, 49, 50, 51, 52, 53, 54, 55, 56, 57, 58, 59, 60, 61, 62, 63, 64, 65, 66, 67, 68, 69, 70, 71, 72, 98, 99, 100, 101, 102, 103, 104, 105, 106, 107, 108, 109, 110, 111, 112, 113, 114] rfl (by decide +kernel)
set_option maxRecDepth 20000 in
theorem gX10_margin_X9_holdsWithout : GoodIn wsX10_margin (wsV RX10 244 RX9 yX9_holdsWithout wsX9_holdsWithout) := goodIn_app (goodIn_r _ [6, 7, 8, 9] rfl (by decide +kernel)) ggX10_margin_X9_holdsWithout
set_option maxRecDepth 20000 in
theorem ggX10_margin_X9_momentX : GoodIn wsX10_margin wsX9_momentX := goodIn_r _ [42, 43, 13, 44, 45, 98, 99, 100, 101, 102, 103, 108, 109, 110, 111, 112, 113, 114] rfl (by decide +kernel)
set_option maxRecDepth 20000 in
theorem gX10_margin_X9_momentX : GoodIn wsX10_margin (wsV RX10 247 RX9 yX9_momentX wsX9_momentX) := goodIn_app (goodIn_r _ [73, 40, 41, 9] rfl (by decide +kernel)) ggX10_margin_X9_momentX
set_option maxRecDepth 20000 in
theorem ggX10_margin_X9_momentY : GoodIn wsX10_margin wsX9_momentY := goodIn_r _ [49, 50, 13, 44, 51, 98, 99, 100, 101, 102, 103, 108, 109, 110, 111, 112, 113, 114] rfl (by decide +kernel)
set_option maxRecDepth 20000 in
theorem gX10_margin_X9_momentY : GoodIn wsX10_margin (wsV RX10 250 RX9 yX9_momentY wsX9_momentY) := goodIn_app (goodIn_r _ [74, 47, 48, 9] rfl (by decide +kernel)) ggX10_margin_X9_momentY
set_option maxRecDepth 20000 in
theorem ggX10_margin_X2_weight : GoodIn wsX10_margin wsX2_weight := goodIn_r _ [56, 57, 108, 109, 110, 111, 112, 113, 114] rfl (by decide +kernel)
set_option maxRecDepth 20000 in
theorem gX10_margin_X2_weight : GoodIn wsX10_margin (wsV RX10 253 RX2 yX2_weight wsX2_weight) := goodIn_app (goodIn_r _ [75, 53, 54, 55] rfl (by decide +kernel)) ggX10_margin_X2_weight
set_option maxRecDepth 20000 in
theorem ggX10_margin_X4_leastSquare : GoodIn wsX10_margin wsX4_leastSquare := goodIn_r _ [79, 24, 25, 26, 27, 28, 29, 30, 31, 67, 68, 17, 69, 80, 81, 82, 104, 105, 106, 107] rfl (by decide +kernel)
set_option maxRecDepth 20000 in
theorem gX10_margin_X4_leastSquare : GoodIn wsX10_margin (wsV RX10 271 RX4 yX4_leastSquare wsX4_leastSquare) := goodIn_app (goodIn_r _ [76, 77, 78, 17] rfl (by decide +kernel)) ggX10_margin_X4_leastSquare
set_option maxRecDepth 20000 in
theorem ggX10_margin_X10_bitsOf : GoodIn wsX10_margin wsX10_bitsOf := goodIn_r _ [85, 86] rfl (by decide +kernel)
set_option maxRecDepth 20000 in
theorem gX10_margin_X10_bitsOf : GoodIn wsX10_margin (va_wsS RX10 275 yX10_bitsOf wsX10_bitsOf) := goodIn_app (goodIn_r _ [83, 84, 71] rfl (by decide +kernel)) ggX10_margin_X10_bitsOf
theorem dX10_margin_0 : decode cX10_margin 0 = .ok (.aload_n 0, 1) := by decide +kernel
theorem dX10_margin_1 : decode cX10_margin 1 = .ok (.getfield 31, 3) := by decide +kernel
theorem dX10_margin_4 : decode cX10_margin 4 = .ok (.iconst (-1), 1) := by decide +kernel
theorem dX10_margin_5 : decode cX10_margin 5 = .ok (.invokevirtual 244, 3) := by decide +kernel
theorem dX10_margin_8 : decode cX10_margin 8 = .ok (.ifCond .ne 7, 3) := by decide +kernel
theorem dX10_margin_11 : decode cX10_margin 11 = .ok (.ldc_w 263, 3) := by decide +kernel
theorem dX10_margin_14 : decode cX10_margin 14 = .ok (.ireturn, 1) := by decide +kernel
theorem dX10_margin_15 : decode cX10_margin 15 = .ok (.aload_n 0, 1) := by decide +kernel
theorem dX10_margin_16 : decode cX10_margin 16 = .ok (.getfield 31, 3) := by decide +kernel
theorem dX10_margin_19 : decode cX10_margin 19 = .ok (.getfield 264, 3) := by decide +kernel
theorem dX10_margin_22 : decode cX10_margin 22 = .ok (.astore_n 1, 1) := by decide +kernel
theorem dX10_margin_23 : decode cX10_margin 23 = .ok (.aload_n 1, 1) := by decide +kernel
theorem dX10_margin_24 : decode cX10_margin 24 = .ok (.getfield 268, 3) := by decide +kernel
theorem dX10_margin_27 : decode cX10_margin 27 = .ok (.iconst 3, 1) := by decide +kernel
theorem dX10_margin_28 : decode cX10_margin 28 = .ok (.if_icmp .ge 7, 3) := by decide +kernel
theorem dX10_margin_31 : decode cX10_margin 31 = .ok (.iconst 0, 1) := by decide +kernel
theorem dX10_margin_32 : decode cX10_margin 32 = .ok (.goto 31, 3) := by decide +kernel
theorem dX10_margin_35 : decode cX10_margin 35 = .ok (.aload_n 1, 1) := by decide +kernel
theorem dX10_margin_36 : decode cX10_margin 36 = .ok (.aload_n 0, 1) := by decide +kernel
theorem dX10_margin_37 : decode cX10_margin 37 = .ok (.getfield 31, 3) := by decide +kernel
theorem dX10_margin_40 : decode cX10_margin 40 = .ok (.invokevirtual 247, 3) := by decide +kernel
theorem dX10_margin_43 : decode cX10_margin 43 = .ok (.aload_n 0, 1) := by decide +kernel
theorem dX10_margin_44 : decode cX10_margin 44 = .ok (.getfield 31, 3) := by decide +kernel
theorem dX10_margin_47 : decode cX10_margin 47 = .ok (.invokevirtual 250, 3) := by decide +kernel
theorem dX10_margin_50 : decode cX10_margin 50 = .ok (.aload_n 0, 1) := by decide +kernel
theorem dX10_margin_51 : decode cX10_margin 51 = .ok (.getfield 22, 3) := by decide +kernel
theorem dX10_margin_54 : decode cX10_margin 54 = .ok (.invokevirtual 253, 3) := by decide +kernel
theorem dX10_margin_57 : decode cX10_margin 57 = .ok (.invokevirtual 271, 3) := by decide +kernel
theorem dX10_margin_60 : decode cX10_margin 60 = .ok (.invokestatic 275, 3) := by decide +kernel
theorem dX10_margin_63 : decode cX10_margin 63 = .ok (.ireturn, 1) := by decide +kernel
set_option maxRecDepth 20000 in
theorem ggX10_corner_X4_wrap : GoodIn wsX10_corner wsX4_wrap := goodIn_r _ [12, 13, 14, 15, 16, 17, 18, 19, 20, 21, 22, 23, 24, 25, 26, 27, 28, 29, 30, 31, 11, 32, 51, 52, 53, 54] rfl (by decide +kernel)
set_option maxRecDepth 20000 in
theorem gX10_corner_X4_wrap : GoodIn wsX10_corner (wsV RX10 281 RX4 yX4_wrap wsX4_wrap) := goodIn_app (goodIn_r _ [8, 9, 10, 11] rfl (by decide +kernel)) ggX10_corner_X4_wrap
set_option maxRecDepth 20000 in
theorem ggX10_corner_X8_at : GoodIn wsX10_corner wsX8_at := goodIn_r _ [24, 25, 54] rfl (by decide +kernel)
set_option maxRecDepth 20000 in
theorem gX10_corner_X8_at : GoodIn wsX10_corner (wsV RX10 109 RX8 yX8_at wsX8_at) := goodIn_app (goodIn_r _ [33, 21, 22, 23] rfl (by decide +kernel)) ggX10_corner_X8_at
theorem dX10_corner_0 : decode cX10_corner 0 = .ok (.iload_n 1, 1) := by decide +kernel
theorem dX10_corner_1 : decode cX10_corner 1 = .ok (.ifCond .ge 14, 3) := by decide +kernel
theorem dX10_corner_4 : decode cX10_corner 4 = .ok (.new 89, 3) := by decide +kernel
theorem dX10_corner_7 : decode cX10_corner 7 = .ok (.dup, 1) := by decide +kernel
theorem dX10_corner_8 : decode cX10_corner 8 = .ok (.ldc_w 279, 3) := by decide +kernel
theorem dX10_corner_11 : decode cX10_corner 11 = .ok (.invokespecial 93, 3) := by decide +kernel
theorem dX10_corner_14 : decode cX10_corner 14 = .ok (.athrow, 1) := by decide +kernel
theorem dX10_corner_15 : decode cX10_corner 15 = .ok (.aload_n 0, 1) := by decide +kernel
theorem dX10_corner_16 : decode cX10_corner 16 = .ok (.getfield 31, 3) := by decide +kernel
theorem dX10_corner_19 : decode cX10_corner 19 = .ok (.getfield 264, 3) := by decide +kernel
theorem dX10_corner_22 : decode cX10_corner 22 = .ok (.aload_n 0, 1) := by decide +kernel
theorem dX10_corner_23 : decode cX10_corner 23 = .ok (.getfield 31, 3) := by decide +kernel
theorem dX10_corner_26 : decode cX10_corner 26 = .ok (.getfield 235, 3) := by decide +kernel
theorem dX10_corner_29 : decode cX10_corner 29 = .ok (.iconst (-1), 1) := by decide +kernel
theorem dX10_corner_30 : decode cX10_corner 30 = .ok (.invokevirtual 281, 3) := by decide +kernel
theorem dX10_corner_33 : decode cX10_corner 33 = .ok (.iload_n 1, 1) := by decide +kernel
theorem dX10_corner_34 : decode cX10_corner 34 = .ok (.aload_n 0, 1) := by decide +kernel
theorem dX10_corner_35 : decode cX10_corner 35 = .ok (.getfield 31, 3) := by decide +kernel
theorem dX10_corner_38 : decode cX10_corner 38 = .ok (.getfield 264, 3) := by decide +kernel
theorem dX10_corner_41 : decode cX10_corner 41 = .ok (.getfield 268, 3) := by decide +kernel
theorem dX10_corner_44 : decode cX10_corner 44 = .ok (.if_icmp .ge 20, 3) := by decide +kernel
theorem dX10_corner_47 : decode cX10_corner 47 = .ok (.aload_n 0, 1) := by decide +kernel
theorem dX10_corner_48 : decode cX10_corner 48 = .ok (.getfield 31, 3) := by decide +kernel
theorem dX10_corner_51 : decode cX10_corner 51 = .ok (.getfield 264, 3) := by decide +kernel
theorem dX10_corner_54 : decode cX10_corner 54 = .ok (.getfield 285, 3) := by decide +kernel
theorem dX10_corner_57 : decode cX10_corner 57 = .ok (.iload_n 1, 1) := by decide +kernel
theorem dX10_corner_58 : decode cX10_corner 58 = .ok (.invokevirtual 109, 3) := by decide +kernel
theorem dX10_corner_61 : decode cX10_corner 61 = .ok (.goto 4, 3) := by decide +kernel
theorem dX10_corner_64 : decode cX10_corner 64 = .ok (.iconst (-1), 1) := by decide +kernel
theorem dX10_corner_65 : decode cX10_corner 65 = .ok (.ireturn, 1) := by decide +kernel
set_option maxRecDepth 20000 in
theorem ggX10_foothold_X10_isLeg : GoodIn wsX10_foothold wsX10_isLeg := goodIn_r _ [8, 9, 10, 57, 58, 59, 60, 61, 62, 63, 64, 65, 66, 67, 68, 69, 70, 71, 72, 73, 74] rfl (by decide +kernel)
set_option maxRecDepth 20000 in
theorem gX10_foothold_X10_isLeg : GoodIn wsX10_foothold (wsV RX10 152 RX10 yX10_isLeg wsX10_isLeg) := goodIn_app (goodIn_r _ [4, 5, 6, 7] rfl (by decide +kernel)) ggX10_foothold_X10_isLeg
set_option maxRecDepth 20000 in
theorem ggX10_foothold_X9_bestPoint : GoodIn wsX10_foothold wsX9_bestPoint := goodIn_r _ [15, 16, 17, 18, 19, 20, 21, 22, 23, 24, 25, 26, 27, 14, 28, 29, 30, 31, 32, 33, 34, 35, 36, 37, 38, 39, 40, 41, 42, 43, 44, 45, 46, 47, 48, 49, 50, 51, 7, 52, 53, 54, 55, 56, 75, 76, 77, 78, 79, 80, 68, 69, 70, 71, 72, 73, 74, 81, 82, 83, 84, 85] rfl (by decide +kernel)
set_option maxRecDepth 20000 in
theorem gX10_foothold_X9_bestPoint : GoodIn wsX10_foothold (wsV RX10 288 RX9 yX9_bestPoint wsX9_bestPoint) := goodIn_app (goodIn_r _ [11, 12, 13, 14] rfl (by decide +kernel)) ggX10_foothold_X9_bestPoint
theorem dX10_foothold_0 : decode cX10_foothold 0 = .ok (.aload_n 0, 1) := by decide +kernel
theorem dX10_foothold_1 : decode cX10_foothold 1 = .ok (.iload_n 1, 1) := by decide +kernel
theorem dX10_foothold_2 : decode cX10_foothold 2 = .ok (.invokevirtual 152, 3) := by decide +kernel
theorem dX10_foothold_5 : decode cX10_foothold 5 = .ok (.ifCond .ne 13, 3) := by decide +kernel
theorem dX10_foothold_8 : decode cX10_foothold 8 = .ok (.new 155, 3) := by decide +kernel
theorem dX10_foothold_11 : decode cX10_foothold 11 = .ok (.dup, 1) := by decide +kernel
theorem dX10_foothold_12 : decode cX10_foothold 12 = .ok (.ldc 157, 2) := by decide +kernel
theorem dX10_foothold_14 : decode cX10_foothold 14 = .ok (.invokespecial 159, 3) := by decide +kernel
theorem dX10_foothold_17 : decode cX10_foothold 17 = .ok (.athrow, 1) := by decide +kernel
theorem dX10_foothold_18 : decode cX10_foothold 18 = .ok (.aload_n 0, 1) := by decide +kernel
theorem dX10_foothold_19 : decode cX10_foothold 19 = .ok (.getfield 31, 3) := by decide +kernel
theorem dX10_foothold_22 : decode cX10_foothold 22 = .ok (.iload_n 1, 1) := by decide +kernel
theorem dX10_foothold_23 : decode cX10_foothold 23 = .ok (.invokevirtual 288, 3) := by decide +kernel
theorem dX10_foothold_26 : decode cX10_foothold 26 = .ok (.ireturn, 1) := by decide +kernel
set_option maxRecDepth 20000 in
theorem ggX10_wouldLift_X10_isLeg : GoodIn wsX10_wouldLift wsX10_isLeg := goodIn_r _ [10, 11, 12, 122, 123, 124, 125, 126, 127, 128, 129, 130, 131, 132, 139, 140, 141, 142, 143, 144, 145] rfl (by decide +kernel)
set_option maxRecDepth 20000 in
theorem gX10_wouldLift_X10_isLeg : GoodIn wsX10_wouldLift (wsV RX10 152 RX10 yX10_isLeg wsX10_isLeg) := goodIn_app (goodIn_r _ [6, 7, 8, 9] rfl (by decide +kernel)) ggX10_wouldLift_X10_isLeg
set_option maxRecDepth 20000 in
theorem ggX10_wouldLift_X10_mayLift : GoodIn wsX10_wouldLift wsX10_mayLift := goodIn_r _ [16, 17, 18, 4, 5, 19, 20, 21, 22, 23, 24, 25, 26, 27, 28, 29, 30, 31, 32, 33, 34, 35, 36, 37, 38, 39, 40, 41, 42, 43, 44, 45, 46, 47, 48, 49, 50, 51, 52, 53, 54, 55, 56, 57, 58, 59, 60, 61, 62, 63, 64, 65, 66, 67, 68, 69, 70, 71, 72, 73, 74, 75, 76, 77, 78, 79, 80, 81, 82, 83, 84, 9, 85, 122, 123, 124, 125, 126, 127, 128, 129, 130, 131, 132, 133, 134, 135, 136, 137, 138, 146, 147, 148, 149, 139, 140, 141, 142, 143, 144, 145] rfl (by decide +kernel)
set_option maxRecDepth 20000 in
theorem gX10_wouldLift_X10_mayLift : GoodIn wsX10_wouldLift (wsV RX10 291 RX10 yX10_mayLift wsX10_mayLift) := goodIn_app (goodIn_r _ [13, 14, 15, 9] rfl (by decide +kernel)) ggX10_wouldLift_X10_mayLift
set_option maxRecDepth 20000 in
theorem ggX10_wouldLift_X9_copy : GoodIn wsX10_wouldLift wsX9_copy := goodIn_r _ [89, 57, 64, 31, 90, 91, 92, 22, 93, 24, 94, 20, 21, 23, 133, 134, 135, 136, 137, 138, 146] rfl (by decide +kernel)
set_option maxRecDepth 20000 in
theorem gX10_wouldLift_X9_copy : GoodIn wsX10_wouldLift (wsV RX10 294 RX9 yX9_copy wsX9_copy) := goodIn_app (goodIn_r _ [86, 87, 88, 28] rfl (by decide +kernel)) ggX10_wouldLift_X9_copy
set_option maxRecDepth 20000 in
theorem ggX10_wouldLift_X8_put : GoodIn wsX10_wouldLift wsX8_put := goodIn_r _ [49, 24, 146] rfl (by decide +kernel)
set_option maxRecDepth 20000 in
theorem gX10_wouldLift_X8_put : GoodIn wsX10_wouldLift (wsV RX10 115 RX8 yX8_put wsX8_put) := goodIn_app (goodIn_r _ [95, 47, 48, 22] rfl (by decide +kernel)) ggX10_wouldLift_X8_put
set_option maxRecDepth 20000 in
theorem ggX10_wouldLift_X9_sinkAway : GoodIn wsX10_wouldLift wsX9_sinkAway := goodIn_r _ [99, 100, 101, 102, 28, 103, 31, 104, 105, 106, 107, 108, 109, 32, 66, 67, 68, 69, 70, 71, 110, 111, 112, 113, 114, 20, 21, 22, 23, 24, 115, 9, 116, 117, 118, 119, 120, 121, 47, 48, 49, 133, 134, 135, 136, 137, 138, 150, 151, 152, 153, 139, 140, 141, 142, 143, 144, 145, 146] rfl (by decide +kernel)
set_option maxRecDepth 20000 in
theorem gX10_wouldLift_X9_sinkAway : GoodIn wsX10_wouldLift (wsV RX10 298 RX9 yX9_sinkAway wsX9_sinkAway) := goodIn_app (goodIn_r _ [96, 97, 98, 28] rfl (by decide +kernel)) ggX10_wouldLift_X9_sinkAway
set_option maxRecDepth 20000 in
theorem ggX10_wouldLift_X9_holdsWithout : GoodIn wsX10_wouldLift wsX9_holdsWithout := goodIn_r _ [29, 30, 31, 32, 33, 34, 35, 36, 37, 38, 39, 40, 41, 42, 43, 44, 45, 20, 21, 22, 23, 24, 46, 47, 48, 49, 50, 51, 52, 53, 54, 55, 28, 56, 57, 58, 59, 60, 61, 62, 63, 64, 65, 66, 67, 68, 69, 70, 71, 72, 73, 74, 75, 76, 77, 78, 79, 80, 81, 82, 83, 84, 9, 85, 133, 134, 135, 136, 137, 138, 147, 148, 149, 146, 139, 140, 141, 142, 143, 144, 145] rfl (by decide +kernel)
set_option maxRecDepth 20000 in
theorem gX10_wouldLift_X9_holdsWithout : GoodIn wsX10_wouldLift (wsV RX10 244 RX9 yX9_holdsWithout wsX9_holdsWithout) := goodIn_app (goodIn_r _ [25, 26, 27, 28] rfl (by decide +kernel)) ggX10_wouldLift_X9_holdsWithout
theorem dX10_wouldLift_0 : decode cX10_wouldLift 0 = .ok (.aload_n 0, 1) := by decide +kernel
theorem dX10_wouldLift_1 : decode cX10_wouldLift 1 = .ok (.iload_n 1, 1) := by decide +kernel
theorem dX10_wouldLift_2 : decode cX10_wouldLift 2 = .ok (.invokevirtual 152, 3) := by decide +kernel
theorem dX10_wouldLift_5 : decode cX10_wouldLift 5 = .ok (.ifCond .ne 13, 3) := by decide +kernel
theorem dX10_wouldLift_8 : decode cX10_wouldLift 8 = .ok (.new 155, 3) := by decide +kernel
theorem dX10_wouldLift_11 : decode cX10_wouldLift 11 = .ok (.dup, 1) := by decide +kernel
theorem dX10_wouldLift_12 : decode cX10_wouldLift 12 = .ok (.ldc 157, 2) := by decide +kernel
theorem dX10_wouldLift_14 : decode cX10_wouldLift 14 = .ok (.invokespecial 159, 3) := by decide +kernel
theorem dX10_wouldLift_17 : decode cX10_wouldLift 17 = .ok (.athrow, 1) := by decide +kernel
theorem dX10_wouldLift_18 : decode cX10_wouldLift 18 = .ok (.aload_n 0, 1) := by decide +kernel
theorem dX10_wouldLift_19 : decode cX10_wouldLift 19 = .ok (.iload_n 1, 1) := by decide +kernel
theorem dX10_wouldLift_20 : decode cX10_wouldLift 20 = .ok (.invokevirtual 291, 3) := by decide +kernel
theorem dX10_wouldLift_23 : decode cX10_wouldLift 23 = .ok (.ifCond .ne 5, 3) := by decide +kernel
theorem dX10_wouldLift_26 : decode cX10_wouldLift 26 = .ok (.iconst (-1), 1) := by decide +kernel
theorem dX10_wouldLift_27 : decode cX10_wouldLift 27 = .ok (.ireturn, 1) := by decide +kernel
theorem dX10_wouldLift_28 : decode cX10_wouldLift 28 = .ok (.aload_n 0, 1) := by decide +kernel
theorem dX10_wouldLift_29 : decode cX10_wouldLift 29 = .ok (.getfield 35, 3) := by decide +kernel
theorem dX10_wouldLift_32 : decode cX10_wouldLift 32 = .ok (.aload_n 0, 1) := by decide +kernel
theorem dX10_wouldLift_33 : decode cX10_wouldLift 33 = .ok (.getfield 31, 3) := by decide +kernel
theorem dX10_wouldLift_36 : decode cX10_wouldLift 36 = .ok (.invokevirtual 294, 3) := by decide +kernel
theorem dX10_wouldLift_39 : decode cX10_wouldLift 39 = .ok (.aload_n 0, 1) := by decide +kernel
theorem dX10_wouldLift_40 : decode cX10_wouldLift 40 = .ok (.getfield 35, 3) := by decide +kernel
theorem dX10_wouldLift_43 : decode cX10_wouldLift 43 = .ok (.getfield 235, 3) := by decide +kernel
theorem dX10_wouldLift_46 : decode cX10_wouldLift 46 = .ok (.iload_n 1, 1) := by decide +kernel
theorem dX10_wouldLift_47 : decode cX10_wouldLift 47 = .ok (.iconst (-1), 1) := by decide +kernel
theorem dX10_wouldLift_48 : decode cX10_wouldLift 48 = .ok (.invokevirtual 115, 3) := by decide +kernel
theorem dX10_wouldLift_51 : decode cX10_wouldLift 51 = .ok (.aload_n 0, 1) := by decide +kernel
theorem dX10_wouldLift_52 : decode cX10_wouldLift 52 = .ok (.getfield 35, 3) := by decide +kernel
theorem dX10_wouldLift_55 : decode cX10_wouldLift 55 = .ok (.invokevirtual 298, 3) := by decide +kernel
theorem dX10_wouldLift_58 : decode cX10_wouldLift 58 = .ok (.ifCond .ne 5, 3) := by decide +kernel
theorem dX10_wouldLift_61 : decode cX10_wouldLift 61 = .ok (.iconst 0, 1) := by decide +kernel
theorem dX10_wouldLift_62 : decode cX10_wouldLift 62 = .ok (.ireturn, 1) := by decide +kernel
theorem dX10_wouldLift_63 : decode cX10_wouldLift 63 = .ok (.aload_n 0, 1) := by decide +kernel
theorem dX10_wouldLift_64 : decode cX10_wouldLift 64 = .ok (.getfield 35, 3) := by decide +kernel
theorem dX10_wouldLift_67 : decode cX10_wouldLift 67 = .ok (.iconst (-1), 1) := by decide +kernel
theorem dX10_wouldLift_68 : decode cX10_wouldLift 68 = .ok (.invokevirtual 244, 3) := by decide +kernel
theorem dX10_wouldLift_71 : decode cX10_wouldLift 71 = .ok (.ifCond .eq 7, 3) := by decide +kernel
theorem dX10_wouldLift_74 : decode cX10_wouldLift 74 = .ok (.iconst 1, 1) := by decide +kernel
theorem dX10_wouldLift_75 : decode cX10_wouldLift 75 = .ok (.goto 4, 3) := by decide +kernel
theorem dX10_wouldLift_78 : decode cX10_wouldLift 78 = .ok (.iconst 2, 1) := by decide +kernel
theorem dX10_wouldLift_79 : decode cX10_wouldLift 79 = .ok (.ireturn, 1) := by decide +kernel
set_option maxRecDepth 20000 in
theorem ggX10_fewest_X10_pointAt : GoodIn wsX10_fewest wsX10_pointAt := goodIn_r _ [9] rfl (by decide +kernel)
set_option maxRecDepth 20000 in
theorem gX10_fewest_X10_pointAt : GoodIn wsX10_fewest (va_wsS RX10 81 yX10_pointAt wsX10_pointAt) := goodIn_app (goodIn_r _ [6, 7, 8] rfl (by decide +kernel)) ggX10_fewest_X10_pointAt
set_option maxRecDepth 20000 in
theorem ggX10_fewest_X7_start : GoodIn wsX10_fewest wsX7_start := goodIn_r _ [14, 15, 16, 17, 18, 19, 20, 21, 22, 23, 24, 25, 26, 27, 28, 29, 30, 31, 32, 33, 34, 167, 168, 169, 170, 171, 172, 173, 174, 175, 176] rfl (by decide +kernel)
set_option maxRecDepth 20000 in
theorem gX10_fewest_X7_start : GoodIn wsX10_fewest (wsV RX10 301 RX7 yX7_start wsX7_start) := goodIn_app (goodIn_r _ [10, 11, 12, 13] rfl (by decide +kernel)) ggX10_fewest_X7_start
set_option maxRecDepth 20000 in
theorem ggX10_fewest_X7_away : GoodIn wsX10_fewest wsX7_away := goodIn_r _ [38, 16, 39, 15, 40, 41, 42, 43, 44, 45, 8, 46, 47, 48, 167, 168, 169, 170, 171, 172, 173, 174, 175] rfl (by decide +kernel)
set_option maxRecDepth 20000 in
theorem gX10_fewest_X7_away : GoodIn wsX10_fewest (wsV RX10 305 RX7 yX7_away wsX7_away) := goodIn_app (goodIn_r _ [35, 36, 37, 13] rfl (by decide +kernel)) ggX10_fewest_X7_away
set_option maxRecDepth 20000 in
theorem ggX10_fewest_X10_isReachedBy : GoodIn wsX10_fewest wsX10_isReachedBy := goodIn_r _ [51, 35, 36, 37, 13, 38, 16, 39, 15, 40, 41, 42, 43, 44, 45, 8, 46, 47, 48, 52, 53, 54, 55, 56, 57, 17, 18, 19, 20, 21, 22, 23, 24, 25, 26, 27, 28, 29, 30, 31, 32, 33, 34, 58, 59, 60, 61, 7, 9, 62, 63, 64, 65, 66, 67, 68, 69, 70, 71, 72, 73, 74, 75, 76, 77, 78, 79, 80, 81, 82, 83, 84, 85, 86, 87, 88, 89, 90, 91, 92, 93, 94, 95, 96, 97, 98, 99, 100, 101, 102, 103, 104, 105, 106, 107, 108, 109, 110, 111, 112, 113, 114, 115, 116, 117, 118, 119, 120, 121, 122, 123, 124, 125, 126, 127, 128, 129, 130, 131, 132, 133, 134, 135, 136, 137, 138, 139, 140, 141, 142, 143, 144, 145, 146, 147, 148, 149, 150, 151, 152, 153, 154, 155, 49, 50, 167, 168, 169, 170, 171, 172, 173, 174, 175, 177, 178, 179, 180, 181, 182, 183, 176, 184, 185, 186, 187, 188, 189, 190] rfl (by decide +kernel)
set_option maxRecDepth 20000 in
theorem gX10_fewest_X10_isReachedBy : GoodIn wsX10_fewest (va_wsS RX10 308 yX10_isReachedBy wsX10_isReachedBy) := goodIn_app (goodIn_r _ [49, 50, 8] rfl (by decide +kernel)) ggX10_fewest_X10_isReachedBy
theorem dX10_fewest_0 : decode cX10_fewest 0 = .ok (.iload_n 1, 1) := by decide +kernel
theorem dX10_fewest_1 : decode cX10_fewest 1 = .ok (.iload_n 2, 1) := by decide +kernel
theorem dX10_fewest_2 : decode cX10_fewest 2 = .ok (.invokestatic 81, 3) := by decide +kernel
theorem dX10_fewest_5 : decode cX10_fewest 5 = .ok (.istore_n 3, 1) := by decide +kernel
theorem dX10_fewest_6 : decode cX10_fewest 6 = .ok (.iload_n 3, 1) := by decide +kernel
theorem dX10_fewest_7 : decode cX10_fewest 7 = .ok (.iconst (-1), 1) := by decide +kernel
theorem dX10_fewest_8 : decode cX10_fewest 8 = .ok (.if_icmp .ne 13, 3) := by decide +kernel
theorem dX10_fewest_11 : decode cX10_fewest 11 = .ok (.new 89, 3) := by decide +kernel
theorem dX10_fewest_14 : decode cX10_fewest 14 = .ok (.dup, 1) := by decide +kernel
theorem dX10_fewest_15 : decode cX10_fewest 15 = .ok (.ldc 195, 2) := by decide +kernel
theorem dX10_fewest_17 : decode cX10_fewest 17 = .ok (.invokespecial 93, 3) := by decide +kernel
theorem dX10_fewest_20 : decode cX10_fewest 20 = .ok (.athrow, 1) := by decide +kernel
theorem dX10_fewest_21 : decode cX10_fewest 21 = .ok (.aload_n 0, 1) := by decide +kernel
theorem dX10_fewest_22 : decode cX10_fewest 22 = .ok (.getfield 73, 3) := by decide +kernel
theorem dX10_fewest_25 : decode cX10_fewest 25 = .ok (.ifCond .ne 5, 3) := by decide +kernel
theorem dX10_fewest_28 : decode cX10_fewest 28 = .ok (.iconst (-1), 1) := by decide +kernel
theorem dX10_fewest_29 : decode cX10_fewest 29 = .ok (.ireturn, 1) := by decide +kernel
theorem dX10_fewest_30 : decode cX10_fewest 30 = .ok (.aload_n 0, 1) := by decide +kernel
theorem dX10_fewest_31 : decode cX10_fewest 31 = .ok (.getfield 69, 3) := by decide +kernel
theorem dX10_fewest_34 : decode cX10_fewest 34 = .ok (.aload_n 0, 1) := by decide +kernel
theorem dX10_fewest_35 : decode cX10_fewest 35 = .ok (.getfield 31, 3) := by decide +kernel
theorem dX10_fewest_38 : decode cX10_fewest 38 = .ok (.iload_n 3, 1) := by decide +kernel
theorem dX10_fewest_39 : decode cX10_fewest 39 = .ok (.invokevirtual 301, 3) := by decide +kernel
theorem dX10_fewest_42 : decode cX10_fewest 42 = .ok (.aload_n 0, 1) := by decide +kernel
theorem dX10_fewest_43 : decode cX10_fewest 43 = .ok (.getfield 69, 3) := by decide +kernel
theorem dX10_fewest_46 : decode cX10_fewest 46 = .ok (.iconst 0, 1) := by decide +kernel
theorem dX10_fewest_47 : decode cX10_fewest 47 = .ok (.invokevirtual 305, 3) := by decide +kernel
theorem dX10_fewest_50 : decode cX10_fewest 50 = .ok (.istore 4, 2) := by decide +kernel
theorem dX10_fewest_52 : decode cX10_fewest 52 = .ok (.iload 4, 2) := by decide +kernel
theorem dX10_fewest_54 : decode cX10_fewest 54 = .ok (.iconst 3, 1) := by decide +kernel
theorem dX10_fewest_55 : decode cX10_fewest 55 = .ok (.if_icmp .gt 25, 3) := by decide +kernel
theorem dX10_fewest_58 : decode cX10_fewest 58 = .ok (.aload_n 0, 1) := by decide +kernel
theorem dX10_fewest_59 : decode cX10_fewest 59 = .ok (.getfield 69, 3) := by decide +kernel
theorem dX10_fewest_62 : decode cX10_fewest 62 = .ok (.iconst 0, 1) := by decide +kernel
theorem dX10_fewest_63 : decode cX10_fewest 63 = .ok (.iload 4, 2) := by decide +kernel
theorem dX10_fewest_65 : decode cX10_fewest 65 = .ok (.invokestatic 308, 3) := by decide +kernel
theorem dX10_fewest_68 : decode cX10_fewest 68 = .ok (.ifCond .eq 6, 3) := by decide +kernel
theorem dX10_fewest_71 : decode cX10_fewest 71 = .ok (.iload 4, 2) := by decide +kernel
theorem dX10_fewest_73 : decode cX10_fewest 73 = .ok (.ireturn, 1) := by decide +kernel
theorem dX10_fewest_74 : decode cX10_fewest 74 = .ok (.iinc 4 1, 3) := by decide +kernel
theorem dX10_fewest_77 : decode cX10_fewest 77 = .ok (.goto (-25), 3) := by decide +kernel
theorem dX10_fewest_80 : decode cX10_fewest 80 = .ok (.iconst (-1), 1) := by decide +kernel
theorem dX10_fewest_81 : decode cX10_fewest 81 = .ok (.ireturn, 1) := by decide +kernel
set_option maxRecDepth 20000 in
theorem ggX10_fewestAnew_X10_pointAt : GoodIn wsX10_fewestAnew wsX10_pointAt := goodIn_r _ [9] rfl (by decide +kernel)
set_option maxRecDepth 20000 in
theorem gX10_fewestAnew_X10_pointAt : GoodIn wsX10_fewestAnew (va_wsS RX10 81 yX10_pointAt wsX10_pointAt) := goodIn_app (goodIn_r _ [6, 7, 8] rfl (by decide +kernel)) ggX10_fewestAnew_X10_pointAt
set_option maxRecDepth 20000 in
theorem ggX10_fewestAnew_X7_start : GoodIn wsX10_fewestAnew wsX7_start := goodIn_r _ [14, 15, 16, 17, 18, 19, 20, 21, 22, 23, 24, 25, 26, 27, 28, 29, 30, 31, 32, 33, 34, 168, 169, 170, 171, 172, 173, 174, 175, 176, 177] rfl (by decide +kernel)
set_option maxRecDepth 20000 in
theorem gX10_fewestAnew_X7_start : GoodIn wsX10_fewestAnew (wsV RX10 301 RX7 yX7_start wsX7_start) := goodIn_app (goodIn_r _ [10, 11, 12, 13] rfl (by decide +kernel)) ggX10_fewestAnew_X7_start
set_option maxRecDepth 20000 in
theorem ggX10_fewestAnew_X10_shortestRow : GoodIn wsX10_fewestAnew wsX10_shortestRow := goodIn_r _ [37, 38, 39, 40, 41, 42, 43, 44, 13, 45, 16, 46, 15, 47, 48, 49, 50, 51, 8, 52, 53, 54, 55, 56, 57, 58, 59, 60, 17, 18, 19, 20, 21, 22, 23, 24, 25, 26, 27, 28, 29, 30, 31, 32, 33, 34, 61, 62, 63, 64, 7, 9, 65, 66, 67, 68, 69, 70, 71, 72, 73, 74, 75, 76, 77, 78, 79, 80, 81, 82, 83, 84, 85, 86, 87, 88, 89, 90, 91, 92, 93, 94, 95, 96, 97, 98, 99, 100, 101, 102, 103, 104, 105, 106, 107, 108, 109, 110, 111, 112, 113, 114, 115, 116, 117, 118, 119, 120, 121, 122, 123, 124, 125, 126, 127, 128, 129, 130, 131, 132, 133, 134, 135, 136, 137, 138, 139, 140, 141, 142, 143, 144, 145, 146, 147, 148, 149, 150, 151, 152, 153, 154, 155, 156, 35, 36, 168, 169, 170, 171, 172, 173, 174, 175, 176, 178, 179, 180, 181, 182, 183, 184, 177, 185, 186, 187, 188, 189, 190, 191] rfl (by decide +kernel)
set_option maxRecDepth 20000 in
theorem gX10_fewestAnew_X10_shortestRow : GoodIn wsX10_fewestAnew (va_wsS RX10 312 yX10_shortestRow wsX10_shortestRow) := goodIn_app (goodIn_r _ [35, 36, 8] rfl (by decide +kernel)) ggX10_fewestAnew_X10_shortestRow
theorem dX10_fewestAnew_0 : decode cX10_fewestAnew 0 = .ok (.iload_n 1, 1) := by decide +kernel
theorem dX10_fewestAnew_1 : decode cX10_fewestAnew 1 = .ok (.iload_n 2, 1) := by decide +kernel
theorem dX10_fewestAnew_2 : decode cX10_fewestAnew 2 = .ok (.invokestatic 81, 3) := by decide +kernel
theorem dX10_fewestAnew_5 : decode cX10_fewestAnew 5 = .ok (.istore_n 3, 1) := by decide +kernel
theorem dX10_fewestAnew_6 : decode cX10_fewestAnew 6 = .ok (.iload_n 3, 1) := by decide +kernel
theorem dX10_fewestAnew_7 : decode cX10_fewestAnew 7 = .ok (.iconst (-1), 1) := by decide +kernel
theorem dX10_fewestAnew_8 : decode cX10_fewestAnew 8 = .ok (.if_icmp .ne 13, 3) := by decide +kernel
theorem dX10_fewestAnew_11 : decode cX10_fewestAnew 11 = .ok (.new 89, 3) := by decide +kernel
theorem dX10_fewestAnew_14 : decode cX10_fewestAnew 14 = .ok (.dup, 1) := by decide +kernel
theorem dX10_fewestAnew_15 : decode cX10_fewestAnew 15 = .ok (.ldc 195, 2) := by decide +kernel
theorem dX10_fewestAnew_17 : decode cX10_fewestAnew 17 = .ok (.invokespecial 93, 3) := by decide +kernel
theorem dX10_fewestAnew_20 : decode cX10_fewestAnew 20 = .ok (.athrow, 1) := by decide +kernel
theorem dX10_fewestAnew_21 : decode cX10_fewestAnew 21 = .ok (.aload_n 0, 1) := by decide +kernel
theorem dX10_fewestAnew_22 : decode cX10_fewestAnew 22 = .ok (.getfield 73, 3) := by decide +kernel
theorem dX10_fewestAnew_25 : decode cX10_fewestAnew 25 = .ok (.ifCond .ne 5, 3) := by decide +kernel
theorem dX10_fewestAnew_28 : decode cX10_fewestAnew 28 = .ok (.iconst (-1), 1) := by decide +kernel
theorem dX10_fewestAnew_29 : decode cX10_fewestAnew 29 = .ok (.ireturn, 1) := by decide +kernel
theorem dX10_fewestAnew_30 : decode cX10_fewestAnew 30 = .ok (.aload_n 0, 1) := by decide +kernel
theorem dX10_fewestAnew_31 : decode cX10_fewestAnew 31 = .ok (.getfield 69, 3) := by decide +kernel
theorem dX10_fewestAnew_34 : decode cX10_fewestAnew 34 = .ok (.aload_n 0, 1) := by decide +kernel
theorem dX10_fewestAnew_35 : decode cX10_fewestAnew 35 = .ok (.getfield 31, 3) := by decide +kernel
theorem dX10_fewestAnew_38 : decode cX10_fewestAnew 38 = .ok (.iload_n 3, 1) := by decide +kernel
theorem dX10_fewestAnew_39 : decode cX10_fewestAnew 39 = .ok (.invokevirtual 301, 3) := by decide +kernel
theorem dX10_fewestAnew_42 : decode cX10_fewestAnew 42 = .ok (.aload_n 0, 1) := by decide +kernel
theorem dX10_fewestAnew_43 : decode cX10_fewestAnew 43 = .ok (.getfield 69, 3) := by decide +kernel
theorem dX10_fewestAnew_46 : decode cX10_fewestAnew 46 = .ok (.iconst 0, 1) := by decide +kernel
theorem dX10_fewestAnew_47 : decode cX10_fewestAnew 47 = .ok (.invokestatic 312, 3) := by decide +kernel
theorem dX10_fewestAnew_50 : decode cX10_fewestAnew 50 = .ok (.istore 4, 2) := by decide +kernel
theorem dX10_fewestAnew_52 : decode cX10_fewestAnew 52 = .ok (.iload 4, 2) := by decide +kernel
theorem dX10_fewestAnew_54 : decode cX10_fewestAnew 54 = .ok (.iconst 3, 1) := by decide +kernel
theorem dX10_fewestAnew_55 : decode cX10_fewestAnew 55 = .ok (.if_icmp .le 7, 3) := by decide +kernel
theorem dX10_fewestAnew_58 : decode cX10_fewestAnew 58 = .ok (.iconst (-1), 1) := by decide +kernel
theorem dX10_fewestAnew_59 : decode cX10_fewestAnew 59 = .ok (.goto 5, 3) := by decide +kernel
theorem dX10_fewestAnew_62 : decode cX10_fewestAnew 62 = .ok (.iload 4, 2) := by decide +kernel
theorem dX10_fewestAnew_64 : decode cX10_fewestAnew 64 = .ok (.ireturn, 1) := by decide +kernel
set_option maxRecDepth 20000 in
theorem ggX10_fall_X1_kept : GoodIn wsX10_fall wsX1_kept := goodIn_r _ [13, 14, 15, 16, 17, 18, 43, 44, 45, 46] rfl (by decide +kernel)
set_option maxRecDepth 20000 in
theorem gX10_fall_X1_kept : GoodIn wsX10_fall (wsV RX10 316 RX1 yX1_kept wsX1_kept) := goodIn_app (goodIn_r _ [9, 10, 11, 12] rfl (by decide +kernel)) ggX10_fall_X1_kept
set_option maxRecDepth 20000 in
theorem ggX10_fall_X8_at : GoodIn wsX10_fall wsX8_at := goodIn_r _ [23, 24, 47] rfl (by decide +kernel)
set_option maxRecDepth 20000 in
theorem gX10_fall_X8_at : GoodIn wsX10_fall (wsV RX10 109 RX8 yX8_at wsX8_at) := goodIn_app (goodIn_r _ [19, 20, 21, 22] rfl (by decide +kernel)) ggX10_fall_X8_at
set_option maxRecDepth 20000 in
theorem ggX10_fall_X10_xOf : GoodIn wsX10_fall wsX10_xOf := goodIn_r _ [28] rfl (by decide +kernel)
set_option maxRecDepth 20000 in
theorem gX10_fall_X10_xOf : GoodIn wsX10_fall (va_wsS RX10 238 yX10_xOf wsX10_xOf) := goodIn_app (goodIn_r _ [25, 26, 27] rfl (by decide +kernel)) ggX10_fall_X10_xOf
set_option maxRecDepth 20000 in
theorem ggX10_fall_X10_yOf : GoodIn wsX10_fall wsX10_yOf := goodIn_r _ [31] rfl (by decide +kernel)
set_option maxRecDepth 20000 in
theorem gX10_fall_X10_yOf : GoodIn wsX10_fall (va_wsS RX10 241 yX10_yOf wsX10_yOf) := goodIn_app (goodIn_r _ [29, 30, 27] rfl (by decide +kernel)) ggX10_fall_X10_yOf
theorem dX10_fall_0 : decode cX10_fall 0 = .ok (.iload_n 1, 1) := by decide +kernel
theorem dX10_fall_1 : decode cX10_fall 1 = .ok (.ifCond .lt 14, 3) := by decide +kernel
theorem dX10_fall_4 : decode cX10_fall 4 = .ok (.iload_n 1, 1) := by decide +kernel
theorem dX10_fall_5 : decode cX10_fall 5 = .ok (.aload_n 0, 1) := by decide +kernel
theorem dX10_fall_6 : decode cX10_fall 6 = .ok (.getfield 55, 3) := by decide +kernel
theorem dX10_fall_9 : decode cX10_fall 9 = .ok (.invokevirtual 316, 3) := by decide +kernel
theorem dX10_fall_12 : decode cX10_fall 12 = .ok (.if_icmp .lt 14, 3) := by decide +kernel
theorem dX10_fall_15 : decode cX10_fall 15 = .ok (.new 155, 3) := by decide +kernel
theorem dX10_fall_18 : decode cX10_fall 18 = .ok (.dup, 1) := by decide +kernel
theorem dX10_fall_19 : decode cX10_fall 19 = .ok (.ldc_w 319, 3) := by decide +kernel
theorem dX10_fall_22 : decode cX10_fall 22 = .ok (.invokespecial 159, 3) := by decide +kernel
theorem dX10_fall_25 : decode cX10_fall 25 = .ok (.athrow, 1) := by decide +kernel
theorem dX10_fall_26 : decode cX10_fall 26 = .ok (.iload_n 2, 1) := by decide +kernel
theorem dX10_fall_27 : decode cX10_fall 27 = .ok (.tableswitch 83 0 3 #[29, 41, 53, 68], 29) := by decide +kernel
theorem dX10_fall_56 : decode cX10_fall 56 = .ok (.aload_n 0, 1) := by decide +kernel
theorem dX10_fall_57 : decode cX10_fall 57 = .ok (.getfield 55, 3) := by decide +kernel
theorem dX10_fall_60 : decode cX10_fall 60 = .ok (.getfield 321, 3) := by decide +kernel
theorem dX10_fall_63 : decode cX10_fall 63 = .ok (.iload_n 1, 1) := by decide +kernel
theorem dX10_fall_64 : decode cX10_fall 64 = .ok (.invokevirtual 109, 3) := by decide +kernel
theorem dX10_fall_67 : decode cX10_fall 67 = .ok (.ireturn, 1) := by decide +kernel
theorem dX10_fall_68 : decode cX10_fall 68 = .ok (.aload_n 0, 1) := by decide +kernel
theorem dX10_fall_69 : decode cX10_fall 69 = .ok (.getfield 55, 3) := by decide +kernel
theorem dX10_fall_72 : decode cX10_fall 72 = .ok (.getfield 324, 3) := by decide +kernel
theorem dX10_fall_75 : decode cX10_fall 75 = .ok (.iload_n 1, 1) := by decide +kernel
theorem dX10_fall_76 : decode cX10_fall 76 = .ok (.invokevirtual 109, 3) := by decide +kernel
theorem dX10_fall_79 : decode cX10_fall 79 = .ok (.ireturn, 1) := by decide +kernel
theorem dX10_fall_80 : decode cX10_fall 80 = .ok (.aload_n 0, 1) := by decide +kernel
theorem dX10_fall_81 : decode cX10_fall 81 = .ok (.getfield 55, 3) := by decide +kernel
theorem dX10_fall_84 : decode cX10_fall 84 = .ok (.getfield 327, 3) := by decide +kernel
theorem dX10_fall_87 : decode cX10_fall 87 = .ok (.iload_n 1, 1) := by decide +kernel
theorem dX10_fall_88 : decode cX10_fall 88 = .ok (.invokevirtual 109, 3) := by decide +kernel
theorem dX10_fall_91 : decode cX10_fall 91 = .ok (.invokestatic 238, 3) := by decide +kernel
theorem dX10_fall_94 : decode cX10_fall 94 = .ok (.ireturn, 1) := by decide +kernel
theorem dX10_fall_95 : decode cX10_fall 95 = .ok (.aload_n 0, 1) := by decide +kernel
theorem dX10_fall_96 : decode cX10_fall 96 = .ok (.getfield 55, 3) := by decide +kernel
theorem dX10_fall_99 : decode cX10_fall 99 = .ok (.getfield 327, 3) := by decide +kernel
theorem dX10_fall_102 : decode cX10_fall 102 = .ok (.iload_n 1, 1) := by decide +kernel
theorem dX10_fall_103 : decode cX10_fall 103 = .ok (.invokevirtual 109, 3) := by decide +kernel
theorem dX10_fall_106 : decode cX10_fall 106 = .ok (.invokestatic 241, 3) := by decide +kernel
theorem dX10_fall_109 : decode cX10_fall 109 = .ok (.ireturn, 1) := by decide +kernel
theorem dX10_fall_110 : decode cX10_fall 110 = .ok (.new 89, 3) := by decide +kernel
theorem dX10_fall_113 : decode cX10_fall 113 = .ok (.dup, 1) := by decide +kernel
theorem dX10_fall_114 : decode cX10_fall 114 = .ok (.ldc 233, 2) := by decide +kernel
theorem dX10_fall_116 : decode cX10_fall 116 = .ok (.invokespecial 93, 3) := by decide +kernel
theorem dX10_fall_119 : decode cX10_fall 119 = .ok (.athrow, 1) := by decide +kernel
set_option maxRecDepth 20000 in
theorem ggX10_takeLoad_X2_carry : GoodIn wsX10_takeLoad wsX2_carry := goodIn_r _ [12, 13, 14, 15, 98, 99, 100, 101, 102, 103, 104] rfl (by decide +kernel)
set_option maxRecDepth 20000 in
theorem gX10_takeLoad_X2_carry : GoodIn wsX10_takeLoad (wsV RX10 336 RX2 yX2_carry wsX2_carry) := goodIn_app (goodIn_r _ [8, 9, 10, 11] rfl (by decide +kernel)) ggX10_takeLoad_X2_carry
set_option maxRecDepth 20000 in
theorem ggX10_takeLoad_X9_holdsWithout : GoodIn wsX10_takeLoad wsX9_holdsWithout := goodIn_r _ [20, 21, 22, 23, 24, 25, 26, 27, 28, 29, 30, 31, 32, 33, 34, 35, 36, 37, 38, 39, 40, 41, 42, 43, 44, 45, 46, 47, 48, 49, 50, 51, 19, 52, 53, 54, 55, 56, 57, 58, 59, 60, 61, 62, 63, 64, 11, 65, 13, 66, 67, 68, 69, 70, 71, 72, 73, 74, 75, 76, 77, 78, 79, 80, 105, 106, 107, 108, 109, 110, 111, 112, 113, 114, 98, 99, 100, 101, 102, 103, 104] rfl (by decide +kernel)
set_option maxRecDepth 20000 in
theorem gX10_takeLoad_X9_holdsWithout : GoodIn wsX10_takeLoad (wsV RX10 244 RX9 yX9_holdsWithout wsX9_holdsWithout) := goodIn_app (goodIn_r _ [16, 17, 18, 19] rfl (by decide +kernel)) ggX10_takeLoad_X9_holdsWithout
set_option maxRecDepth 20000 in
theorem ggX10_takeLoad_X0_beginAct : GoodIn wsX10_takeLoad wsX0_beginAct := goodIn_r _ [85, 86, 115, 116, 117, 118] rfl (by decide +kernel)
set_option maxRecDepth 20000 in
theorem gX10_takeLoad_X0_beginAct : GoodIn wsX10_takeLoad (wsV RX10 340 RX0 yX0_beginAct wsX0_beginAct) := goodIn_app (goodIn_r _ [81, 82, 83, 84] rfl (by decide +kernel)) ggX10_takeLoad_X0_beginAct
theorem dX10_takeLoad_0 : decode cX10_takeLoad 0 = .ok (.aload_n 0, 1) := by decide +kernel
theorem dX10_takeLoad_1 : decode cX10_takeLoad 1 = .ok (.getfield 22, 3) := by decide +kernel
theorem dX10_takeLoad_4 : decode cX10_takeLoad 4 = .ok (.getfield 222, 3) := by decide +kernel
theorem dX10_takeLoad_7 : decode cX10_takeLoad 7 = .ok (.istore 4, 2) := by decide +kernel
theorem dX10_takeLoad_9 : decode cX10_takeLoad 9 = .ok (.aload_n 0, 1) := by decide +kernel
theorem dX10_takeLoad_10 : decode cX10_takeLoad 10 = .ok (.getfield 22, 3) := by decide +kernel
theorem dX10_takeLoad_13 : decode cX10_takeLoad 13 = .ok (.getfield 330, 3) := by decide +kernel
theorem dX10_takeLoad_16 : decode cX10_takeLoad 16 = .ok (.istore 5, 2) := by decide +kernel
theorem dX10_takeLoad_18 : decode cX10_takeLoad 18 = .ok (.aload_n 0, 1) := by decide +kernel
theorem dX10_takeLoad_19 : decode cX10_takeLoad 19 = .ok (.getfield 22, 3) := by decide +kernel
theorem dX10_takeLoad_22 : decode cX10_takeLoad 22 = .ok (.getfield 333, 3) := by decide +kernel
theorem dX10_takeLoad_25 : decode cX10_takeLoad 25 = .ok (.istore 6, 2) := by decide +kernel
theorem dX10_takeLoad_27 : decode cX10_takeLoad 27 = .ok (.aload_n 0, 1) := by decide +kernel
theorem dX10_takeLoad_28 : decode cX10_takeLoad 28 = .ok (.getfield 22, 3) := by decide +kernel
theorem dX10_takeLoad_31 : decode cX10_takeLoad 31 = .ok (.iload_n 1, 1) := by decide +kernel
theorem dX10_takeLoad_32 : decode cX10_takeLoad 32 = .ok (.iload_n 2, 1) := by decide +kernel
theorem dX10_takeLoad_33 : decode cX10_takeLoad 33 = .ok (.iload_n 3, 1) := by decide +kernel
theorem dX10_takeLoad_34 : decode cX10_takeLoad 34 = .ok (.invokevirtual 336, 3) := by decide +kernel
theorem dX10_takeLoad_37 : decode cX10_takeLoad 37 = .ok (.aload_n 0, 1) := by decide +kernel
theorem dX10_takeLoad_38 : decode cX10_takeLoad 38 = .ok (.getfield 73, 3) := by decide +kernel
theorem dX10_takeLoad_41 : decode cX10_takeLoad 41 = .ok (.ifCond .eq 29, 3) := by decide +kernel
theorem dX10_takeLoad_44 : decode cX10_takeLoad 44 = .ok (.aload_n 0, 1) := by decide +kernel
theorem dX10_takeLoad_45 : decode cX10_takeLoad 45 = .ok (.getfield 31, 3) := by decide +kernel
theorem dX10_takeLoad_48 : decode cX10_takeLoad 48 = .ok (.iconst (-1), 1) := by decide +kernel
theorem dX10_takeLoad_49 : decode cX10_takeLoad 49 = .ok (.invokevirtual 244, 3) := by decide +kernel
theorem dX10_takeLoad_52 : decode cX10_takeLoad 52 = .ok (.ifCond .ne 18, 3) := by decide +kernel
theorem dX10_takeLoad_55 : decode cX10_takeLoad 55 = .ok (.aload_n 0, 1) := by decide +kernel
theorem dX10_takeLoad_56 : decode cX10_takeLoad 56 = .ok (.getfield 22, 3) := by decide +kernel
theorem dX10_takeLoad_59 : decode cX10_takeLoad 59 = .ok (.iload 4, 2) := by decide +kernel
theorem dX10_takeLoad_61 : decode cX10_takeLoad 61 = .ok (.iload 5, 2) := by decide +kernel
theorem dX10_takeLoad_63 : decode cX10_takeLoad 63 = .ok (.iload 6, 2) := by decide +kernel
theorem dX10_takeLoad_65 : decode cX10_takeLoad 65 = .ok (.invokevirtual 336, 3) := by decide +kernel
theorem dX10_takeLoad_68 : decode cX10_takeLoad 68 = .ok (.iconst 0, 1) := by decide +kernel
theorem dX10_takeLoad_69 : decode cX10_takeLoad 69 = .ok (.ireturn, 1) := by decide +kernel
theorem dX10_takeLoad_70 : decode cX10_takeLoad 70 = .ok (.aload_n 0, 1) := by decide +kernel
theorem dX10_takeLoad_71 : decode cX10_takeLoad 71 = .ok (.getfield 48, 3) := by decide +kernel
theorem dX10_takeLoad_74 : decode cX10_takeLoad 74 = .ok (.invokevirtual 340, 3) := by decide +kernel
theorem dX10_takeLoad_77 : decode cX10_takeLoad 77 = .ok (.iconst 1, 1) := by decide +kernel
theorem dX10_takeLoad_78 : decode cX10_takeLoad 78 = .ok (.ireturn, 1) := by decide +kernel
set_option maxRecDepth 20000 in
theorem ggX10_getUp_X10_hipsBear : GoodIn wsX10_getUp wsX10_hipsBear := goodIn_r _ [11, 12, 6, 4, 5, 13, 14, 15, 16, 17, 18, 19, 20, 21, 22, 23, 24, 25, 26, 27, 28, 29, 30, 31, 32, 33, 34, 35, 36, 37, 38, 39, 40, 41, 42, 43, 44, 45, 46, 47, 48, 49, 50, 51, 52, 53, 54, 10, 55, 56, 57, 58, 59, 60, 61, 62, 63, 64, 65, 66, 67, 68, 69, 70, 71, 72, 73, 74, 75, 76, 77, 78, 79, 80, 81, 82, 83, 84, 85, 86, 87, 88, 89, 90, 91, 92, 93, 94, 95, 96, 97, 98, 99, 100, 101, 102, 103, 104, 105, 106, 107, 108, 109, 110, 111, 112, 162, 163, 164, 165, 166, 167, 168, 169, 170, 171, 172, 173, 174, 175, 176, 177, 178, 179, 180, 181, 182, 183, 184, 185, 186, 187, 188, 189, 190, 191, 192, 193] rfl (by decide +kernel)
set_option maxRecDepth 20000 in
theorem gX10_getUp_X10_hipsBear : GoodIn wsX10_getUp (wsV RX10 343 RX10 yX10_hipsBear wsX10_hipsBear) := goodIn_app (goodIn_r _ [7, 8, 9, 10] rfl (by decide +kernel)) ggX10_getUp_X10_hipsBear
set_option maxRecDepth 20000 in
theorem ggX10_getUp_X0_forget : GoodIn wsX10_getUp wsX0_forget := goodIn_r _ [117, 118, 119, 120, 121, 194, 195, 196, 197] rfl (by decide +kernel)
set_option maxRecDepth 20000 in
theorem gX10_getUp_X0_forget : GoodIn wsX10_getUp (wsV RX10 346 RX0 yX0_forget wsX0_forget) := goodIn_app (goodIn_r _ [113, 114, 115, 116] rfl (by decide +kernel)) ggX10_getUp_X0_forget
set_option maxRecDepth 20000 in
theorem ggX10_getUp_X9_hipX : GoodIn wsX10_getUp wsX9_hipX := goodIn_r _ [44, 28, 45, 46, 47, 38, 39, 34, 40, 36, 180, 181, 182, 183, 184, 185, 173, 174, 175, 176, 177, 178, 179, 190] rfl (by decide +kernel)
set_option maxRecDepth 20000 in
theorem gX10_getUp_X9_hipX : GoodIn wsX10_getUp (wsV RX10 349 RX9 yX9_hipX wsX9_hipX) := goodIn_app (goodIn_r _ [41, 42, 43, 26] rfl (by decide +kernel)) ggX10_getUp_X9_hipX
set_option maxRecDepth 20000 in
theorem ggX10_getUp_X9_hipY : GoodIn wsX10_getUp wsX9_hipY := goodIn_r _ [51, 29, 45, 52, 47, 38, 39, 34, 40, 36, 180, 181, 182, 183, 184, 185, 173, 174, 175, 176, 177, 178, 179, 190] rfl (by decide +kernel)
set_option maxRecDepth 20000 in
theorem gX10_getUp_X9_hipY : GoodIn wsX10_getUp (wsV RX10 352 RX9 yX9_hipY wsX9_hipY) := goodIn_app (goodIn_r _ [48, 49, 50, 26] rfl (by decide +kernel)) ggX10_getUp_X9_hipY
set_option maxRecDepth 20000 in
theorem ggX10_getUp_X10_pointAt : GoodIn wsX10_getUp wsX10_pointAt := goodIn_r _ [55] rfl (by decide +kernel)
set_option maxRecDepth 20000 in
theorem gX10_getUp_X10_pointAt : GoodIn wsX10_getUp (va_wsS RX10 81 yX10_pointAt wsX10_pointAt) := goodIn_app (goodIn_r _ [53, 54, 10] rfl (by decide +kernel)) ggX10_getUp_X10_pointAt
set_option maxRecDepth 20000 in
theorem ggX10_getUp_X9_isTaken : GoodIn wsX10_getUp wsX9_isTaken := goodIn_r _ [59, 30, 47, 38, 39, 34, 40, 36, 180, 181, 182, 183, 184, 185, 190] rfl (by decide +kernel)
set_option maxRecDepth 20000 in
theorem gX10_getUp_X9_isTaken : GoodIn wsX10_getUp (wsV RX10 96 RX9 yX9_isTaken wsX9_isTaken) := goodIn_app (goodIn_r _ [56, 57, 58, 26] rfl (by decide +kernel)) ggX10_getUp_X9_isTaken
set_option maxRecDepth 20000 in
theorem ggX10_getUp_X10_setFoot : GoodIn wsX10_getUp wsX10_setFoot := goodIn_r _ [125, 14, 126, 15, 127, 128, 18, 129, 3, 6, 13, 64, 38, 39, 34, 40, 36, 130, 131, 132, 133, 134, 135, 136, 137, 138, 61, 62, 63, 139, 140, 141, 116, 142, 118, 119, 120, 121, 143, 144, 145, 146, 147, 148, 149, 150, 151, 10, 152, 153, 154, 54, 55, 60, 155, 156, 157, 26, 158, 45, 159, 160, 42, 43, 44, 28, 46, 47, 161, 49, 50, 51, 29, 52, 56, 57, 58, 59, 30, 162, 163, 164, 165, 166, 167, 168, 169, 170, 171, 172, 186, 187, 188, 189, 180, 181, 182, 183, 184, 185, 190, 194, 195, 196, 197, 173, 174, 175, 176, 177, 178, 179] rfl (by decide +kernel)
set_option maxRecDepth 20000 in
theorem gX10_getUp_X10_setFoot : GoodIn wsX10_getUp (wsV RX10 355 RX10 yX10_setFoot wsX10_setFoot) := goodIn_app (goodIn_r _ [122, 123, 124, 10] rfl (by decide +kernel)) ggX10_getUp_X10_setFoot
theorem dX10_getUp_0 : decode cX10_getUp 0 = .ok (.aload_n 0, 1) := by decide +kernel
theorem dX10_getUp_1 : decode cX10_getUp 1 = .ok (.getfield 73, 3) := by decide +kernel
theorem dX10_getUp_4 : decode cX10_getUp 4 = .ok (.ifCond .ne 19, 3) := by decide +kernel
theorem dX10_getUp_7 : decode cX10_getUp 7 = .ok (.aload_n 0, 1) := by decide +kernel
theorem dX10_getUp_8 : decode cX10_getUp 8 = .ok (.getfield 77, 3) := by decide +kernel
theorem dX10_getUp_11 : decode cX10_getUp 11 = .ok (.bipush 20, 2) := by decide +kernel
theorem dX10_getUp_13 : decode cX10_getUp 13 = .ok (.if_icmp .lt 10, 3) := by decide +kernel
theorem dX10_getUp_16 : decode cX10_getUp 16 = .ok (.aload_n 0, 1) := by decide +kernel
theorem dX10_getUp_17 : decode cX10_getUp 17 = .ok (.invokevirtual 343, 3) := by decide +kernel
theorem dX10_getUp_20 : decode cX10_getUp 20 = .ok (.ifCond .ne 5, 3) := by decide +kernel
theorem dX10_getUp_23 : decode cX10_getUp 23 = .ok (.iconst 0, 1) := by decide +kernel
theorem dX10_getUp_24 : decode cX10_getUp 24 = .ok (.ireturn, 1) := by decide +kernel
theorem dX10_getUp_25 : decode cX10_getUp 25 = .ok (.aload_n 0, 1) := by decide +kernel
theorem dX10_getUp_26 : decode cX10_getUp 26 = .ok (.dup, 1) := by decide +kernel
theorem dX10_getUp_27 : decode cX10_getUp 27 = .ok (.getfield 77, 3) := by decide +kernel
theorem dX10_getUp_30 : decode cX10_getUp 30 = .ok (.bipush 20, 2) := by decide +kernel
theorem dX10_getUp_32 : decode cX10_getUp 32 = .ok (.isub, 1) := by decide +kernel
theorem dX10_getUp_33 : decode cX10_getUp 33 = .ok (.putfield 77, 3) := by decide +kernel
theorem dX10_getUp_36 : decode cX10_getUp 36 = .ok (.aload_n 0, 1) := by decide +kernel
theorem dX10_getUp_37 : decode cX10_getUp 37 = .ok (.iconst 1, 1) := by decide +kernel
theorem dX10_getUp_38 : decode cX10_getUp 38 = .ok (.putfield 73, 3) := by decide +kernel
theorem dX10_getUp_41 : decode cX10_getUp 41 = .ok (.aload_n 0, 1) := by decide +kernel
theorem dX10_getUp_42 : decode cX10_getUp 42 = .ok (.getfield 48, 3) := by decide +kernel
theorem dX10_getUp_45 : decode cX10_getUp 45 = .ok (.invokevirtual 346, 3) := by decide +kernel
theorem dX10_getUp_48 : decode cX10_getUp 48 = .ok (.iconst 0, 1) := by decide +kernel
theorem dX10_getUp_49 : decode cX10_getUp 49 = .ok (.istore_n 1, 1) := by decide +kernel
theorem dX10_getUp_50 : decode cX10_getUp 50 = .ok (.iload_n 1, 1) := by decide +kernel
theorem dX10_getUp_51 : decode cX10_getUp 51 = .ok (.aload_n 0, 1) := by decide +kernel
theorem dX10_getUp_52 : decode cX10_getUp 52 = .ok (.getfield 22, 3) := by decide +kernel
theorem dX10_getUp_55 : decode cX10_getUp 55 = .ok (.getfield 136, 3) := by decide +kernel
theorem dX10_getUp_58 : decode cX10_getUp 58 = .ok (.if_icmp .ge 52, 3) := by decide +kernel
theorem dX10_getUp_61 : decode cX10_getUp 61 = .ok (.aload_n 0, 1) := by decide +kernel
theorem dX10_getUp_62 : decode cX10_getUp 62 = .ok (.getfield 31, 3) := by decide +kernel
theorem dX10_getUp_65 : decode cX10_getUp 65 = .ok (.iload_n 1, 1) := by decide +kernel
theorem dX10_getUp_66 : decode cX10_getUp 66 = .ok (.invokevirtual 349, 3) := by decide +kernel
theorem dX10_getUp_69 : decode cX10_getUp 69 = .ok (.aload_n 0, 1) := by decide +kernel
theorem dX10_getUp_70 : decode cX10_getUp 70 = .ok (.getfield 31, 3) := by decide +kernel
theorem dX10_getUp_73 : decode cX10_getUp 73 = .ok (.iload_n 1, 1) := by decide +kernel
theorem dX10_getUp_74 : decode cX10_getUp 74 = .ok (.invokevirtual 352, 3) := by decide +kernel
theorem dX10_getUp_77 : decode cX10_getUp 77 = .ok (.invokestatic 81, 3) := by decide +kernel
theorem dX10_getUp_80 : decode cX10_getUp 80 = .ok (.istore_n 2, 1) := by decide +kernel
theorem dX10_getUp_81 : decode cX10_getUp 81 = .ok (.iload_n 2, 1) := by decide +kernel
theorem dX10_getUp_82 : decode cX10_getUp 82 = .ok (.iconst (-1), 1) := by decide +kernel
theorem dX10_getUp_83 : decode cX10_getUp 83 = .ok (.if_icmp .eq 21, 3) := by decide +kernel
theorem dX10_getUp_86 : decode cX10_getUp 86 = .ok (.aload_n 0, 1) := by decide +kernel
theorem dX10_getUp_87 : decode cX10_getUp 87 = .ok (.getfield 31, 3) := by decide +kernel
theorem dX10_getUp_90 : decode cX10_getUp 90 = .ok (.iload_n 2, 1) := by decide +kernel
theorem dX10_getUp_91 : decode cX10_getUp 91 = .ok (.iconst (-1), 1) := by decide +kernel
theorem dX10_getUp_92 : decode cX10_getUp 92 = .ok (.invokevirtual 96, 3) := by decide +kernel
theorem dX10_getUp_95 : decode cX10_getUp 95 = .ok (.ifCond .ne 9, 3) := by decide +kernel
theorem dX10_getUp_98 : decode cX10_getUp 98 = .ok (.aload_n 0, 1) := by decide +kernel
theorem dX10_getUp_99 : decode cX10_getUp 99 = .ok (.iload_n 1, 1) := by decide +kernel
theorem dX10_getUp_100 : decode cX10_getUp 100 = .ok (.iload_n 2, 1) := by decide +kernel
theorem dX10_getUp_101 : decode cX10_getUp 101 = .ok (.invokevirtual 355, 3) := by decide +kernel
theorem dX10_getUp_104 : decode cX10_getUp 104 = .ok (.iinc 1 1, 3) := by decide +kernel
theorem dX10_getUp_107 : decode cX10_getUp 107 = .ok (.goto (-57), 3) := by decide +kernel
theorem dX10_getUp_110 : decode cX10_getUp 110 = .ok (.iconst 1, 1) := by decide +kernel
theorem dX10_getUp_111 : decode cX10_getUp 111 = .ok (.ireturn, 1) := by decide +kernel
set_option maxRecDepth 20000 in
theorem ggX10_liftFoot_X10_mayLift : GoodIn wsX10_liftFoot wsX10_mayLift := goodIn_r _ [9, 10, 1, 3, 4, 11, 12, 13, 14, 15, 16, 17, 18, 19, 20, 21, 22, 23, 24, 25, 26, 27, 28, 29, 30, 31, 32, 33, 34, 35, 36, 37, 38, 39, 40, 41, 42, 43, 44, 45, 46, 47, 48, 49, 50, 51, 52, 53, 54, 55, 56, 57, 58, 59, 60, 61, 62, 63, 64, 65, 66, 67, 68, 69, 70, 71, 72, 73, 74, 75, 76, 8, 77, 85, 86, 87, 88, 89, 90, 91, 92, 93, 94, 95, 96, 97, 98, 99, 100, 101, 102, 103, 104, 105, 106, 107, 108, 109, 110, 111, 112] rfl (by decide +kernel)
set_option maxRecDepth 20000 in
theorem gX10_liftFoot_X10_mayLift : GoodIn wsX10_liftFoot (wsV RX10 291 RX10 yX10_mayLift wsX10_mayLift) := goodIn_app (goodIn_r _ [5, 6, 7, 8] rfl (by decide +kernel)) ggX10_liftFoot_X10_mayLift
set_option maxRecDepth 20000 in
theorem ggX10_liftFoot_X0_beginAct : GoodIn wsX10_liftFoot wsX0_beginAct := goodIn_r _ [82, 83, 113, 114, 115, 116] rfl (by decide +kernel)
set_option maxRecDepth 20000 in
theorem gX10_liftFoot_X0_beginAct : GoodIn wsX10_liftFoot (wsV RX10 340 RX0 yX0_beginAct wsX0_beginAct) := goodIn_app (goodIn_r _ [78, 79, 80, 81] rfl (by decide +kernel)) ggX10_liftFoot_X0_beginAct
set_option maxRecDepth 20000 in
theorem ggX10_liftFoot_X8_put : GoodIn wsX10_liftFoot wsX8_put := goodIn_r _ [41, 16, 102] rfl (by decide +kernel)
set_option maxRecDepth 20000 in
theorem gX10_liftFoot_X8_put : GoodIn wsX10_liftFoot (wsV RX10 115 RX8 yX8_put wsX8_put) := goodIn_app (goodIn_r _ [84, 39, 40, 14] rfl (by decide +kernel)) ggX10_liftFoot_X8_put
theorem dX10_liftFoot_0 : decode cX10_liftFoot 0 = .ok (.aload_n 0, 1) := by decide +kernel
theorem dX10_liftFoot_1 : decode cX10_liftFoot 1 = .ok (.iload_n 1, 1) := by decide +kernel
theorem dX10_liftFoot_2 : decode cX10_liftFoot 2 = .ok (.invokevirtual 291, 3) := by decide +kernel
theorem dX10_liftFoot_5 : decode cX10_liftFoot 5 = .ok (.ifCond .ne 5, 3) := by decide +kernel
theorem dX10_liftFoot_8 : decode cX10_liftFoot 8 = .ok (.iconst 0, 1) := by decide +kernel
theorem dX10_liftFoot_9 : decode cX10_liftFoot 9 = .ok (.ireturn, 1) := by decide +kernel
theorem dX10_liftFoot_10 : decode cX10_liftFoot 10 = .ok (.aload_n 0, 1) := by decide +kernel
theorem dX10_liftFoot_11 : decode cX10_liftFoot 11 = .ok (.dup, 1) := by decide +kernel
theorem dX10_liftFoot_12 : decode cX10_liftFoot 12 = .ok (.getfield 77, 3) := by decide +kernel
theorem dX10_liftFoot_15 : decode cX10_liftFoot 15 = .ok (.iconst 1, 1) := by decide +kernel
theorem dX10_liftFoot_16 : decode cX10_liftFoot 16 = .ok (.isub, 1) := by decide +kernel
theorem dX10_liftFoot_17 : decode cX10_liftFoot 17 = .ok (.putfield 77, 3) := by decide +kernel
theorem dX10_liftFoot_20 : decode cX10_liftFoot 20 = .ok (.aload_n 0, 1) := by decide +kernel
theorem dX10_liftFoot_21 : decode cX10_liftFoot 21 = .ok (.getfield 48, 3) := by decide +kernel
theorem dX10_liftFoot_24 : decode cX10_liftFoot 24 = .ok (.invokevirtual 340, 3) := by decide +kernel
theorem dX10_liftFoot_27 : decode cX10_liftFoot 27 = .ok (.aload_n 0, 1) := by decide +kernel
theorem dX10_liftFoot_28 : decode cX10_liftFoot 28 = .ok (.getfield 31, 3) := by decide +kernel
theorem dX10_liftFoot_31 : decode cX10_liftFoot 31 = .ok (.getfield 235, 3) := by decide +kernel
theorem dX10_liftFoot_34 : decode cX10_liftFoot 34 = .ok (.iload_n 1, 1) := by decide +kernel
theorem dX10_liftFoot_35 : decode cX10_liftFoot 35 = .ok (.iconst (-1), 1) := by decide +kernel
theorem dX10_liftFoot_36 : decode cX10_liftFoot 36 = .ok (.invokevirtual 115, 3) := by decide +kernel
theorem dX10_liftFoot_39 : decode cX10_liftFoot 39 = .ok (.iconst 1, 1) := by decide +kernel
theorem dX10_liftFoot_40 : decode cX10_liftFoot 40 = .ok (.ireturn, 1) := by decide +kernel
set_option maxRecDepth 20000 in
theorem ggX10_placeFoot_X9_far : GoodIn wsX10_placeFoot wsX9_far := goodIn_r _ [16, 17, 5, 6, 7, 18, 19, 20, 21, 22, 23, 15, 24, 25, 26, 27, 28, 29, 30, 31, 32, 33, 34, 35, 36, 37, 38, 39, 40, 41, 118, 119, 120, 121, 122, 123, 124, 125, 126, 127, 128, 129, 130, 131] rfl (by decide +kernel)
set_option maxRecDepth 20000 in
theorem gX10_placeFoot_X9_far : GoodIn wsX10_placeFoot (wsV RX10 358 RX9 yX9_far wsX9_far) := goodIn_app (goodIn_r _ [12, 13, 14, 15] rfl (by decide +kernel)) ggX10_placeFoot_X9_far
set_option maxRecDepth 20000 in
theorem ggX10_placeFoot_X8_at : GoodIn wsX10_placeFoot wsX8_at := goodIn_r _ [32, 33, 131] rfl (by decide +kernel)
set_option maxRecDepth 20000 in
theorem gX10_placeFoot_X8_at : GoodIn wsX10_placeFoot (wsV RX10 109 RX8 yX8_at wsX8_at) := goodIn_app (goodIn_r _ [42, 29, 30, 31] rfl (by decide +kernel)) ggX10_placeFoot_X8_at
set_option maxRecDepth 20000 in
theorem ggX10_placeFoot_X9_level : GoodIn wsX10_placeFoot wsX9_level := goodIn_r _ [46, 47, 48, 49, 50, 51, 6, 52, 28, 29, 30, 31, 32, 33, 118, 119, 120, 121, 122, 123, 114, 115, 116, 117, 131] rfl (by decide +kernel)
set_option maxRecDepth 20000 in
theorem gX10_placeFoot_X9_level : GoodIn wsX10_placeFoot (wsV RX10 225 RX9 yX9_level wsX9_level) := goodIn_app (goodIn_r _ [43, 44, 45, 15] rfl (by decide +kernel)) ggX10_placeFoot_X9_level
set_option maxRecDepth 20000 in
theorem ggX10_placeFoot_X9_isInReach : GoodIn wsX10_placeFoot wsX9_isInReach := goodIn_r _ [56, 26, 57, 18, 19, 20, 21, 22, 23, 15, 24, 25, 27, 28, 29, 30, 31, 32, 33, 34, 35, 36, 37, 38, 39, 40, 41, 118, 119, 120, 121, 122, 123, 124, 125, 126, 127, 128, 129, 130, 131] rfl (by decide +kernel)
set_option maxRecDepth 20000 in
theorem gX10_placeFoot_X9_isInReach : GoodIn wsX10_placeFoot (wsV RX10 364 RX9 yX9_isInReach wsX9_isInReach) := goodIn_app (goodIn_r _ [53, 54, 55, 15] rfl (by decide +kernel)) ggX10_placeFoot_X9_isInReach
set_option maxRecDepth 20000 in
theorem ggX10_placeFoot_X9_isTaken : GoodIn wsX10_placeFoot wsX9_isTaken := goodIn_r _ [61, 47, 28, 29, 30, 31, 32, 33, 118, 119, 120, 121, 122, 123, 131] rfl (by decide +kernel)
set_option maxRecDepth 20000 in
theorem gX10_placeFoot_X9_isTaken : GoodIn wsX10_placeFoot (wsV RX10 96 RX9 yX9_isTaken wsX9_isTaken) := goodIn_app (goodIn_r _ [58, 59, 60, 15] rfl (by decide +kernel)) ggX10_placeFoot_X9_isTaken
set_option maxRecDepth 20000 in
theorem ggX10_placeFoot_X0_beginAct : GoodIn wsX10_placeFoot wsX0_beginAct := goodIn_r _ [66, 67, 132, 133, 134, 135] rfl (by decide +kernel)
set_option maxRecDepth 20000 in
theorem gX10_placeFoot_X0_beginAct : GoodIn wsX10_placeFoot (wsV RX10 340 RX0 yX0_beginAct wsX0_beginAct) := goodIn_app (goodIn_r _ [62, 63, 64, 65] rfl (by decide +kernel)) ggX10_placeFoot_X0_beginAct
set_option maxRecDepth 20000 in
theorem ggX10_placeFoot_X10_setFoot : GoodIn wsX10_placeFoot wsX10_setFoot := goodIn_r _ [71, 2, 72, 3, 4, 5, 6, 7, 11, 1, 10, 42, 29, 30, 31, 32, 33, 73, 74, 75, 76, 77, 78, 79, 80, 81, 82, 83, 84, 85, 86, 87, 65, 88, 89, 90, 91, 67, 92, 93, 94, 95, 96, 97, 98, 99, 18, 19, 20, 34, 35, 100, 101, 102, 53, 54, 55, 15, 56, 26, 57, 21, 22, 23, 24, 25, 27, 28, 36, 37, 38, 39, 40, 41, 58, 59, 60, 61, 47, 103, 104, 105, 106, 107, 108, 109, 110, 111, 112, 113, 114, 115, 116, 117, 118, 119, 120, 121, 122, 123, 131, 132, 133, 134, 135, 124, 125, 126, 127, 128, 129, 130] rfl (by decide +kernel)
set_option maxRecDepth 20000 in
theorem gX10_placeFoot_X10_setFoot : GoodIn wsX10_placeFoot (wsV RX10 355 RX10 yX10_setFoot wsX10_setFoot) := goodIn_app (goodIn_r _ [68, 69, 70, 19] rfl (by decide +kernel)) ggX10_placeFoot_X10_setFoot
theorem dX10_placeFoot_0 : decode cX10_placeFoot 0 = .ok (.iconst 1, 1) := by decide +kernel
theorem dX10_placeFoot_1 : decode cX10_placeFoot 1 = .ok (.aload_n 0, 1) := by decide +kernel
theorem dX10_placeFoot_2 : decode cX10_placeFoot 2 = .ok (.getfield 31, 3) := by decide +kernel
theorem dX10_placeFoot_5 : decode cX10_placeFoot 5 = .ok (.iload_n 1, 1) := by decide +kernel
theorem dX10_placeFoot_6 : decode cX10_placeFoot 6 = .ok (.iload_n 2, 1) := by decide +kernel
theorem dX10_placeFoot_7 : decode cX10_placeFoot 7 = .ok (.invokevirtual 358, 3) := by decide +kernel
theorem dX10_placeFoot_10 : decode cX10_placeFoot 10 = .ok (.iadd, 1) := by decide +kernel
theorem dX10_placeFoot_11 : decode cX10_placeFoot 11 = .ok (.istore_n 3, 1) := by decide +kernel
theorem dX10_placeFoot_12 : decode cX10_placeFoot 12 = .ok (.aload_n 0, 1) := by decide +kernel
theorem dX10_placeFoot_13 : decode cX10_placeFoot 13 = .ok (.getfield 15, 3) := by decide +kernel
theorem dX10_placeFoot_16 : decode cX10_placeFoot 16 = .ok (.getfield 127, 3) := by decide +kernel
theorem dX10_placeFoot_19 : decode cX10_placeFoot 19 = .ok (.iload_n 2, 1) := by decide +kernel
theorem dX10_placeFoot_20 : decode cX10_placeFoot 20 = .ok (.invokevirtual 109, 3) := by decide +kernel
theorem dX10_placeFoot_23 : decode cX10_placeFoot 23 = .ok (.aload_n 0, 1) := by decide +kernel
theorem dX10_placeFoot_24 : decode cX10_placeFoot 24 = .ok (.getfield 31, 3) := by decide +kernel
theorem dX10_placeFoot_27 : decode cX10_placeFoot 27 = .ok (.iconst (-1), 1) := by decide +kernel
theorem dX10_placeFoot_28 : decode cX10_placeFoot 28 = .ok (.invokevirtual 225, 3) := by decide +kernel
theorem dX10_placeFoot_31 : decode cX10_placeFoot 31 = .ok (.isub, 1) := by decide +kernel
theorem dX10_placeFoot_32 : decode cX10_placeFoot 32 = .ok (.invokestatic 361, 3) := by decide +kernel
theorem dX10_placeFoot_35 : decode cX10_placeFoot 35 = .ok (.istore 4, 2) := by decide +kernel
theorem dX10_placeFoot_37 : decode cX10_placeFoot 37 = .ok (.aload_n 0, 1) := by decide +kernel
theorem dX10_placeFoot_38 : decode cX10_placeFoot 38 = .ok (.getfield 73, 3) := by decide +kernel
theorem dX10_placeFoot_41 : decode cX10_placeFoot 41 = .ok (.ifCond .eq 56, 3) := by decide +kernel
theorem dX10_placeFoot_44 : decode cX10_placeFoot 44 = .ok (.aload_n 0, 1) := by decide +kernel
theorem dX10_placeFoot_45 : decode cX10_placeFoot 45 = .ok (.getfield 77, 3) := by decide +kernel
theorem dX10_placeFoot_48 : decode cX10_placeFoot 48 = .ok (.iload_n 3, 1) := by decide +kernel
theorem dX10_placeFoot_49 : decode cX10_placeFoot 49 = .ok (.if_icmp .lt 48, 3) := by decide +kernel
theorem dX10_placeFoot_52 : decode cX10_placeFoot 52 = .ok (.aload_n 0, 1) := by decide +kernel
theorem dX10_placeFoot_53 : decode cX10_placeFoot 53 = .ok (.getfield 31, 3) := by decide +kernel
theorem dX10_placeFoot_56 : decode cX10_placeFoot 56 = .ok (.getfield 235, 3) := by decide +kernel
theorem dX10_placeFoot_59 : decode cX10_placeFoot 59 = .ok (.iload_n 1, 1) := by decide +kernel
theorem dX10_placeFoot_60 : decode cX10_placeFoot 60 = .ok (.invokevirtual 109, 3) := by decide +kernel
theorem dX10_placeFoot_63 : decode cX10_placeFoot 63 = .ok (.iconst (-1), 1) := by decide +kernel
theorem dX10_placeFoot_64 : decode cX10_placeFoot 64 = .ok (.if_icmp .ne 33, 3) := by decide +kernel
theorem dX10_placeFoot_67 : decode cX10_placeFoot 67 = .ok (.iload 4, 2) := by decide +kernel
theorem dX10_placeFoot_69 : decode cX10_placeFoot 69 = .ok (.iconst 2, 1) := by decide +kernel
theorem dX10_placeFoot_70 : decode cX10_placeFoot 70 = .ok (.if_icmp .gt 27, 3) := by decide +kernel
theorem dX10_placeFoot_73 : decode cX10_placeFoot 73 = .ok (.aload_n 0, 1) := by decide +kernel
theorem dX10_placeFoot_74 : decode cX10_placeFoot 74 = .ok (.getfield 31, 3) := by decide +kernel
theorem dX10_placeFoot_77 : decode cX10_placeFoot 77 = .ok (.iload_n 1, 1) := by decide +kernel
theorem dX10_placeFoot_78 : decode cX10_placeFoot 78 = .ok (.iload_n 2, 1) := by decide +kernel
theorem dX10_placeFoot_79 : decode cX10_placeFoot 79 = .ok (.invokevirtual 364, 3) := by decide +kernel
theorem dX10_placeFoot_82 : decode cX10_placeFoot 82 = .ok (.ifCond .eq 15, 3) := by decide +kernel
theorem dX10_placeFoot_85 : decode cX10_placeFoot 85 = .ok (.aload_n 0, 1) := by decide +kernel
theorem dX10_placeFoot_86 : decode cX10_placeFoot 86 = .ok (.getfield 31, 3) := by decide +kernel
theorem dX10_placeFoot_89 : decode cX10_placeFoot 89 = .ok (.iload_n 2, 1) := by decide +kernel
theorem dX10_placeFoot_90 : decode cX10_placeFoot 90 = .ok (.iconst (-1), 1) := by decide +kernel
theorem dX10_placeFoot_91 : decode cX10_placeFoot 91 = .ok (.invokevirtual 96, 3) := by decide +kernel
theorem dX10_placeFoot_94 : decode cX10_placeFoot 94 = .ok (.ifCond .eq 5, 3) := by decide +kernel
theorem dX10_placeFoot_97 : decode cX10_placeFoot 97 = .ok (.iconst 0, 1) := by decide +kernel
theorem dX10_placeFoot_98 : decode cX10_placeFoot 98 = .ok (.ireturn, 1) := by decide +kernel
theorem dX10_placeFoot_99 : decode cX10_placeFoot 99 = .ok (.aload_n 0, 1) := by decide +kernel
theorem dX10_placeFoot_100 : decode cX10_placeFoot 100 = .ok (.dup, 1) := by decide +kernel
theorem dX10_placeFoot_101 : decode cX10_placeFoot 101 = .ok (.getfield 77, 3) := by decide +kernel
theorem dX10_placeFoot_104 : decode cX10_placeFoot 104 = .ok (.iload_n 3, 1) := by decide +kernel
theorem dX10_placeFoot_105 : decode cX10_placeFoot 105 = .ok (.isub, 1) := by decide +kernel
theorem dX10_placeFoot_106 : decode cX10_placeFoot 106 = .ok (.putfield 77, 3) := by decide +kernel
theorem dX10_placeFoot_109 : decode cX10_placeFoot 109 = .ok (.aload_n 0, 1) := by decide +kernel
theorem dX10_placeFoot_110 : decode cX10_placeFoot 110 = .ok (.getfield 48, 3) := by decide +kernel
theorem dX10_placeFoot_113 : decode cX10_placeFoot 113 = .ok (.invokevirtual 340, 3) := by decide +kernel
theorem dX10_placeFoot_116 : decode cX10_placeFoot 116 = .ok (.aload_n 0, 1) := by decide +kernel
theorem dX10_placeFoot_117 : decode cX10_placeFoot 117 = .ok (.iload_n 1, 1) := by decide +kernel
theorem dX10_placeFoot_118 : decode cX10_placeFoot 118 = .ok (.iload_n 2, 1) := by decide +kernel
theorem dX10_placeFoot_119 : decode cX10_placeFoot 119 = .ok (.invokevirtual 355, 3) := by decide +kernel
theorem dX10_placeFoot_122 : decode cX10_placeFoot 122 = .ok (.iconst 1, 1) := by decide +kernel
theorem dX10_placeFoot_123 : decode cX10_placeFoot 123 = .ok (.ireturn, 1) := by decide +kernel
set_option maxRecDepth 20000 in
theorem ggX10_shiftBody_X2_weight : GoodIn wsX10_shiftBody wsX2_weight := goodIn_r _ [11, 12, 130, 131, 132, 133, 134, 135, 136] rfl (by decide +kernel)
set_option maxRecDepth 20000 in
theorem gX10_shiftBody_X2_weight : GoodIn wsX10_shiftBody (wsV RX10 253 RX2 yX2_weight wsX2_weight) := goodIn_app (goodIn_r _ [7, 8, 9, 10] rfl (by decide +kernel)) ggX10_shiftBody_X2_weight
set_option maxRecDepth 20000 in
theorem ggX10_shiftBody_X10_roundedUp : GoodIn wsX10_shiftBody wsX10_roundedUp := goodIn_r _ [16] rfl (by decide +kernel)
set_option maxRecDepth 20000 in
theorem gX10_shiftBody_X10_roundedUp : GoodIn wsX10_shiftBody (va_wsS RX10 367 yX10_roundedUp wsX10_roundedUp) := goodIn_app (goodIn_r _ [13, 14, 15] rfl (by decide +kernel)) ggX10_shiftBody_X10_roundedUp
set_option maxRecDepth 20000 in
theorem ggX10_shiftBody_X9_copy : GoodIn wsX10_shiftBody wsX9_copy := goodIn_r _ [21, 22, 23, 24, 25, 26, 27, 28, 29, 30, 31, 32, 33, 34, 137, 138, 139, 140, 141, 142, 143] rfl (by decide +kernel)
set_option maxRecDepth 20000 in
theorem gX10_shiftBody_X9_copy : GoodIn wsX10_shiftBody (wsV RX10 294 RX9 yX9_copy wsX9_copy) := goodIn_app (goodIn_r _ [17, 18, 19, 20] rfl (by decide +kernel)) ggX10_shiftBody_X9_copy
set_option maxRecDepth 20000 in
theorem ggX10_shiftBody_X9_moveBody : GoodIn wsX10_shiftBody wsX9_moveBody := goodIn_r _ [38, 22, 23, 24, 39, 15, 40, 41, 32, 33, 28, 34, 30, 42, 43, 44, 20, 45, 46, 47, 48, 49, 50, 51, 52, 53, 54, 55, 56, 57, 58, 59, 60, 61, 62, 63, 64, 65, 66, 67, 68, 69, 70, 71, 72, 73, 74, 75, 76, 77, 78, 79, 80, 81, 82, 83, 84, 85, 86, 87, 88, 89, 90, 91, 92, 93, 94, 95, 96, 97, 98, 8, 9, 10, 11, 12, 99, 100, 101, 102, 103, 104, 105, 106, 107, 108, 109, 110, 111, 112, 137, 138, 139, 140, 141, 142, 143, 130, 131, 132, 133, 134, 135, 136, 144, 145, 146] rfl (by decide +kernel)
set_option maxRecDepth 20000 in
theorem gX10_shiftBody_X9_moveBody : GoodIn wsX10_shiftBody (wsV RX10 370 RX9 yX9_moveBody wsX9_moveBody) := goodIn_app (goodIn_r _ [35, 36, 37, 20] rfl (by decide +kernel)) ggX10_shiftBody_X9_moveBody
set_option maxRecDepth 20000 in
theorem ggX10_shiftBody_X0_beginAct : GoodIn wsX10_shiftBody wsX0_beginAct := goodIn_r _ [117, 118, 147, 148, 149, 150] rfl (by decide +kernel)
set_option maxRecDepth 20000 in
theorem gX10_shiftBody_X0_beginAct : GoodIn wsX10_shiftBody (wsV RX10 340 RX0 yX0_beginAct wsX0_beginAct) := goodIn_app (goodIn_r _ [113, 114, 115, 116] rfl (by decide +kernel)) ggX10_shiftBody_X0_beginAct
theorem dX10_shiftBody_0 : decode cX10_shiftBody 0 = .ok (.aload_n 0, 1) := by decide +kernel
theorem dX10_shiftBody_1 : decode cX10_shiftBody 1 = .ok (.getfield 22, 3) := by decide +kernel
theorem dX10_shiftBody_4 : decode cX10_shiftBody 4 = .ok (.invokevirtual 253, 3) := by decide +kernel
theorem dX10_shiftBody_7 : decode cX10_shiftBody 7 = .ok (.bipush 10, 2) := by decide +kernel
theorem dX10_shiftBody_9 : decode cX10_shiftBody 9 = .ok (.invokestatic 367, 3) := by decide +kernel
theorem dX10_shiftBody_12 : decode cX10_shiftBody 12 = .ok (.istore_n 3, 1) := by decide +kernel
theorem dX10_shiftBody_13 : decode cX10_shiftBody 13 = .ok (.aload_n 0, 1) := by decide +kernel
theorem dX10_shiftBody_14 : decode cX10_shiftBody 14 = .ok (.getfield 35, 3) := by decide +kernel
theorem dX10_shiftBody_17 : decode cX10_shiftBody 17 = .ok (.aload_n 0, 1) := by decide +kernel
theorem dX10_shiftBody_18 : decode cX10_shiftBody 18 = .ok (.getfield 31, 3) := by decide +kernel
theorem dX10_shiftBody_21 : decode cX10_shiftBody 21 = .ok (.invokevirtual 294, 3) := by decide +kernel
theorem dX10_shiftBody_24 : decode cX10_shiftBody 24 = .ok (.aload_n 0, 1) := by decide +kernel
theorem dX10_shiftBody_25 : decode cX10_shiftBody 25 = .ok (.getfield 73, 3) := by decide +kernel
theorem dX10_shiftBody_28 : decode cX10_shiftBody 28 = .ok (.ifCond .eq 23, 3) := by decide +kernel
theorem dX10_shiftBody_31 : decode cX10_shiftBody 31 = .ok (.aload_n 0, 1) := by decide +kernel
theorem dX10_shiftBody_32 : decode cX10_shiftBody 32 = .ok (.getfield 77, 3) := by decide +kernel
theorem dX10_shiftBody_35 : decode cX10_shiftBody 35 = .ok (.iload_n 3, 1) := by decide +kernel
theorem dX10_shiftBody_36 : decode cX10_shiftBody 36 = .ok (.if_icmp .lt 15, 3) := by decide +kernel
theorem dX10_shiftBody_39 : decode cX10_shiftBody 39 = .ok (.aload_n 0, 1) := by decide +kernel
theorem dX10_shiftBody_40 : decode cX10_shiftBody 40 = .ok (.getfield 35, 3) := by decide +kernel
theorem dX10_shiftBody_43 : decode cX10_shiftBody 43 = .ok (.iload_n 1, 1) := by decide +kernel
theorem dX10_shiftBody_44 : decode cX10_shiftBody 44 = .ok (.iload_n 2, 1) := by decide +kernel
theorem dX10_shiftBody_45 : decode cX10_shiftBody 45 = .ok (.invokevirtual 370, 3) := by decide +kernel
theorem dX10_shiftBody_48 : decode cX10_shiftBody 48 = .ok (.ifCond .ne 5, 3) := by decide +kernel
theorem dX10_shiftBody_51 : decode cX10_shiftBody 51 = .ok (.iconst 0, 1) := by decide +kernel
theorem dX10_shiftBody_52 : decode cX10_shiftBody 52 = .ok (.ireturn, 1) := by decide +kernel
theorem dX10_shiftBody_53 : decode cX10_shiftBody 53 = .ok (.aload_n 0, 1) := by decide +kernel
theorem dX10_shiftBody_54 : decode cX10_shiftBody 54 = .ok (.dup, 1) := by decide +kernel
theorem dX10_shiftBody_55 : decode cX10_shiftBody 55 = .ok (.getfield 77, 3) := by decide +kernel
theorem dX10_shiftBody_58 : decode cX10_shiftBody 58 = .ok (.iload_n 3, 1) := by decide +kernel
theorem dX10_shiftBody_59 : decode cX10_shiftBody 59 = .ok (.isub, 1) := by decide +kernel
theorem dX10_shiftBody_60 : decode cX10_shiftBody 60 = .ok (.putfield 77, 3) := by decide +kernel
theorem dX10_shiftBody_63 : decode cX10_shiftBody 63 = .ok (.aload_n 0, 1) := by decide +kernel
theorem dX10_shiftBody_64 : decode cX10_shiftBody 64 = .ok (.getfield 48, 3) := by decide +kernel
theorem dX10_shiftBody_67 : decode cX10_shiftBody 67 = .ok (.invokevirtual 340, 3) := by decide +kernel
theorem dX10_shiftBody_70 : decode cX10_shiftBody 70 = .ok (.aload_n 0, 1) := by decide +kernel
theorem dX10_shiftBody_71 : decode cX10_shiftBody 71 = .ok (.getfield 31, 3) := by decide +kernel
theorem dX10_shiftBody_74 : decode cX10_shiftBody 74 = .ok (.aload_n 0, 1) := by decide +kernel
theorem dX10_shiftBody_75 : decode cX10_shiftBody 75 = .ok (.getfield 35, 3) := by decide +kernel
theorem dX10_shiftBody_78 : decode cX10_shiftBody 78 = .ok (.invokevirtual 294, 3) := by decide +kernel
theorem dX10_shiftBody_81 : decode cX10_shiftBody 81 = .ok (.iconst 1, 1) := by decide +kernel
theorem dX10_shiftBody_82 : decode cX10_shiftBody 82 = .ok (.ireturn, 1) := by decide +kernel
set_option maxRecDepth 20000 in
theorem ggX10_isPhaseDone_X8_at : GoodIn wsX10_isPhaseDone wsX8_at := goodIn_r _ [13, 14, 289] rfl (by decide +kernel)
set_option maxRecDepth 20000 in
theorem gX10_isPhaseDone_X8_at : GoodIn wsX10_isPhaseDone (wsV RX10 109 RX8 yX8_at wsX8_at) := goodIn_app (goodIn_r _ [9, 10, 11, 12] rfl (by decide +kernel)) ggX10_isPhaseDone_X8_at
set_option maxRecDepth 20000 in
theorem ggX10_isPhaseDone_X10_liftFoot : GoodIn wsX10_isPhaseDone wsX10_liftFoot := goodIn_r _ [19, 20, 21, 3, 4, 22, 23, 24, 18, 25, 26, 9, 10, 11, 12, 13, 14, 27, 28, 29, 30, 31, 32, 33, 34, 35, 36, 37, 38, 39, 40, 41, 42, 43, 44, 45, 46, 47, 48, 49, 50, 51, 52, 53, 54, 55, 56, 57, 58, 59, 60, 61, 62, 63, 64, 65, 66, 67, 68, 69, 70, 71, 72, 73, 74, 75, 76, 77, 78, 79, 80, 81, 82, 83, 84, 85, 86, 87, 88, 89, 90, 91, 92, 93, 94, 265, 266, 267, 268, 269, 270, 271, 272, 273, 274, 275, 283, 284, 285, 286, 287, 288, 289, 290, 291, 292, 293, 294, 295, 296, 297, 298, 299, 300, 301, 302, 303] rfl (by decide +kernel)
set_option maxRecDepth 20000 in
theorem gX10_isPhaseDone_X10_liftFoot : GoodIn wsX10_isPhaseDone (wsV RX10 192 RX10 yX10_liftFoot wsX10_liftFoot) := goodIn_app (goodIn_r _ [15, 16, 17, 18] rfl (by decide +kernel)) ggX10_isPhaseDone_X10_liftFoot
set_option maxRecDepth 20000 in
theorem ggX10_isPhaseDone_X10_settled : GoodIn wsX10_isPhaseDone wsX10_settled := goodIn_r _ [98, 26, 3, 21, 99, 100, 101, 102, 30, 103, 33, 104, 105, 106, 107, 108, 109, 34, 68, 69, 70, 71, 72, 73, 110, 111, 112, 113, 114, 10, 11, 12, 13, 14, 115, 18, 116, 117, 118, 119, 120, 4, 121, 9, 122, 123, 124, 125, 126, 127, 128, 81, 43, 82, 129, 130, 49, 50, 51, 131, 132, 133, 134, 135, 136, 137, 138, 91, 139, 140, 141, 142, 93, 143, 144, 145, 146, 147, 27, 28, 29, 31, 32, 35, 36, 37, 38, 39, 40, 41, 42, 44, 45, 46, 47, 48, 52, 53, 54, 55, 56, 57, 58, 59, 60, 61, 62, 63, 64, 65, 66, 67, 74, 75, 76, 77, 78, 79, 80, 83, 84, 85, 86, 87, 148, 149, 150, 151, 152, 153, 154, 155, 156, 157, 158, 159, 160, 161, 162, 163, 164, 165, 166, 167, 168, 169, 170, 171, 172, 173, 174, 175, 176, 177, 178, 179, 180, 181, 182, 183, 184, 265, 266, 267, 268, 269, 270, 271, 272, 273, 274, 275, 300, 301, 302, 303, 283, 284, 285, 286, 287, 288, 304, 305, 306, 307, 293, 294, 295, 296, 297, 298, 299, 289, 290, 291, 292, 308, 309, 310, 311] rfl (by decide +kernel)
set_option maxRecDepth 20000 in
theorem gX10_isPhaseDone_X10_settled : GoodIn wsX10_isPhaseDone (wsV RX10 181 RX10 yX10_settled wsX10_settled) := goodIn_app (goodIn_r _ [95, 96, 97, 18] rfl (by decide +kernel)) ggX10_isPhaseDone_X10_settled
set_option maxRecDepth 20000 in
theorem ggX10_isPhaseDone_X10_xOf : GoodIn wsX10_isPhaseDone wsX10_xOf := goodIn_r _ [160] rfl (by decide +kernel)
set_option maxRecDepth 20000 in
theorem gX10_isPhaseDone_X10_xOf : GoodIn wsX10_isPhaseDone (va_wsS RX10 238 yX10_xOf wsX10_xOf) := goodIn_app (goodIn_r _ [185, 159, 18] rfl (by decide +kernel)) ggX10_isPhaseDone_X10_xOf
set_option maxRecDepth 20000 in
theorem ggX10_isPhaseDone_X10_yOf : GoodIn wsX10_isPhaseDone wsX10_yOf := goodIn_r _ [162] rfl (by decide +kernel)
set_option maxRecDepth 20000 in
theorem gX10_isPhaseDone_X10_yOf : GoodIn wsX10_isPhaseDone (va_wsS RX10 241 yX10_yOf wsX10_yOf) := goodIn_app (goodIn_r _ [186, 161, 18] rfl (by decide +kernel)) ggX10_isPhaseDone_X10_yOf
set_option maxRecDepth 20000 in
theorem ggX10_isPhaseDone_X10_pointAt : GoodIn wsX10_isPhaseDone wsX10_pointAt := goodIn_r _ [189] rfl (by decide +kernel)
set_option maxRecDepth 20000 in
theorem gX10_isPhaseDone_X10_pointAt : GoodIn wsX10_isPhaseDone (va_wsS RX10 81 yX10_pointAt wsX10_pointAt) := goodIn_app (goodIn_r _ [187, 188, 18] rfl (by decide +kernel)) ggX10_isPhaseDone_X10_pointAt
set_option maxRecDepth 20000 in
theorem ggX10_isPhaseDone_X10_placeFoot : GoodIn wsX10_isPhaseDone wsX10_placeFoot := goodIn_r _ [193, 3, 121, 194, 195, 196, 43, 197, 26, 20, 4, 21, 198, 199, 200, 30, 201, 202, 159, 18, 160, 203, 204, 205, 206, 59, 34, 207, 114, 10, 11, 12, 13, 14, 161, 162, 208, 209, 210, 211, 66, 212, 9, 213, 214, 215, 216, 33, 104, 217, 218, 81, 82, 219, 220, 221, 222, 223, 224, 225, 226, 227, 88, 89, 90, 91, 92, 93, 228, 229, 230, 231, 232, 233, 132, 133, 125, 134, 135, 127, 129, 130, 49, 50, 51, 136, 137, 138, 139, 140, 141, 142, 234, 235, 236, 237, 238, 239, 240, 241, 188, 189, 94, 265, 266, 267, 268, 269, 270, 271, 272, 273, 274, 275, 304, 305, 306, 307, 283, 284, 285, 286, 287, 288, 293, 294, 295, 296, 297, 298, 299, 289, 300, 301, 302, 303] rfl (by decide +kernel)
set_option maxRecDepth 20000 in
theorem gX10_isPhaseDone_X10_placeFoot : GoodIn wsX10_isPhaseDone (wsV RX10 197 RX10 yX10_placeFoot wsX10_placeFoot) := goodIn_app (goodIn_r _ [190, 191, 192, 18] rfl (by decide +kernel)) ggX10_isPhaseDone_X10_placeFoot
set_option maxRecDepth 20000 in
theorem ggX10_isPhaseDone_X10_shiftBody : GoodIn wsX10_isPhaseDone wsX10_shiftBody := goodIn_r _ [245, 246, 247, 3, 26, 20, 21, 248, 69, 70, 71, 72, 73, 249, 115, 18, 116, 250, 251, 252, 30, 253, 59, 66, 33, 254, 255, 256, 12, 257, 14, 258, 10, 11, 13, 259, 260, 261, 262, 188, 189, 114, 263, 220, 221, 222, 34, 223, 159, 160, 203, 204, 205, 206, 207, 161, 162, 208, 209, 210, 211, 212, 264, 28, 29, 31, 32, 35, 36, 37, 38, 39, 40, 41, 42, 43, 44, 45, 46, 47, 48, 49, 50, 51, 52, 53, 54, 55, 56, 57, 58, 60, 61, 62, 63, 64, 65, 67, 68, 74, 75, 76, 77, 78, 79, 80, 81, 82, 83, 84, 85, 86, 87, 88, 89, 90, 91, 92, 93, 265, 266, 267, 268, 269, 270, 271, 272, 273, 274, 275, 293, 294, 295, 296, 297, 298, 299, 283, 284, 285, 286, 287, 288, 289, 290, 291, 292, 300, 301, 302, 303] rfl (by decide +kernel)
set_option maxRecDepth 20000 in
theorem gX10_isPhaseDone_X10_shiftBody : GoodIn wsX10_isPhaseDone (wsV RX10 200 RX10 yX10_shiftBody wsX10_shiftBody) := goodIn_app (goodIn_r _ [242, 243, 244, 18] rfl (by decide +kernel)) ggX10_isPhaseDone_X10_shiftBody
theorem dX10_isPhaseDone_0 : decode cX10_isPhaseDone 0 = .ok (.aload_n 0, 1) := by decide +kernel
theorem dX10_isPhaseDone_1 : decode cX10_isPhaseDone 1 = .ok (.getfield 62, 3) := by decide +kernel
theorem dX10_isPhaseDone_4 : decode cX10_isPhaseDone 4 = .ok (.getfield 373, 3) := by decide +kernel
theorem dX10_isPhaseDone_7 : decode cX10_isPhaseDone 7 = .ok (.iload_n 1, 1) := by decide +kernel
theorem dX10_isPhaseDone_8 : decode cX10_isPhaseDone 8 = .ok (.invokevirtual 109, 3) := by decide +kernel
theorem dX10_isPhaseDone_11 : decode cX10_isPhaseDone 11 = .ok (.istore_n 2, 1) := by decide +kernel
theorem dX10_isPhaseDone_12 : decode cX10_isPhaseDone 12 = .ok (.aload_n 0, 1) := by decide +kernel
theorem dX10_isPhaseDone_13 : decode cX10_isPhaseDone 13 = .ok (.getfield 31, 3) := by decide +kernel
theorem dX10_isPhaseDone_16 : decode cX10_isPhaseDone 16 = .ok (.getfield 235, 3) := by decide +kernel
theorem dX10_isPhaseDone_19 : decode cX10_isPhaseDone 19 = .ok (.iload_n 2, 1) := by decide +kernel
theorem dX10_isPhaseDone_20 : decode cX10_isPhaseDone 20 = .ok (.invokevirtual 109, 3) := by decide +kernel
theorem dX10_isPhaseDone_23 : decode cX10_isPhaseDone 23 = .ok (.istore_n 3, 1) := by decide +kernel
theorem dX10_isPhaseDone_24 : decode cX10_isPhaseDone 24 = .ok (.aload_n 0, 1) := by decide +kernel
theorem dX10_isPhaseDone_25 : decode cX10_isPhaseDone 25 = .ok (.iload_n 2, 1) := by decide +kernel
theorem dX10_isPhaseDone_26 : decode cX10_isPhaseDone 26 = .ok (.invokevirtual 192, 3) := by decide +kernel
theorem dX10_isPhaseDone_29 : decode cX10_isPhaseDone 29 = .ok (.ifCond .eq 10, 3) := by decide +kernel
theorem dX10_isPhaseDone_32 : decode cX10_isPhaseDone 32 = .ok (.aload_n 0, 1) := by decide +kernel
theorem dX10_isPhaseDone_33 : decode cX10_isPhaseDone 33 = .ok (.invokevirtual 181, 3) := by decide +kernel
theorem dX10_isPhaseDone_36 : decode cX10_isPhaseDone 36 = .ok (.ifCond .eq 5, 3) := by decide +kernel
theorem dX10_isPhaseDone_39 : decode cX10_isPhaseDone 39 = .ok (.iconst 0, 1) := by decide +kernel
theorem dX10_isPhaseDone_40 : decode cX10_isPhaseDone 40 = .ok (.ireturn, 1) := by decide +kernel
theorem dX10_isPhaseDone_41 : decode cX10_isPhaseDone 41 = .ok (.iload_n 3, 1) := by decide +kernel
theorem dX10_isPhaseDone_42 : decode cX10_isPhaseDone 42 = .ok (.invokestatic 238, 3) := by decide +kernel
theorem dX10_isPhaseDone_45 : decode cX10_isPhaseDone 45 = .ok (.aload_n 0, 1) := by decide +kernel
theorem dX10_isPhaseDone_46 : decode cX10_isPhaseDone 46 = .ok (.getfield 62, 3) := by decide +kernel
theorem dX10_isPhaseDone_49 : decode cX10_isPhaseDone 49 = .ok (.getfield 376, 3) := by decide +kernel
theorem dX10_isPhaseDone_52 : decode cX10_isPhaseDone 52 = .ok (.iload_n 1, 1) := by decide +kernel
theorem dX10_isPhaseDone_53 : decode cX10_isPhaseDone 53 = .ok (.invokevirtual 109, 3) := by decide +kernel
theorem dX10_isPhaseDone_56 : decode cX10_isPhaseDone 56 = .ok (.iadd, 1) := by decide +kernel
theorem dX10_isPhaseDone_57 : decode cX10_isPhaseDone 57 = .ok (.iload_n 3, 1) := by decide +kernel
theorem dX10_isPhaseDone_58 : decode cX10_isPhaseDone 58 = .ok (.invokestatic 241, 3) := by decide +kernel
theorem dX10_isPhaseDone_61 : decode cX10_isPhaseDone 61 = .ok (.aload_n 0, 1) := by decide +kernel
theorem dX10_isPhaseDone_62 : decode cX10_isPhaseDone 62 = .ok (.getfield 62, 3) := by decide +kernel
theorem dX10_isPhaseDone_65 : decode cX10_isPhaseDone 65 = .ok (.getfield 379, 3) := by decide +kernel
theorem dX10_isPhaseDone_68 : decode cX10_isPhaseDone 68 = .ok (.iload_n 1, 1) := by decide +kernel
theorem dX10_isPhaseDone_69 : decode cX10_isPhaseDone 69 = .ok (.invokevirtual 109, 3) := by decide +kernel
theorem dX10_isPhaseDone_72 : decode cX10_isPhaseDone 72 = .ok (.iadd, 1) := by decide +kernel
theorem dX10_isPhaseDone_73 : decode cX10_isPhaseDone 73 = .ok (.invokestatic 81, 3) := by decide +kernel
theorem dX10_isPhaseDone_76 : decode cX10_isPhaseDone 76 = .ok (.istore 4, 2) := by decide +kernel
theorem dX10_isPhaseDone_78 : decode cX10_isPhaseDone 78 = .ok (.iload 4, 2) := by decide +kernel
theorem dX10_isPhaseDone_80 : decode cX10_isPhaseDone 80 = .ok (.iconst (-1), 1) := by decide +kernel
theorem dX10_isPhaseDone_81 : decode cX10_isPhaseDone 81 = .ok (.if_icmp .eq 20, 3) := by decide +kernel
theorem dX10_isPhaseDone_84 : decode cX10_isPhaseDone 84 = .ok (.aload_n 0, 1) := by decide +kernel
theorem dX10_isPhaseDone_85 : decode cX10_isPhaseDone 85 = .ok (.iload_n 2, 1) := by decide +kernel
theorem dX10_isPhaseDone_86 : decode cX10_isPhaseDone 86 = .ok (.iload 4, 2) := by decide +kernel
theorem dX10_isPhaseDone_88 : decode cX10_isPhaseDone 88 = .ok (.invokevirtual 197, 3) := by decide +kernel
theorem dX10_isPhaseDone_91 : decode cX10_isPhaseDone 91 = .ok (.ifCond .eq 10, 3) := by decide +kernel
theorem dX10_isPhaseDone_94 : decode cX10_isPhaseDone 94 = .ok (.aload_n 0, 1) := by decide +kernel
theorem dX10_isPhaseDone_95 : decode cX10_isPhaseDone 95 = .ok (.invokevirtual 181, 3) := by decide +kernel
theorem dX10_isPhaseDone_98 : decode cX10_isPhaseDone 98 = .ok (.ifCond .eq 5, 3) := by decide +kernel
theorem dX10_isPhaseDone_101 : decode cX10_isPhaseDone 101 = .ok (.iconst 0, 1) := by decide +kernel
theorem dX10_isPhaseDone_102 : decode cX10_isPhaseDone 102 = .ok (.ireturn, 1) := by decide +kernel
theorem dX10_isPhaseDone_103 : decode cX10_isPhaseDone 103 = .ok (.aload_n 0, 1) := by decide +kernel
theorem dX10_isPhaseDone_104 : decode cX10_isPhaseDone 104 = .ok (.getfield 62, 3) := by decide +kernel
theorem dX10_isPhaseDone_107 : decode cX10_isPhaseDone 107 = .ok (.getfield 382, 3) := by decide +kernel
theorem dX10_isPhaseDone_110 : decode cX10_isPhaseDone 110 = .ok (.iload_n 1, 1) := by decide +kernel
theorem dX10_isPhaseDone_111 : decode cX10_isPhaseDone 111 = .ok (.invokevirtual 109, 3) := by decide +kernel
theorem dX10_isPhaseDone_114 : decode cX10_isPhaseDone 114 = .ok (.istore 5, 2) := by decide +kernel
theorem dX10_isPhaseDone_116 : decode cX10_isPhaseDone 116 = .ok (.aload_n 0, 1) := by decide +kernel
theorem dX10_isPhaseDone_117 : decode cX10_isPhaseDone 117 = .ok (.getfield 62, 3) := by decide +kernel
theorem dX10_isPhaseDone_120 : decode cX10_isPhaseDone 120 = .ok (.getfield 384, 3) := by decide +kernel
theorem dX10_isPhaseDone_123 : decode cX10_isPhaseDone 123 = .ok (.iload_n 1, 1) := by decide +kernel
theorem dX10_isPhaseDone_124 : decode cX10_isPhaseDone 124 = .ok (.invokevirtual 109, 3) := by decide +kernel
theorem dX10_isPhaseDone_127 : decode cX10_isPhaseDone 127 = .ok (.istore 6, 2) := by decide +kernel
theorem dX10_isPhaseDone_129 : decode cX10_isPhaseDone 129 = .ok (.iload 5, 2) := by decide +kernel
theorem dX10_isPhaseDone_131 : decode cX10_isPhaseDone 131 = .ok (.ifCond .ne 8, 3) := by decide +kernel
theorem dX10_isPhaseDone_134 : decode cX10_isPhaseDone 134 = .ok (.iload 6, 2) := by decide +kernel
theorem dX10_isPhaseDone_136 : decode cX10_isPhaseDone 136 = .ok (.ifCond .eq 21, 3) := by decide +kernel
theorem dX10_isPhaseDone_139 : decode cX10_isPhaseDone 139 = .ok (.aload_n 0, 1) := by decide +kernel
theorem dX10_isPhaseDone_140 : decode cX10_isPhaseDone 140 = .ok (.iload 5, 2) := by decide +kernel
theorem dX10_isPhaseDone_142 : decode cX10_isPhaseDone 142 = .ok (.iload 6, 2) := by decide +kernel
theorem dX10_isPhaseDone_144 : decode cX10_isPhaseDone 144 = .ok (.invokevirtual 200, 3) := by decide +kernel
theorem dX10_isPhaseDone_147 : decode cX10_isPhaseDone 147 = .ok (.ifCond .eq 14, 3) := by decide +kernel
theorem dX10_isPhaseDone_150 : decode cX10_isPhaseDone 150 = .ok (.aload_n 0, 1) := by decide +kernel
theorem dX10_isPhaseDone_151 : decode cX10_isPhaseDone 151 = .ok (.invokevirtual 181, 3) := by decide +kernel
theorem dX10_isPhaseDone_154 : decode cX10_isPhaseDone 154 = .ok (.ifCond .ne 7, 3) := by decide +kernel
theorem dX10_isPhaseDone_157 : decode cX10_isPhaseDone 157 = .ok (.iconst 1, 1) := by decide +kernel
theorem dX10_isPhaseDone_158 : decode cX10_isPhaseDone 158 = .ok (.goto 4, 3) := by decide +kernel
theorem dX10_isPhaseDone_161 : decode cX10_isPhaseDone 161 = .ok (.iconst 0, 1) := by decide +kernel
theorem dX10_isPhaseDone_162 : decode cX10_isPhaseDone 162 = .ok (.ireturn, 1) := by decide +kernel
set_option maxRecDepth 20000 in
theorem ggX10_mayLift_X8_at : GoodIn wsX10_mayLift wsX8_at := goodIn_r _ [9, 10, 90] rfl (by decide +kernel)
set_option maxRecDepth 20000 in
theorem gX10_mayLift_X8_at : GoodIn wsX10_mayLift (wsV RX10 109 RX8 yX8_at wsX8_at) := goodIn_app (goodIn_r _ [5, 6, 7, 8] rfl (by decide +kernel)) ggX10_mayLift_X8_at
set_option maxRecDepth 20000 in
theorem ggX10_mayLift_X9_holdsWithout : GoodIn wsX10_mayLift wsX9_holdsWithout := goodIn_r _ [15, 16, 17, 18, 19, 20, 21, 22, 23, 24, 25, 26, 27, 28, 29, 30, 31, 6, 7, 8, 9, 10, 32, 33, 34, 35, 36, 37, 38, 39, 40, 41, 14, 42, 43, 44, 45, 46, 47, 48, 49, 50, 51, 52, 53, 54, 55, 56, 57, 58, 59, 60, 61, 62, 63, 64, 65, 66, 67, 68, 69, 70, 71, 72, 84, 85, 86, 87, 88, 89, 91, 92, 93, 90, 94, 95, 96, 97, 98, 99, 100] rfl (by decide +kernel)
set_option maxRecDepth 20000 in
theorem gX10_mayLift_X9_holdsWithout : GoodIn wsX10_mayLift (wsV RX10 244 RX9 yX9_holdsWithout wsX9_holdsWithout) := goodIn_app (goodIn_r _ [11, 12, 13, 14] rfl (by decide +kernel)) ggX10_mayLift_X9_holdsWithout
theorem dX10_mayLift_0 : decode cX10_mayLift 0 = .ok (.aload_n 0, 1) := by decide +kernel
theorem dX10_mayLift_1 : decode cX10_mayLift 1 = .ok (.getfield 73, 3) := by decide +kernel
theorem dX10_mayLift_4 : decode cX10_mayLift 4 = .ok (.ifCond .eq 41, 3) := by decide +kernel
theorem dX10_mayLift_7 : decode cX10_mayLift 7 = .ok (.aload_n 0, 1) := by decide +kernel
theorem dX10_mayLift_8 : decode cX10_mayLift 8 = .ok (.getfield 77, 3) := by decide +kernel
theorem dX10_mayLift_11 : decode cX10_mayLift 11 = .ok (.iconst 1, 1) := by decide +kernel
theorem dX10_mayLift_12 : decode cX10_mayLift 12 = .ok (.if_icmp .lt 33, 3) := by decide +kernel
theorem dX10_mayLift_15 : decode cX10_mayLift 15 = .ok (.aload_n 0, 1) := by decide +kernel
theorem dX10_mayLift_16 : decode cX10_mayLift 16 = .ok (.getfield 31, 3) := by decide +kernel
theorem dX10_mayLift_19 : decode cX10_mayLift 19 = .ok (.getfield 235, 3) := by decide +kernel
theorem dX10_mayLift_22 : decode cX10_mayLift 22 = .ok (.iload_n 1, 1) := by decide +kernel
theorem dX10_mayLift_23 : decode cX10_mayLift 23 = .ok (.invokevirtual 109, 3) := by decide +kernel
theorem dX10_mayLift_26 : decode cX10_mayLift 26 = .ok (.iconst (-1), 1) := by decide +kernel
theorem dX10_mayLift_27 : decode cX10_mayLift 27 = .ok (.if_icmp .eq 18, 3) := by decide +kernel
theorem dX10_mayLift_30 : decode cX10_mayLift 30 = .ok (.aload_n 0, 1) := by decide +kernel
theorem dX10_mayLift_31 : decode cX10_mayLift 31 = .ok (.getfield 31, 3) := by decide +kernel
theorem dX10_mayLift_34 : decode cX10_mayLift 34 = .ok (.iload_n 1, 1) := by decide +kernel
theorem dX10_mayLift_35 : decode cX10_mayLift 35 = .ok (.invokevirtual 244, 3) := by decide +kernel
theorem dX10_mayLift_38 : decode cX10_mayLift 38 = .ok (.ifCond .eq 7, 3) := by decide +kernel
theorem dX10_mayLift_41 : decode cX10_mayLift 41 = .ok (.iconst 1, 1) := by decide +kernel
theorem dX10_mayLift_42 : decode cX10_mayLift 42 = .ok (.goto 4, 3) := by decide +kernel
theorem dX10_mayLift_45 : decode cX10_mayLift 45 = .ok (.iconst 0, 1) := by decide +kernel
theorem dX10_mayLift_46 : decode cX10_mayLift 46 = .ok (.ireturn, 1) := by decide +kernel
set_option maxRecDepth 20000 in
theorem ggX10_hipsBear_X9_copy : GoodIn wsX10_hipsBear wsX9_copy := goodIn_r _ [19, 20, 21, 22, 23, 24, 25, 26, 27, 28, 29, 30, 31, 32, 124, 125, 126, 127, 128, 129, 134] rfl (by decide +kernel)
set_option maxRecDepth 20000 in
theorem gX10_hipsBear_X9_copy : GoodIn wsX10_hipsBear (wsV RX10 294 RX9 yX9_copy wsX9_copy) := goodIn_app (goodIn_r _ [15, 16, 17, 18] rfl (by decide +kernel)) ggX10_hipsBear_X9_copy
set_option maxRecDepth 20000 in
theorem ggX10_hipsBear_X9_hipX : GoodIn wsX10_hipsBear wsX9_hipX := goodIn_r _ [36, 20, 37, 38, 39, 30, 31, 26, 32, 28, 124, 125, 126, 127, 128, 129, 117, 118, 119, 120, 121, 122, 123, 134] rfl (by decide +kernel)
set_option maxRecDepth 20000 in
theorem gX10_hipsBear_X9_hipX : GoodIn wsX10_hipsBear (wsV RX10 349 RX9 yX9_hipX wsX9_hipX) := goodIn_app (goodIn_r _ [33, 34, 35, 18] rfl (by decide +kernel)) ggX10_hipsBear_X9_hipX
set_option maxRecDepth 20000 in
theorem ggX10_hipsBear_X9_hipY : GoodIn wsX10_hipsBear wsX9_hipY := goodIn_r _ [43, 21, 37, 44, 39, 30, 31, 26, 32, 28, 124, 125, 126, 127, 128, 129, 117, 118, 119, 120, 121, 122, 123, 134] rfl (by decide +kernel)
set_option maxRecDepth 20000 in
theorem gX10_hipsBear_X9_hipY : GoodIn wsX10_hipsBear (wsV RX10 352 RX9 yX9_hipY wsX9_hipY) := goodIn_app (goodIn_r _ [40, 41, 42, 18] rfl (by decide +kernel)) ggX10_hipsBear_X9_hipY
set_option maxRecDepth 20000 in
theorem ggX10_hipsBear_X10_pointAt : GoodIn wsX10_hipsBear wsX10_pointAt := goodIn_r _ [48] rfl (by decide +kernel)
set_option maxRecDepth 20000 in
theorem gX10_hipsBear_X10_pointAt : GoodIn wsX10_hipsBear (va_wsS RX10 81 yX10_pointAt wsX10_pointAt) := goodIn_app (goodIn_r _ [45, 46, 47] rfl (by decide +kernel)) ggX10_hipsBear_X10_pointAt
set_option maxRecDepth 20000 in
theorem ggX10_hipsBear_X9_isTaken : GoodIn wsX10_hipsBear wsX9_isTaken := goodIn_r _ [52, 22, 39, 30, 31, 26, 32, 28, 124, 125, 126, 127, 128, 129, 134] rfl (by decide +kernel)
set_option maxRecDepth 20000 in
theorem gX10_hipsBear_X9_isTaken : GoodIn wsX10_hipsBear (wsV RX10 96 RX9 yX9_isTaken wsX9_isTaken) := goodIn_app (goodIn_r _ [49, 50, 51, 18] rfl (by decide +kernel)) ggX10_hipsBear_X9_isTaken
set_option maxRecDepth 20000 in
theorem ggX10_hipsBear_X8_put : GoodIn wsX10_hipsBear wsX8_put := goodIn_r _ [56, 28, 134] rfl (by decide +kernel)
set_option maxRecDepth 20000 in
theorem gX10_hipsBear_X8_put : GoodIn wsX10_hipsBear (wsV RX10 115 RX8 yX8_put wsX8_put) := goodIn_app (goodIn_r _ [53, 54, 55, 26] rfl (by decide +kernel)) ggX10_hipsBear_X8_put
set_option maxRecDepth 20000 in
theorem ggX10_hipsBear_X8_at : GoodIn wsX10_hipsBear wsX8_at := goodIn_r _ [32, 28, 134] rfl (by decide +kernel)
set_option maxRecDepth 20000 in
theorem gX10_hipsBear_X8_at : GoodIn wsX10_hipsBear (wsV RX10 109 RX8 yX8_at wsX8_at) := goodIn_app (goodIn_r _ [57, 30, 31, 26] rfl (by decide +kernel)) ggX10_hipsBear_X8_at
set_option maxRecDepth 20000 in
theorem ggX10_hipsBear_X9_holdsWithout : GoodIn wsX10_hipsBear wsX9_holdsWithout := goodIn_r _ [61, 62, 22, 37, 63, 64, 65, 66, 67, 68, 69, 9, 10, 11, 70, 71, 72, 30, 31, 26, 32, 28, 73, 54, 55, 56, 74, 75, 76, 77, 78, 79, 18, 80, 20, 81, 82, 83, 84, 85, 86, 21, 87, 88, 89, 90, 91, 92, 93, 94, 95, 96, 97, 98, 99, 100, 13, 14, 101, 102, 103, 104, 47, 105, 124, 125, 126, 127, 128, 129, 135, 136, 137, 134, 117, 118, 119, 120, 121, 122, 123] rfl (by decide +kernel)
set_option maxRecDepth 20000 in
theorem gX10_hipsBear_X9_holdsWithout : GoodIn wsX10_hipsBear (wsV RX10 244 RX9 yX9_holdsWithout wsX9_holdsWithout) := goodIn_app (goodIn_r _ [58, 59, 60, 18] rfl (by decide +kernel)) ggX10_hipsBear_X9_holdsWithout
theorem dX10_hipsBear_0 : decode cX10_hipsBear 0 = .ok (.bipush 9, 2) := by decide +kernel
theorem dX10_hipsBear_2 : decode cX10_hipsBear 2 = .ok (.istore_n 1, 1) := by decide +kernel
theorem dX10_hipsBear_3 : decode cX10_hipsBear 3 = .ok (.iconst 0, 1) := by decide +kernel
theorem dX10_hipsBear_4 : decode cX10_hipsBear 4 = .ok (.istore_n 2, 1) := by decide +kernel
theorem dX10_hipsBear_5 : decode cX10_hipsBear 5 = .ok (.aload_n 0, 1) := by decide +kernel
theorem dX10_hipsBear_6 : decode cX10_hipsBear 6 = .ok (.getfield 35, 3) := by decide +kernel
theorem dX10_hipsBear_9 : decode cX10_hipsBear 9 = .ok (.aload_n 0, 1) := by decide +kernel
theorem dX10_hipsBear_10 : decode cX10_hipsBear 10 = .ok (.getfield 31, 3) := by decide +kernel
theorem dX10_hipsBear_13 : decode cX10_hipsBear 13 = .ok (.invokevirtual 294, 3) := by decide +kernel
theorem dX10_hipsBear_16 : decode cX10_hipsBear 16 = .ok (.iconst 0, 1) := by decide +kernel
theorem dX10_hipsBear_17 : decode cX10_hipsBear 17 = .ok (.istore_n 3, 1) := by decide +kernel
theorem dX10_hipsBear_18 : decode cX10_hipsBear 18 = .ok (.iload_n 3, 1) := by decide +kernel
theorem dX10_hipsBear_19 : decode cX10_hipsBear 19 = .ok (.aload_n 0, 1) := by decide +kernel
theorem dX10_hipsBear_20 : decode cX10_hipsBear 20 = .ok (.getfield 22, 3) := by decide +kernel
theorem dX10_hipsBear_23 : decode cX10_hipsBear 23 = .ok (.getfield 136, 3) := by decide +kernel
theorem dX10_hipsBear_26 : decode cX10_hipsBear 26 = .ok (.if_icmp .ge 98, 3) := by decide +kernel
theorem dX10_hipsBear_29 : decode cX10_hipsBear 29 = .ok (.aload_n 0, 1) := by decide +kernel
theorem dX10_hipsBear_30 : decode cX10_hipsBear 30 = .ok (.getfield 31, 3) := by decide +kernel
theorem dX10_hipsBear_33 : decode cX10_hipsBear 33 = .ok (.iload_n 3, 1) := by decide +kernel
theorem dX10_hipsBear_34 : decode cX10_hipsBear 34 = .ok (.invokevirtual 349, 3) := by decide +kernel
theorem dX10_hipsBear_37 : decode cX10_hipsBear 37 = .ok (.aload_n 0, 1) := by decide +kernel
theorem dX10_hipsBear_38 : decode cX10_hipsBear 38 = .ok (.getfield 31, 3) := by decide +kernel
theorem dX10_hipsBear_41 : decode cX10_hipsBear 41 = .ok (.iload_n 3, 1) := by decide +kernel
theorem dX10_hipsBear_42 : decode cX10_hipsBear 42 = .ok (.invokevirtual 352, 3) := by decide +kernel
theorem dX10_hipsBear_45 : decode cX10_hipsBear 45 = .ok (.invokestatic 81, 3) := by decide +kernel
theorem dX10_hipsBear_48 : decode cX10_hipsBear 48 = .ok (.istore 4, 2) := by decide +kernel
theorem dX10_hipsBear_50 : decode cX10_hipsBear 50 = .ok (.iload 4, 2) := by decide +kernel
theorem dX10_hipsBear_52 : decode cX10_hipsBear 52 = .ok (.iconst (-1), 1) := by decide +kernel
theorem dX10_hipsBear_53 : decode cX10_hipsBear 53 = .ok (.if_icmp .eq 16, 3) := by decide +kernel
theorem dX10_hipsBear_56 : decode cX10_hipsBear 56 = .ok (.aload_n 0, 1) := by decide +kernel
theorem dX10_hipsBear_57 : decode cX10_hipsBear 57 = .ok (.getfield 35, 3) := by decide +kernel
theorem dX10_hipsBear_60 : decode cX10_hipsBear 60 = .ok (.iload 4, 2) := by decide +kernel
theorem dX10_hipsBear_62 : decode cX10_hipsBear 62 = .ok (.iconst (-1), 1) := by decide +kernel
theorem dX10_hipsBear_63 : decode cX10_hipsBear 63 = .ok (.invokevirtual 96, 3) := by decide +kernel
theorem dX10_hipsBear_66 : decode cX10_hipsBear 66 = .ok (.ifCond .eq 5, 3) := by decide +kernel
theorem dX10_hipsBear_69 : decode cX10_hipsBear 69 = .ok (.iconst 0, 1) := by decide +kernel
theorem dX10_hipsBear_70 : decode cX10_hipsBear 70 = .ok (.ireturn, 1) := by decide +kernel
theorem dX10_hipsBear_71 : decode cX10_hipsBear 71 = .ok (.aload_n 0, 1) := by decide +kernel
theorem dX10_hipsBear_72 : decode cX10_hipsBear 72 = .ok (.getfield 35, 3) := by decide +kernel
theorem dX10_hipsBear_75 : decode cX10_hipsBear 75 = .ok (.getfield 235, 3) := by decide +kernel
theorem dX10_hipsBear_78 : decode cX10_hipsBear 78 = .ok (.iload_n 3, 1) := by decide +kernel
theorem dX10_hipsBear_79 : decode cX10_hipsBear 79 = .ok (.iload 4, 2) := by decide +kernel
theorem dX10_hipsBear_81 : decode cX10_hipsBear 81 = .ok (.invokevirtual 115, 3) := by decide +kernel
theorem dX10_hipsBear_84 : decode cX10_hipsBear 84 = .ok (.iload_n 1, 1) := by decide +kernel
theorem dX10_hipsBear_85 : decode cX10_hipsBear 85 = .ok (.aload_n 0, 1) := by decide +kernel
theorem dX10_hipsBear_86 : decode cX10_hipsBear 86 = .ok (.getfield 15, 3) := by decide +kernel
theorem dX10_hipsBear_89 : decode cX10_hipsBear 89 = .ok (.getfield 127, 3) := by decide +kernel
theorem dX10_hipsBear_92 : decode cX10_hipsBear 92 = .ok (.iload 4, 2) := by decide +kernel
theorem dX10_hipsBear_94 : decode cX10_hipsBear 94 = .ok (.invokevirtual 109, 3) := by decide +kernel
theorem dX10_hipsBear_97 : decode cX10_hipsBear 97 = .ok (.invokestatic 147, 3) := by decide +kernel
theorem dX10_hipsBear_100 : decode cX10_hipsBear 100 = .ok (.istore_n 1, 1) := by decide +kernel
theorem dX10_hipsBear_101 : decode cX10_hipsBear 101 = .ok (.iload_n 2, 1) := by decide +kernel
theorem dX10_hipsBear_102 : decode cX10_hipsBear 102 = .ok (.aload_n 0, 1) := by decide +kernel
theorem dX10_hipsBear_103 : decode cX10_hipsBear 103 = .ok (.getfield 15, 3) := by decide +kernel
theorem dX10_hipsBear_106 : decode cX10_hipsBear 106 = .ok (.getfield 127, 3) := by decide +kernel
theorem dX10_hipsBear_109 : decode cX10_hipsBear 109 = .ok (.iload 4, 2) := by decide +kernel
theorem dX10_hipsBear_111 : decode cX10_hipsBear 111 = .ok (.invokevirtual 109, 3) := by decide +kernel
theorem dX10_hipsBear_114 : decode cX10_hipsBear 114 = .ok (.invokestatic 386, 3) := by decide +kernel
theorem dX10_hipsBear_117 : decode cX10_hipsBear 117 = .ok (.istore_n 2, 1) := by decide +kernel
theorem dX10_hipsBear_118 : decode cX10_hipsBear 118 = .ok (.iinc 3 1, 3) := by decide +kernel
theorem dX10_hipsBear_121 : decode cX10_hipsBear 121 = .ok (.goto (-103), 3) := by decide +kernel
theorem dX10_hipsBear_124 : decode cX10_hipsBear 124 = .ok (.iload_n 2, 1) := by decide +kernel
theorem dX10_hipsBear_125 : decode cX10_hipsBear 125 = .ok (.iload_n 1, 1) := by decide +kernel
theorem dX10_hipsBear_126 : decode cX10_hipsBear 126 = .ok (.isub, 1) := by decide +kernel
theorem dX10_hipsBear_127 : decode cX10_hipsBear 127 = .ok (.iconst 2, 1) := by decide +kernel
theorem dX10_hipsBear_128 : decode cX10_hipsBear 128 = .ok (.if_icmp .gt 18, 3) := by decide +kernel
theorem dX10_hipsBear_131 : decode cX10_hipsBear 131 = .ok (.aload_n 0, 1) := by decide +kernel
theorem dX10_hipsBear_132 : decode cX10_hipsBear 132 = .ok (.getfield 35, 3) := by decide +kernel
theorem dX10_hipsBear_135 : decode cX10_hipsBear 135 = .ok (.iconst (-1), 1) := by decide +kernel
theorem dX10_hipsBear_136 : decode cX10_hipsBear 136 = .ok (.invokevirtual 244, 3) := by decide +kernel
theorem dX10_hipsBear_139 : decode cX10_hipsBear 139 = .ok (.ifCond .eq 7, 3) := by decide +kernel
theorem dX10_hipsBear_142 : decode cX10_hipsBear 142 = .ok (.iconst 1, 1) := by decide +kernel
theorem dX10_hipsBear_143 : decode cX10_hipsBear 143 = .ok (.goto 4, 3) := by decide +kernel
theorem dX10_hipsBear_146 : decode cX10_hipsBear 146 = .ok (.iconst 0, 1) := by decide +kernel
theorem dX10_hipsBear_147 : decode cX10_hipsBear 147 = .ok (.ireturn, 1) := by decide +kernel
set_option maxRecDepth 20000 in
theorem ggX10_setFoot_X8_at : GoodIn wsX10_setFoot wsX8_at := goodIn_r _ [15, 16, 100] rfl (by decide +kernel)
set_option maxRecDepth 20000 in
theorem gX10_setFoot_X8_at : GoodIn wsX10_setFoot (wsV RX10 109 RX8 yX8_at wsX8_at) := goodIn_app (goodIn_r _ [11, 12, 13, 14] rfl (by decide +kernel)) ggX10_setFoot_X8_at
set_option maxRecDepth 20000 in
theorem ggX10_setFoot_X5_learn : GoodIn wsX10_setFoot wsX5_learn := goodIn_r _ [21, 22, 23, 24, 12, 13, 14, 15, 16, 25, 26, 27, 28, 90, 91, 92, 93, 100] rfl (by decide +kernel)
