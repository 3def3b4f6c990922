/-! the law's own words, and its private methods: written by gen19c.py -/
def jL_0 : List Cond := [Cond.initialized RL, Cond.classLink RL 13 "java/lang/IllegalArgumentException", Cond.classLink RL 15 "java/lang/IllegalStateException", Cond.classLink RL 31 "java/lang/IndexOutOfBoundsException", Cond.methodLink RL 7 yX10_ground, Cond.instanceMethod yX10_ground, Cond.selects RX10 yX10_ground yX10_ground, Cond.code yX10_ground cX10_ground 8 (some .int), Cond.methodLink RL 84 yL_ground, Cond.static yL_ground, Cond.codeWith yL_ground cL_ground 8 (some .int) [(0, 16, 19, 13), (0, 16, 23, 15)], Cond.methodLink RL 17 yX10_chart, Cond.instanceMethod yX10_chart, Cond.selects RX10 yX10_chart yX10_chart, Cond.code yX10_chart cX10_chart 6 (some .int), Cond.methodLink RL 93 yL_chart, Cond.static yL_chart, Cond.codeWith yL_chart cL_chart 6 (some .int) [(0, 12, 15, 13)], Cond.methodLink RL 21 yX10_leg, Cond.instanceMethod yX10_leg, Cond.selects RX10 yX10_leg yX10_leg, Cond.code yX10_leg cX10_leg 4 (some .int), Cond.methodLink RL 97 yL_leg, Cond.static yL_leg, Cond.codeWith yL_leg cL_leg 6 (some .int) [(0, 12, 15, 13), (0, 12, 19, 15)], Cond.methodLink RL 24 yX10_charge, Cond.instanceMethod yX10_charge, Cond.selects RX10 yX10_charge yX10_charge, Cond.code yX10_charge cX10_charge 2 (some .int), Cond.methodLink RL 100 yL_charge, Cond.static yL_charge, Cond.codeWith yL_charge cL_charge 4 (some .int) [(0, 9, 12, 13)], Cond.methodLink RL 28 yX10_phase, Cond.instanceMethod yX10_phase, Cond.selects RX10 yX10_phase yX10_phase, Cond.code yX10_phase cX10_phase 6 (some .int), Cond.methodLink RL 104 yL_phase, Cond.static yL_phase, Cond.codeWith yL_phase cL_phase 8 (some .int) [(0, 16, 19, 31), (0, 16, 23, 13), (0, 16, 27, 15)], Cond.methodLink RL 33 yX10_load]
def jL_1 : List Cond := [Cond.instanceMethod yX10_load, Cond.selects RX10 yX10_load yX10_load, Cond.code yX10_load cX10_load 4 (some .int), Cond.methodLink RL 111 yL_load, Cond.static yL_load, Cond.codeWith yL_load cL_load 6 (some .int) [(0, 12, 15, 13), (0, 12, 19, 15)], Cond.methodLink RL 36 yX10_rise, Cond.instanceMethod yX10_rise, Cond.selects RX10 yX10_rise yX10_rise, Cond.code yX10_rise cX10_rise 1 (some .int), Cond.methodLink RL 114 yL_rise, Cond.static yL_rise, Cond.codeWith yL_rise cL_rise 3 (some .int) [(0, 8, 11, 15)], Cond.methodLink RL 40 yX10_lift, Cond.instanceMethod yX10_lift, Cond.selects RX10 yX10_lift yX10_lift, Cond.code yX10_lift cX10_lift 2 (some .int), Cond.methodLink RL 118 yL_lift, Cond.static yL_lift, Cond.codeWith yL_lift cL_lift 4 (some .int) [(0, 9, 12, 31), (0, 9, 15, 15)], Cond.methodLink RL 43 yX10_place, Cond.instanceMethod yX10_place, Cond.selects RX10 yX10_place yX10_place, Cond.code yX10_place cX10_place 5 (some .int), Cond.methodLink RL 121 yL_place, Cond.static yL_place, Cond.codeWith yL_place cL_place 6 (some .int) [(0, 12, 15, 31), (0, 12, 19, 13), (0, 12, 23, 15)], Cond.methodLink RL 46 yX10_shift, Cond.instanceMethod yX10_shift, Cond.selects RX10 yX10_shift yX10_shift, Cond.code yX10_shift cX10_shift 3 (some .int), Cond.methodLink RL 124 yL_shift, Cond.static yL_shift, Cond.codeWith yL_shift cL_shift 5 (some .int) [(0, 10, 13, 13), (0, 10, 17, 15)], Cond.methodLink RL 50 yX10_walk, Cond.instanceMethod yX10_walk, Cond.selects RX10 yX10_walk yX10_walk, Cond.code yX10_walk cX10_walk 3 (some .int), Cond.methodLink RL 128 yL_walk, Cond.static yL_walk]
def jL_2 : List Cond := [Cond.codeWith yL_walk cL_walk 4 (some .int) [(0, 9, 12, 13), (0, 9, 15, 15)], Cond.methodLink RL 53 yX10_machine, Cond.instanceMethod yX10_machine, Cond.selects RX10 yX10_machine yX10_machine, Cond.code yX10_machine cX10_machine 2 (some .int), Cond.methodLink RL 131 yL_machine, Cond.static yL_machine, Cond.codeWith yL_machine cL_machine 4 (some .int) [(0, 9, 12, 13)], Cond.methodLink RL 56 yX10_foot, Cond.instanceMethod yX10_foot, Cond.selects RX10 yX10_foot yX10_foot, Cond.code yX10_foot cX10_foot 4 (some .int), Cond.methodLink RL 134 yL_foot, Cond.static yL_foot, Cond.codeWith yL_foot cL_foot 5 (some .int) [(0, 10, 13, 31), (0, 10, 17, 13)], Cond.methodLink RL 59 yX10_point, Cond.instanceMethod yX10_point, Cond.selects RX10 yX10_point yX10_point, Cond.code yX10_point cX10_point 5 (some .int), Cond.methodLink RL 137 yL_point, Cond.static yL_point, Cond.codeWith yL_point cL_point 6 (some .int) [(0, 12, 15, 13)], Cond.methodLink RL 62 yX10_corner, Cond.instanceMethod yX10_corner, Cond.selects RX10 yX10_corner yX10_corner, Cond.code yX10_corner cX10_corner 2 (some .int), Cond.methodLink RL 153 yL_corner, Cond.static yL_corner, Cond.codeWith yL_corner cL_corner 4 (some .int) [(0, 9, 12, 13)], Cond.methodLink RL 65 yX10_foothold, Cond.instanceMethod yX10_foothold, Cond.selects RX10 yX10_foothold yX10_foothold, Cond.code yX10_foothold cX10_foothold 2 (some .int), Cond.methodLink RL 156 yL_foothold, Cond.static yL_foothold, Cond.codeWith yL_foothold cL_foothold 4 (some .int) [(0, 9, 12, 31)], Cond.methodLink RL 68 yX10_wouldLift, Cond.instanceMethod yX10_wouldLift, Cond.selects RX10 yX10_wouldLift yX10_wouldLift, Cond.code yX10_wouldLift cX10_wouldLift 2 (some .int)]
def jL_3 : List Cond := [Cond.methodLink RL 159 yL_wouldLift, Cond.static yL_wouldLift, Cond.codeWith yL_wouldLift cL_wouldLift 4 (some .int) [(0, 9, 12, 31)], Cond.methodLink RL 71 yX10_fewest, Cond.instanceMethod yX10_fewest, Cond.selects RX10 yX10_fewest yX10_fewest, Cond.code yX10_fewest cX10_fewest 5 (some .int), Cond.methodLink RL 162 yL_fewest, Cond.static yL_fewest, Cond.codeWith yL_fewest cL_fewest 5 (some .int) [(0, 10, 13, 13)], Cond.methodLink RL 74 yX10_fewestAnew, Cond.instanceMethod yX10_fewestAnew, Cond.selects RX10 yX10_fewestAnew yX10_fewestAnew, Cond.code yX10_fewestAnew cX10_fewestAnew 5 (some .int), Cond.methodLink RL 165 yL_fewestAnew, Cond.static yL_fewestAnew, Cond.codeWith yL_fewestAnew cL_fewestAnew 5 (some .int) [(0, 10, 13, 13)], Cond.methodLink RL 77 yX10_fall, Cond.instanceMethod yX10_fall, Cond.selects RX10 yX10_fall yX10_fall, Cond.code yX10_fall cX10_fall 3 (some .int), Cond.methodLink RL 168 yL_fall, Cond.static yL_fall, Cond.codeWith yL_fall cL_fall 5 (some .int) [(0, 10, 13, 31), (0, 10, 17, 13)], Cond.methodLink RL 89 yX11_ground, Cond.instanceMethod yX11_ground, Cond.selects RX11 yX11_ground yX11_ground, Cond.code yX11_ground cX11_ground 8 (some .int), Cond.methodLink RL 96 yX11_chart, Cond.instanceMethod yX11_chart, Cond.selects RX11 yX11_chart yX11_chart, Cond.code yX11_chart cX11_chart 5 (some .int), Cond.methodLink RL 99 yX11_leg, Cond.instanceMethod yX11_leg, Cond.selects RX11 yX11_leg yX11_leg, Cond.code yX11_leg cX11_leg 5 (some .int), Cond.methodLink RL 103 yX11_charge, Cond.instanceMethod yX11_charge, Cond.selects RX11 yX11_charge yX11_charge, Cond.code yX11_charge cX11_charge 2 (some .int)]
def jL_4 : List Cond := [Cond.methodLink RL 106 yX11_phase, Cond.instanceMethod yX11_phase, Cond.selects RX11 yX11_phase yX11_phase, Cond.code yX11_phase cX11_phase 8 (some .int), Cond.methodLink RL 113 yX11_load, Cond.instanceMethod yX11_load, Cond.selects RX11 yX11_load yX11_load, Cond.code yX11_load cX11_load 8 (some .int), Cond.methodLink RL 117 yX11_rise, Cond.instanceMethod yX11_rise, Cond.selects RX11 yX11_rise yX11_rise, Cond.code yX11_rise cX11_rise 4 (some .int), Cond.methodLink RL 120 yX11_lift, Cond.instanceMethod yX11_lift, Cond.selects RX11 yX11_lift yX11_lift, Cond.code yX11_lift cX11_lift 2 (some .int), Cond.methodLink RL 123 yX11_place, Cond.instanceMethod yX11_place, Cond.selects RX11 yX11_place yX11_place, Cond.code yX11_place cX11_place 4 (some .int), Cond.methodLink RL 127 yX11_shift, Cond.instanceMethod yX11_shift, Cond.selects RX11 yX11_shift yX11_shift, Cond.code yX11_shift cX11_shift 4 (some .int), Cond.methodLink RL 130 yX11_walk, Cond.instanceMethod yX11_walk, Cond.selects RX11 yX11_walk yX11_walk, Cond.code yX11_walk cX11_walk 3 (some .int), Cond.methodLink RL 133 yX11_machine, Cond.instanceMethod yX11_machine, Cond.selects RX11 yX11_machine yX11_machine, Cond.code yX11_machine cX11_machine 2 (some .int), Cond.methodLink RL 136 yX11_foot, Cond.instanceMethod yX11_foot, Cond.selects RX11 yX11_foot yX11_foot, Cond.code yX11_foot cX11_foot 3 (some .int), Cond.methodLink RL 139 yX11_point, Cond.instanceMethod yX11_point, Cond.selects RX11 yX11_point yX11_point, Cond.code yX11_point cX11_point 5 (some .int)]
def jL_5 : List Cond := [Cond.methodLink RL 155 yX11_corner, Cond.instanceMethod yX11_corner, Cond.selects RX11 yX11_corner yX11_corner, Cond.code yX11_corner cX11_corner 2 (some .int), Cond.methodLink RL 158 yX11_foothold, Cond.instanceMethod yX11_foothold, Cond.selects RX11 yX11_foothold yX11_foothold, Cond.code yX11_foothold cX11_foothold 2 (some .int), Cond.methodLink RL 161 yX11_wouldLift, Cond.instanceMethod yX11_wouldLift, Cond.selects RX11 yX11_wouldLift yX11_wouldLift, Cond.code yX11_wouldLift cX11_wouldLift 5 (some .int), Cond.methodLink RL 164 yX11_fewest, Cond.instanceMethod yX11_fewest, Cond.selects RX11 yX11_fewest yX11_fewest, Cond.code yX11_fewest cX11_fewest 15 (some .int), Cond.methodLink RL 167 yX11_fewestAnew, Cond.instanceMethod yX11_fewestAnew, Cond.selects RX11 yX11_fewestAnew yX11_fewestAnew, Cond.code yX11_fewestAnew cX11_fewestAnew 3 (some .int), Cond.methodLink RL 170 yX11_fall, Cond.instanceMethod yX11_fall, Cond.selects RX11 yX11_fall yX11_fall, Cond.code yX11_fall cX11_fall 4 (some .int), Cond.methodLink RL 110 yX11_halt, Cond.instanceMethod yX11_halt, Cond.selects RX11 yX11_halt yX11_halt, Cond.code yX11_halt cX11_halt 2 (some .int), Cond.methodLink RL 144 yX11_isStable, Cond.instanceMethod yX11_isStable, Cond.selects RX11 yX11_isStable yX11_isStable, Cond.code yX11_isStable cX11_isStable 1 (some .boolean), Cond.methodLink RL 148 yX11_isStableAnew, Cond.instanceMethod yX11_isStableAnew, Cond.selects RX11 yX11_isStableAnew yX11_isStableAnew, Cond.code yX11_isStableAnew cX11_isStableAnew 1 (some .boolean), Cond.methodLink RL 152 yX11_margin, Cond.instanceMethod yX11_margin, Cond.selects RX11 yX11_margin yX11_margin, Cond.code yX11_margin cX11_margin 8 (some .int)]
def jL_6 : List Cond := [Cond.methodLink RL 90 yX11_thrown, Cond.instanceMethod yX11_thrown, Cond.selects RX11 yX11_thrown yX11_thrown, Cond.code yX11_thrown cX11_thrown 1 (some .int), Cond.methodLink RL 107 yX10_halt, Cond.instanceMethod yX10_halt, Cond.selects RX10 yX10_halt yX10_halt, Cond.code yX10_halt cX10_halt 2 (some .int), Cond.methodLink RL 140 yX10_isStable, Cond.instanceMethod yX10_isStable, Cond.selects RX10 yX10_isStable yX10_isStable, Cond.code yX10_isStable cX10_isStable 1 (some .boolean), Cond.methodLink RL 145 yX10_isStableAnew, Cond.instanceMethod yX10_isStableAnew, Cond.selects RX10 yX10_isStableAnew yX10_isStableAnew, Cond.code yX10_isStableAnew cX10_isStableAnew 1 (some .boolean), Cond.methodLink RL 149 yX10_margin, Cond.instanceMethod yX10_margin, Cond.selects RX10 yX10_margin yX10_margin, Cond.code yX10_margin cX10_margin 2 (some .int), Cond.classLink RL 8 RX10, Cond.instantiable RX10 11, Cond.classLink RL 81 RX11, Cond.instantiable RX11 31, Cond.methodLink RL 80 yX10_init, Cond.instanceMethod yX10_init, Cond.code yX10_init cX10_init 2 none, Cond.methodLink RL 83 yX11_init, Cond.instanceMethod yX11_init, Cond.code yX11_init cX11_init 2 none, Cond.arrayClass .long]
def jL : List Cond := jL_0 ++ (jL_1 ++ (jL_2 ++ (jL_3 ++ (jL_4 ++ (jL_5 ++ (jL_6))))))
theorem jlc_0 : ∀ w ∈ jL_0, w ∈ jL := fun w h => (List.mem_append_left _ h)
theorem jlg_0 : jL_0.all goodWord = true := by decide +kernel
theorem jlc_1 : ∀ w ∈ jL_1, w ∈ jL := fun w h => (List.mem_append_right _ (List.mem_append_left _ h))
theorem jlg_1 : jL_1.all goodWord = true := by decide +kernel
theorem jlc_2 : ∀ w ∈ jL_2, w ∈ jL := fun w h => (List.mem_append_right _ (List.mem_append_right _ (List.mem_append_left _ h)))
theorem jlg_2 : jL_2.all goodWord = true := by decide +kernel
theorem jlc_3 : ∀ w ∈ jL_3, w ∈ jL := fun w h => (List.mem_append_right _ (List.mem_append_right _ (List.mem_append_right _ (List.mem_append_left _ h))))
theorem jlg_3 : jL_3.all goodWord = true := by decide +kernel
theorem jlc_4 : ∀ w ∈ jL_4, w ∈ jL := fun w h => (List.mem_append_right _ (List.mem_append_right _ (List.mem_append_right _ (List.mem_append_right _ (List.mem_append_left _ h)))))
theorem jlg_4 : jL_4.all goodWord = true := by decide +kernel
theorem jlc_5 : ∀ w ∈ jL_5, w ∈ jL := fun w h => (List.mem_append_right _ (List.mem_append_right _ (List.mem_append_right _ (List.mem_append_right _ (List.mem_append_right _ (List.mem_append_left _ h))))))
theorem jlg_5 : jL_5.all goodWord = true := by decide +kernel
theorem jlc_6 : ∀ w ∈ jL_6, w ∈ jL := fun w h => (List.mem_append_right _ (List.mem_append_right _ (List.mem_append_right _ (List.mem_append_right _ (List.mem_append_right _ (List.mem_append_right _ h))))))
theorem jlg_6 : jL_6.all goodWord = true := by decide +kernel
def jWL : List Cond := jL ++ jW
theorem jL_good : ∀ w ∈ jL, goodWord w = true := List.forall_mem_append.mpr ⟨fun w h => List.all_eq_true.mp jlg_0 w h, List.forall_mem_append.mpr ⟨fun w h => List.all_eq_true.mp jlg_1 w h, List.forall_mem_append.mpr ⟨fun w h => List.all_eq_true.mp jlg_2 w h, List.forall_mem_append.mpr ⟨fun w h => List.all_eq_true.mp jlg_3 w h, List.forall_mem_append.mpr ⟨fun w h => List.all_eq_true.mp jlg_4 w h, List.forall_mem_append.mpr ⟨fun w h => List.all_eq_true.mp jlg_5 w h, fun w h => List.all_eq_true.mp jlg_6 w h⟩⟩⟩⟩⟩⟩
theorem jWL_good : ∀ w ∈ jWL, goodWord w = true := List.forall_mem_append.mpr ⟨jL_good, jW_good⟩
theorem ll_0 : Cond.initialized RL ∈ jWL := List.mem_append_left _ (jlc_0 _ (List.mem_of_getElem? (i := 0) rfl))
theorem ll_1 : Cond.classLink RL 13 "java/lang/IllegalArgumentException" ∈ jWL := List.mem_append_left _ (jlc_0 _ (List.mem_of_getElem? (i := 1) rfl))
theorem ll_2 : Cond.classLink RL 15 "java/lang/IllegalStateException" ∈ jWL := List.mem_append_left _ (jlc_0 _ (List.mem_of_getElem? (i := 2) rfl))
theorem ll_3 : Cond.classLink RL 31 "java/lang/IndexOutOfBoundsException" ∈ jWL := List.mem_append_left _ (jlc_0 _ (List.mem_of_getElem? (i := 3) rfl))
theorem ll_4 : Cond.methodLink RL 7 yX10_ground ∈ jWL := List.mem_append_left _ (jlc_0 _ (List.mem_of_getElem? (i := 4) rfl))
theorem ll_5 : Cond.instanceMethod yX10_ground ∈ jWL := List.mem_append_left _ (jlc_0 _ (List.mem_of_getElem? (i := 5) rfl))
theorem ll_6 : Cond.selects RX10 yX10_ground yX10_ground ∈ jWL := List.mem_append_left _ (jlc_0 _ (List.mem_of_getElem? (i := 6) rfl))
theorem ll_7 : Cond.code yX10_ground cX10_ground 8 (some .int) ∈ jWL := List.mem_append_left _ (jlc_0 _ (List.mem_of_getElem? (i := 7) rfl))
theorem ll_8 : Cond.methodLink RL 84 yL_ground ∈ jWL := List.mem_append_left _ (jlc_0 _ (List.mem_of_getElem? (i := 8) rfl))
theorem ll_9 : Cond.static yL_ground ∈ jWL := List.mem_append_left _ (jlc_0 _ (List.mem_of_getElem? (i := 9) rfl))
theorem ll_10 : Cond.codeWith yL_ground cL_ground 8 (some .int) [(0, 16, 19, 13), (0, 16, 23, 15)] ∈ jWL := List.mem_append_left _ (jlc_0 _ (List.mem_of_getElem? (i := 10) rfl))
theorem ll_11 : Cond.methodLink RL 17 yX10_chart ∈ jWL := List.mem_append_left _ (jlc_0 _ (List.mem_of_getElem? (i := 11) rfl))
theorem ll_12 : Cond.instanceMethod yX10_chart ∈ jWL := List.mem_append_left _ (jlc_0 _ (List.mem_of_getElem? (i := 12) rfl))
theorem ll_13 : Cond.selects RX10 yX10_chart yX10_chart ∈ jWL := List.mem_append_left _ (jlc_0 _ (List.mem_of_getElem? (i := 13) rfl))
theorem ll_14 : Cond.code yX10_chart cX10_chart 6 (some .int) ∈ jWL := List.mem_append_left _ (jlc_0 _ (List.mem_of_getElem? (i := 14) rfl))
theorem ll_15 : Cond.methodLink RL 93 yL_chart ∈ jWL := List.mem_append_left _ (jlc_0 _ (List.mem_of_getElem? (i := 15) rfl))
theorem ll_16 : Cond.static yL_chart ∈ jWL := List.mem_append_left _ (jlc_0 _ (List.mem_of_getElem? (i := 16) rfl))
theorem ll_17 : Cond.codeWith yL_chart cL_chart 6 (some .int) [(0, 12, 15, 13)] ∈ jWL := List.mem_append_left _ (jlc_0 _ (List.mem_of_getElem? (i := 17) rfl))
theorem ll_18 : Cond.methodLink RL 21 yX10_leg ∈ jWL := List.mem_append_left _ (jlc_0 _ (List.mem_of_getElem? (i := 18) rfl))
theorem ll_19 : Cond.instanceMethod yX10_leg ∈ jWL := List.mem_append_left _ (jlc_0 _ (List.mem_of_getElem? (i := 19) rfl))
theorem ll_20 : Cond.selects RX10 yX10_leg yX10_leg ∈ jWL := List.mem_append_left _ (jlc_0 _ (List.mem_of_getElem? (i := 20) rfl))
theorem ll_21 : Cond.code yX10_leg cX10_leg 4 (some .int) ∈ jWL := List.mem_append_left _ (jlc_0 _ (List.mem_of_getElem? (i := 21) rfl))
theorem ll_22 : Cond.methodLink RL 97 yL_leg ∈ jWL := List.mem_append_left _ (jlc_0 _ (List.mem_of_getElem? (i := 22) rfl))
theorem ll_23 : Cond.static yL_leg ∈ jWL := List.mem_append_left _ (jlc_0 _ (List.mem_of_getElem? (i := 23) rfl))
theorem ll_24 : Cond.codeWith yL_leg cL_leg 6 (some .int) [(0, 12, 15, 13), (0, 12, 19, 15)] ∈ jWL := List.mem_append_left _ (jlc_0 _ (List.mem_of_getElem? (i := 24) rfl))
theorem ll_25 : Cond.methodLink RL 24 yX10_charge ∈ jWL := List.mem_append_left _ (jlc_0 _ (List.mem_of_getElem? (i := 25) rfl))
theorem ll_26 : Cond.instanceMethod yX10_charge ∈ jWL := List.mem_append_left _ (jlc_0 _ (List.mem_of_getElem? (i := 26) rfl))
theorem ll_27 : Cond.selects RX10 yX10_charge yX10_charge ∈ jWL := List.mem_append_left _ (jlc_0 _ (List.mem_of_getElem? (i := 27) rfl))
theorem ll_28 : Cond.code yX10_charge cX10_charge 2 (some .int) ∈ jWL := List.mem_append_left _ (jlc_0 _ (List.mem_of_getElem? (i := 28) rfl))
theorem ll_29 : Cond.methodLink RL 100 yL_charge ∈ jWL := List.mem_append_left _ (jlc_0 _ (List.mem_of_getElem? (i := 29) rfl))
theorem ll_30 : Cond.static yL_charge ∈ jWL := List.mem_append_left _ (jlc_0 _ (List.mem_of_getElem? (i := 30) rfl))
theorem ll_31 : Cond.codeWith yL_charge cL_charge 4 (some .int) [(0, 9, 12, 13)] ∈ jWL := List.mem_append_left _ (jlc_0 _ (List.mem_of_getElem? (i := 31) rfl))
theorem ll_32 : Cond.methodLink RL 28 yX10_phase ∈ jWL := List.mem_append_left _ (jlc_0 _ (List.mem_of_getElem? (i := 32) rfl))
theorem ll_33 : Cond.instanceMethod yX10_phase ∈ jWL := List.mem_append_left _ (jlc_0 _ (List.mem_of_getElem? (i := 33) rfl))
theorem ll_34 : Cond.selects RX10 yX10_phase yX10_phase ∈ jWL := List.mem_append_left _ (jlc_0 _ (List.mem_of_getElem? (i := 34) rfl))
theorem ll_35 : Cond.code yX10_phase cX10_phase 6 (some .int) ∈ jWL := List.mem_append_left _ (jlc_0 _ (List.mem_of_getElem? (i := 35) rfl))
theorem ll_36 : Cond.methodLink RL 104 yL_phase ∈ jWL := List.mem_append_left _ (jlc_0 _ (List.mem_of_getElem? (i := 36) rfl))
theorem ll_37 : Cond.static yL_phase ∈ jWL := List.mem_append_left _ (jlc_0 _ (List.mem_of_getElem? (i := 37) rfl))
theorem ll_38 : Cond.codeWith yL_phase cL_phase 8 (some .int) [(0, 16, 19, 31), (0, 16, 23, 13), (0, 16, 27, 15)] ∈ jWL := List.mem_append_left _ (jlc_0 _ (List.mem_of_getElem? (i := 38) rfl))
theorem ll_39 : Cond.methodLink RL 33 yX10_load ∈ jWL := List.mem_append_left _ (jlc_0 _ (List.mem_of_getElem? (i := 39) rfl))
theorem ll_40 : Cond.instanceMethod yX10_load ∈ jWL := List.mem_append_left _ (jlc_1 _ (List.mem_of_getElem? (i := 0) rfl))
theorem ll_41 : Cond.selects RX10 yX10_load yX10_load ∈ jWL := List.mem_append_left _ (jlc_1 _ (List.mem_of_getElem? (i := 1) rfl))
theorem ll_42 : Cond.code yX10_load cX10_load 4 (some .int) ∈ jWL := List.mem_append_left _ (jlc_1 _ (List.mem_of_getElem? (i := 2) rfl))
theorem ll_43 : Cond.methodLink RL 111 yL_load ∈ jWL := List.mem_append_left _ (jlc_1 _ (List.mem_of_getElem? (i := 3) rfl))
theorem ll_44 : Cond.static yL_load ∈ jWL := List.mem_append_left _ (jlc_1 _ (List.mem_of_getElem? (i := 4) rfl))
theorem ll_45 : Cond.codeWith yL_load cL_load 6 (some .int) [(0, 12, 15, 13), (0, 12, 19, 15)] ∈ jWL := List.mem_append_left _ (jlc_1 _ (List.mem_of_getElem? (i := 5) rfl))
theorem ll_46 : Cond.methodLink RL 36 yX10_rise ∈ jWL := List.mem_append_left _ (jlc_1 _ (List.mem_of_getElem? (i := 6) rfl))
theorem ll_47 : Cond.instanceMethod yX10_rise ∈ jWL := List.mem_append_left _ (jlc_1 _ (List.mem_of_getElem? (i := 7) rfl))
theorem ll_48 : Cond.selects RX10 yX10_rise yX10_rise ∈ jWL := List.mem_append_left _ (jlc_1 _ (List.mem_of_getElem? (i := 8) rfl))
theorem ll_49 : Cond.code yX10_rise cX10_rise 1 (some .int) ∈ jWL := List.mem_append_left _ (jlc_1 _ (List.mem_of_getElem? (i := 9) rfl))
theorem ll_50 : Cond.methodLink RL 114 yL_rise ∈ jWL := List.mem_append_left _ (jlc_1 _ (List.mem_of_getElem? (i := 10) rfl))
theorem ll_51 : Cond.static yL_rise ∈ jWL := List.mem_append_left _ (jlc_1 _ (List.mem_of_getElem? (i := 11) rfl))
theorem ll_52 : Cond.codeWith yL_rise cL_rise 3 (some .int) [(0, 8, 11, 15)] ∈ jWL := List.mem_append_left _ (jlc_1 _ (List.mem_of_getElem? (i := 12) rfl))
theorem ll_53 : Cond.methodLink RL 40 yX10_lift ∈ jWL := List.mem_append_left _ (jlc_1 _ (List.mem_of_getElem? (i := 13) rfl))
theorem ll_54 : Cond.instanceMethod yX10_lift ∈ jWL := List.mem_append_left _ (jlc_1 _ (List.mem_of_getElem? (i := 14) rfl))
theorem ll_55 : Cond.selects RX10 yX10_lift yX10_lift ∈ jWL := List.mem_append_left _ (jlc_1 _ (List.mem_of_getElem? (i := 15) rfl))
theorem ll_56 : Cond.code yX10_lift cX10_lift 2 (some .int) ∈ jWL := List.mem_append_left _ (jlc_1 _ (List.mem_of_getElem? (i := 16) rfl))
theorem ll_57 : Cond.methodLink RL 118 yL_lift ∈ jWL := List.mem_append_left _ (jlc_1 _ (List.mem_of_getElem? (i := 17) rfl))
theorem ll_58 : Cond.static yL_lift ∈ jWL := List.mem_append_left _ (jlc_1 _ (List.mem_of_getElem? (i := 18) rfl))
theorem ll_59 : Cond.codeWith yL_lift cL_lift 4 (some .int) [(0, 9, 12, 31), (0, 9, 15, 15)] ∈ jWL := List.mem_append_left _ (jlc_1 _ (List.mem_of_getElem? (i := 19) rfl))
theorem ll_60 : Cond.methodLink RL 43 yX10_place ∈ jWL := List.mem_append_left _ (jlc_1 _ (List.mem_of_getElem? (i := 20) rfl))
theorem ll_61 : Cond.instanceMethod yX10_place ∈ jWL := List.mem_append_left _ (jlc_1 _ (List.mem_of_getElem? (i := 21) rfl))
theorem ll_62 : Cond.selects RX10 yX10_place yX10_place ∈ jWL := List.mem_append_left _ (jlc_1 _ (List.mem_of_getElem? (i := 22) rfl))
theorem ll_63 : Cond.code yX10_place cX10_place 5 (some .int) ∈ jWL := List.mem_append_left _ (jlc_1 _ (List.mem_of_getElem? (i := 23) rfl))
theorem ll_64 : Cond.methodLink RL 121 yL_place ∈ jWL := List.mem_append_left _ (jlc_1 _ (List.mem_of_getElem? (i := 24) rfl))
theorem ll_65 : Cond.static yL_place ∈ jWL := List.mem_append_left _ (jlc_1 _ (List.mem_of_getElem? (i := 25) rfl))
theorem ll_66 : Cond.codeWith yL_place cL_place 6 (some .int) [(0, 12, 15, 31), (0, 12, 19, 13), (0, 12, 23, 15)] ∈ jWL := List.mem_append_left _ (jlc_1 _ (List.mem_of_getElem? (i := 26) rfl))
theorem ll_67 : Cond.methodLink RL 46 yX10_shift ∈ jWL := List.mem_append_left _ (jlc_1 _ (List.mem_of_getElem? (i := 27) rfl))
theorem ll_68 : Cond.instanceMethod yX10_shift ∈ jWL := List.mem_append_left _ (jlc_1 _ (List.mem_of_getElem? (i := 28) rfl))
theorem ll_69 : Cond.selects RX10 yX10_shift yX10_shift ∈ jWL := List.mem_append_left _ (jlc_1 _ (List.mem_of_getElem? (i := 29) rfl))
theorem ll_70 : Cond.code yX10_shift cX10_shift 3 (some .int) ∈ jWL := List.mem_append_left _ (jlc_1 _ (List.mem_of_getElem? (i := 30) rfl))
theorem ll_71 : Cond.methodLink RL 124 yL_shift ∈ jWL := List.mem_append_left _ (jlc_1 _ (List.mem_of_getElem? (i := 31) rfl))
theorem ll_72 : Cond.static yL_shift ∈ jWL := List.mem_append_left _ (jlc_1 _ (List.mem_of_getElem? (i := 32) rfl))
theorem ll_73 : Cond.codeWith yL_shift cL_shift 5 (some .int) [(0, 10, 13, 13), (0, 10, 17, 15)] ∈ jWL := List.mem_append_left _ (jlc_1 _ (List.mem_of_getElem? (i := 33) rfl))
theorem ll_74 : Cond.methodLink RL 50 yX10_walk ∈ jWL := List.mem_append_left _ (jlc_1 _ (List.mem_of_getElem? (i := 34) rfl))
theorem ll_75 : Cond.instanceMethod yX10_walk ∈ jWL := List.mem_append_left _ (jlc_1 _ (List.mem_of_getElem? (i := 35) rfl))
theorem ll_76 : Cond.selects RX10 yX10_walk yX10_walk ∈ jWL := List.mem_append_left _ (jlc_1 _ (List.mem_of_getElem? (i := 36) rfl))
theorem ll_77 : Cond.code yX10_walk cX10_walk 3 (some .int) ∈ jWL := List.mem_append_left _ (jlc_1 _ (List.mem_of_getElem? (i := 37) rfl))
theorem ll_78 : Cond.methodLink RL 128 yL_walk ∈ jWL := List.mem_append_left _ (jlc_1 _ (List.mem_of_getElem? (i := 38) rfl))
theorem ll_79 : Cond.static yL_walk ∈ jWL := List.mem_append_left _ (jlc_1 _ (List.mem_of_getElem? (i := 39) rfl))
theorem ll_80 : Cond.codeWith yL_walk cL_walk 4 (some .int) [(0, 9, 12, 13), (0, 9, 15, 15)] ∈ jWL := List.mem_append_left _ (jlc_2 _ (List.mem_of_getElem? (i := 0) rfl))
theorem ll_81 : Cond.methodLink RL 53 yX10_machine ∈ jWL := List.mem_append_left _ (jlc_2 _ (List.mem_of_getElem? (i := 1) rfl))
theorem ll_82 : Cond.instanceMethod yX10_machine ∈ jWL := List.mem_append_left _ (jlc_2 _ (List.mem_of_getElem? (i := 2) rfl))
theorem ll_83 : Cond.selects RX10 yX10_machine yX10_machine ∈ jWL := List.mem_append_left _ (jlc_2 _ (List.mem_of_getElem? (i := 3) rfl))
theorem ll_84 : Cond.code yX10_machine cX10_machine 2 (some .int) ∈ jWL := List.mem_append_left _ (jlc_2 _ (List.mem_of_getElem? (i := 4) rfl))
theorem ll_85 : Cond.methodLink RL 131 yL_machine ∈ jWL := List.mem_append_left _ (jlc_2 _ (List.mem_of_getElem? (i := 5) rfl))
theorem ll_86 : Cond.static yL_machine ∈ jWL := List.mem_append_left _ (jlc_2 _ (List.mem_of_getElem? (i := 6) rfl))
theorem ll_87 : Cond.codeWith yL_machine cL_machine 4 (some .int) [(0, 9, 12, 13)] ∈ jWL := List.mem_append_left _ (jlc_2 _ (List.mem_of_getElem? (i := 7) rfl))
theorem ll_88 : Cond.methodLink RL 56 yX10_foot ∈ jWL := List.mem_append_left _ (jlc_2 _ (List.mem_of_getElem? (i := 8) rfl))
theorem ll_89 : Cond.instanceMethod yX10_foot ∈ jWL := List.mem_append_left _ (jlc_2 _ (List.mem_of_getElem? (i := 9) rfl))
theorem ll_90 : Cond.selects RX10 yX10_foot yX10_foot ∈ jWL := List.mem_append_left _ (jlc_2 _ (List.mem_of_getElem? (i := 10) rfl))
theorem ll_91 : Cond.code yX10_foot cX10_foot 4 (some .int) ∈ jWL := List.mem_append_left _ (jlc_2 _ (List.mem_of_getElem? (i := 11) rfl))
theorem ll_92 : Cond.methodLink RL 134 yL_foot ∈ jWL := List.mem_append_left _ (jlc_2 _ (List.mem_of_getElem? (i := 12) rfl))
theorem ll_93 : Cond.static yL_foot ∈ jWL := List.mem_append_left _ (jlc_2 _ (List.mem_of_getElem? (i := 13) rfl))
theorem ll_94 : Cond.codeWith yL_foot cL_foot 5 (some .int) [(0, 10, 13, 31), (0, 10, 17, 13)] ∈ jWL := List.mem_append_left _ (jlc_2 _ (List.mem_of_getElem? (i := 14) rfl))
theorem ll_95 : Cond.methodLink RL 59 yX10_point ∈ jWL := List.mem_append_left _ (jlc_2 _ (List.mem_of_getElem? (i := 15) rfl))
theorem ll_96 : Cond.instanceMethod yX10_point ∈ jWL := List.mem_append_left _ (jlc_2 _ (List.mem_of_getElem? (i := 16) rfl))
theorem ll_97 : Cond.selects RX10 yX10_point yX10_point ∈ jWL := List.mem_append_left _ (jlc_2 _ (List.mem_of_getElem? (i := 17) rfl))
theorem ll_98 : Cond.code yX10_point cX10_point 5 (some .int) ∈ jWL := List.mem_append_left _ (jlc_2 _ (List.mem_of_getElem? (i := 18) rfl))
theorem ll_99 : Cond.methodLink RL 137 yL_point ∈ jWL := List.mem_append_left _ (jlc_2 _ (List.mem_of_getElem? (i := 19) rfl))
theorem ll_100 : Cond.static yL_point ∈ jWL := List.mem_append_left _ (jlc_2 _ (List.mem_of_getElem? (i := 20) rfl))
theorem ll_101 : Cond.codeWith yL_point cL_point 6 (some .int) [(0, 12, 15, 13)] ∈ jWL := List.mem_append_left _ (jlc_2 _ (List.mem_of_getElem? (i := 21) rfl))
theorem ll_102 : Cond.methodLink RL 62 yX10_corner ∈ jWL := List.mem_append_left _ (jlc_2 _ (List.mem_of_getElem? (i := 22) rfl))
theorem ll_103 : Cond.instanceMethod yX10_corner ∈ jWL := List.mem_append_left _ (jlc_2 _ (List.mem_of_getElem? (i := 23) rfl))
theorem ll_104 : Cond.selects RX10 yX10_corner yX10_corner ∈ jWL := List.mem_append_left _ (jlc_2 _ (List.mem_of_getElem? (i := 24) rfl))
theorem ll_105 : Cond.code yX10_corner cX10_corner 2 (some .int) ∈ jWL := List.mem_append_left _ (jlc_2 _ (List.mem_of_getElem? (i := 25) rfl))
theorem ll_106 : Cond.methodLink RL 153 yL_corner ∈ jWL := List.mem_append_left _ (jlc_2 _ (List.mem_of_getElem? (i := 26) rfl))
theorem ll_107 : Cond.static yL_corner ∈ jWL := List.mem_append_left _ (jlc_2 _ (List.mem_of_getElem? (i := 27) rfl))
theorem ll_108 : Cond.codeWith yL_corner cL_corner 4 (some .int) [(0, 9, 12, 13)] ∈ jWL := List.mem_append_left _ (jlc_2 _ (List.mem_of_getElem? (i := 28) rfl))
theorem ll_109 : Cond.methodLink RL 65 yX10_foothold ∈ jWL := List.mem_append_left _ (jlc_2 _ (List.mem_of_getElem? (i := 29) rfl))
theorem ll_110 : Cond.instanceMethod yX10_foothold ∈ jWL := List.mem_append_left _ (jlc_2 _ (List.mem_of_getElem? (i := 30) rfl))
theorem ll_111 : Cond.selects RX10 yX10_foothold yX10_foothold ∈ jWL := List.mem_append_left _ (jlc_2 _ (List.mem_of_getElem? (i := 31) rfl))
theorem ll_112 : Cond.code yX10_foothold cX10_foothold 2 (some .int) ∈ jWL := List.mem_append_left _ (jlc_2 _ (List.mem_of_getElem? (i := 32) rfl))
theorem ll_113 : Cond.methodLink RL 156 yL_foothold ∈ jWL := List.mem_append_left _ (jlc_2 _ (List.mem_of_getElem? (i := 33) rfl))
theorem ll_114 : Cond.static yL_foothold ∈ jWL := List.mem_append_left _ (jlc_2 _ (List.mem_of_getElem? (i := 34) rfl))
theorem ll_115 : Cond.codeWith yL_foothold cL_foothold 4 (some .int) [(0, 9, 12, 31)] ∈ jWL := List.mem_append_left _ (jlc_2 _ (List.mem_of_getElem? (i := 35) rfl))
theorem ll_116 : Cond.methodLink RL 68 yX10_wouldLift ∈ jWL := List.mem_append_left _ (jlc_2 _ (List.mem_of_getElem? (i := 36) rfl))
theorem ll_117 : Cond.instanceMethod yX10_wouldLift ∈ jWL := List.mem_append_left _ (jlc_2 _ (List.mem_of_getElem? (i := 37) rfl))
theorem ll_118 : Cond.selects RX10 yX10_wouldLift yX10_wouldLift ∈ jWL := List.mem_append_left _ (jlc_2 _ (List.mem_of_getElem? (i := 38) rfl))
theorem ll_119 : Cond.code yX10_wouldLift cX10_wouldLift 2 (some .int) ∈ jWL := List.mem_append_left _ (jlc_2 _ (List.mem_of_getElem? (i := 39) rfl))
theorem ll_120 : Cond.methodLink RL 159 yL_wouldLift ∈ jWL := List.mem_append_left _ (jlc_3 _ (List.mem_of_getElem? (i := 0) rfl))
theorem ll_121 : Cond.static yL_wouldLift ∈ jWL := List.mem_append_left _ (jlc_3 _ (List.mem_of_getElem? (i := 1) rfl))
theorem ll_122 : Cond.codeWith yL_wouldLift cL_wouldLift 4 (some .int) [(0, 9, 12, 31)] ∈ jWL := List.mem_append_left _ (jlc_3 _ (List.mem_of_getElem? (i := 2) rfl))
theorem ll_123 : Cond.methodLink RL 71 yX10_fewest ∈ jWL := List.mem_append_left _ (jlc_3 _ (List.mem_of_getElem? (i := 3) rfl))
theorem ll_124 : Cond.instanceMethod yX10_fewest ∈ jWL := List.mem_append_left _ (jlc_3 _ (List.mem_of_getElem? (i := 4) rfl))
theorem ll_125 : Cond.selects RX10 yX10_fewest yX10_fewest ∈ jWL := List.mem_append_left _ (jlc_3 _ (List.mem_of_getElem? (i := 5) rfl))
theorem ll_126 : Cond.code yX10_fewest cX10_fewest 5 (some .int) ∈ jWL := List.mem_append_left _ (jlc_3 _ (List.mem_of_getElem? (i := 6) rfl))
theorem ll_127 : Cond.methodLink RL 162 yL_fewest ∈ jWL := List.mem_append_left _ (jlc_3 _ (List.mem_of_getElem? (i := 7) rfl))
theorem ll_128 : Cond.static yL_fewest ∈ jWL := List.mem_append_left _ (jlc_3 _ (List.mem_of_getElem? (i := 8) rfl))
theorem ll_129 : Cond.codeWith yL_fewest cL_fewest 5 (some .int) [(0, 10, 13, 13)] ∈ jWL := List.mem_append_left _ (jlc_3 _ (List.mem_of_getElem? (i := 9) rfl))
theorem ll_130 : Cond.methodLink RL 74 yX10_fewestAnew ∈ jWL := List.mem_append_left _ (jlc_3 _ (List.mem_of_getElem? (i := 10) rfl))
theorem ll_131 : Cond.instanceMethod yX10_fewestAnew ∈ jWL := List.mem_append_left _ (jlc_3 _ (List.mem_of_getElem? (i := 11) rfl))
theorem ll_132 : Cond.selects RX10 yX10_fewestAnew yX10_fewestAnew ∈ jWL := List.mem_append_left _ (jlc_3 _ (List.mem_of_getElem? (i := 12) rfl))
theorem ll_133 : Cond.code yX10_fewestAnew cX10_fewestAnew 5 (some .int) ∈ jWL := List.mem_append_left _ (jlc_3 _ (List.mem_of_getElem? (i := 13) rfl))
theorem ll_134 : Cond.methodLink RL 165 yL_fewestAnew ∈ jWL := List.mem_append_left _ (jlc_3 _ (List.mem_of_getElem? (i := 14) rfl))
theorem ll_135 : Cond.static yL_fewestAnew ∈ jWL := List.mem_append_left _ (jlc_3 _ (List.mem_of_getElem? (i := 15) rfl))
theorem ll_136 : Cond.codeWith yL_fewestAnew cL_fewestAnew 5 (some .int) [(0, 10, 13, 13)] ∈ jWL := List.mem_append_left _ (jlc_3 _ (List.mem_of_getElem? (i := 16) rfl))
theorem ll_137 : Cond.methodLink RL 77 yX10_fall ∈ jWL := List.mem_append_left _ (jlc_3 _ (List.mem_of_getElem? (i := 17) rfl))
theorem ll_138 : Cond.instanceMethod yX10_fall ∈ jWL := List.mem_append_left _ (jlc_3 _ (List.mem_of_getElem? (i := 18) rfl))
theorem ll_139 : Cond.selects RX10 yX10_fall yX10_fall ∈ jWL := List.mem_append_left _ (jlc_3 _ (List.mem_of_getElem? (i := 19) rfl))
theorem ll_140 : Cond.code yX10_fall cX10_fall 3 (some .int) ∈ jWL := List.mem_append_left _ (jlc_3 _ (List.mem_of_getElem? (i := 20) rfl))
theorem ll_141 : Cond.methodLink RL 168 yL_fall ∈ jWL := List.mem_append_left _ (jlc_3 _ (List.mem_of_getElem? (i := 21) rfl))
theorem ll_142 : Cond.static yL_fall ∈ jWL := List.mem_append_left _ (jlc_3 _ (List.mem_of_getElem? (i := 22) rfl))
theorem ll_143 : Cond.codeWith yL_fall cL_fall 5 (some .int) [(0, 10, 13, 31), (0, 10, 17, 13)] ∈ jWL := List.mem_append_left _ (jlc_3 _ (List.mem_of_getElem? (i := 23) rfl))
theorem ll_144 : Cond.methodLink RL 89 yX11_ground ∈ jWL := List.mem_append_left _ (jlc_3 _ (List.mem_of_getElem? (i := 24) rfl))
theorem ll_145 : Cond.instanceMethod yX11_ground ∈ jWL := List.mem_append_left _ (jlc_3 _ (List.mem_of_getElem? (i := 25) rfl))
theorem ll_146 : Cond.selects RX11 yX11_ground yX11_ground ∈ jWL := List.mem_append_left _ (jlc_3 _ (List.mem_of_getElem? (i := 26) rfl))
theorem ll_147 : Cond.code yX11_ground cX11_ground 8 (some .int) ∈ jWL := List.mem_append_left _ (jlc_3 _ (List.mem_of_getElem? (i := 27) rfl))
theorem ll_148 : Cond.methodLink RL 96 yX11_chart ∈ jWL := List.mem_append_left _ (jlc_3 _ (List.mem_of_getElem? (i := 28) rfl))
theorem ll_149 : Cond.instanceMethod yX11_chart ∈ jWL := List.mem_append_left _ (jlc_3 _ (List.mem_of_getElem? (i := 29) rfl))
theorem ll_150 : Cond.selects RX11 yX11_chart yX11_chart ∈ jWL := List.mem_append_left _ (jlc_3 _ (List.mem_of_getElem? (i := 30) rfl))
theorem ll_151 : Cond.code yX11_chart cX11_chart 5 (some .int) ∈ jWL := List.mem_append_left _ (jlc_3 _ (List.mem_of_getElem? (i := 31) rfl))
theorem ll_152 : Cond.methodLink RL 99 yX11_leg ∈ jWL := List.mem_append_left _ (jlc_3 _ (List.mem_of_getElem? (i := 32) rfl))
theorem ll_153 : Cond.instanceMethod yX11_leg ∈ jWL := List.mem_append_left _ (jlc_3 _ (List.mem_of_getElem? (i := 33) rfl))
theorem ll_154 : Cond.selects RX11 yX11_leg yX11_leg ∈ jWL := List.mem_append_left _ (jlc_3 _ (List.mem_of_getElem? (i := 34) rfl))
theorem ll_155 : Cond.code yX11_leg cX11_leg 5 (some .int) ∈ jWL := List.mem_append_left _ (jlc_3 _ (List.mem_of_getElem? (i := 35) rfl))
theorem ll_156 : Cond.methodLink RL 103 yX11_charge ∈ jWL := List.mem_append_left _ (jlc_3 _ (List.mem_of_getElem? (i := 36) rfl))
theorem ll_157 : Cond.instanceMethod yX11_charge ∈ jWL := List.mem_append_left _ (jlc_3 _ (List.mem_of_getElem? (i := 37) rfl))
theorem ll_158 : Cond.selects RX11 yX11_charge yX11_charge ∈ jWL := List.mem_append_left _ (jlc_3 _ (List.mem_of_getElem? (i := 38) rfl))
theorem ll_159 : Cond.code yX11_charge cX11_charge 2 (some .int) ∈ jWL := List.mem_append_left _ (jlc_3 _ (List.mem_of_getElem? (i := 39) rfl))
theorem ll_160 : Cond.methodLink RL 106 yX11_phase ∈ jWL := List.mem_append_left _ (jlc_4 _ (List.mem_of_getElem? (i := 0) rfl))
theorem ll_161 : Cond.instanceMethod yX11_phase ∈ jWL := List.mem_append_left _ (jlc_4 _ (List.mem_of_getElem? (i := 1) rfl))
theorem ll_162 : Cond.selects RX11 yX11_phase yX11_phase ∈ jWL := List.mem_append_left _ (jlc_4 _ (List.mem_of_getElem? (i := 2) rfl))
theorem ll_163 : Cond.code yX11_phase cX11_phase 8 (some .int) ∈ jWL := List.mem_append_left _ (jlc_4 _ (List.mem_of_getElem? (i := 3) rfl))
theorem ll_164 : Cond.methodLink RL 113 yX11_load ∈ jWL := List.mem_append_left _ (jlc_4 _ (List.mem_of_getElem? (i := 4) rfl))
theorem ll_165 : Cond.instanceMethod yX11_load ∈ jWL := List.mem_append_left _ (jlc_4 _ (List.mem_of_getElem? (i := 5) rfl))
theorem ll_166 : Cond.selects RX11 yX11_load yX11_load ∈ jWL := List.mem_append_left _ (jlc_4 _ (List.mem_of_getElem? (i := 6) rfl))
theorem ll_167 : Cond.code yX11_load cX11_load 8 (some .int) ∈ jWL := List.mem_append_left _ (jlc_4 _ (List.mem_of_getElem? (i := 7) rfl))
theorem ll_168 : Cond.methodLink RL 117 yX11_rise ∈ jWL := List.mem_append_left _ (jlc_4 _ (List.mem_of_getElem? (i := 8) rfl))
theorem ll_169 : Cond.instanceMethod yX11_rise ∈ jWL := List.mem_append_left _ (jlc_4 _ (List.mem_of_getElem? (i := 9) rfl))
theorem ll_170 : Cond.selects RX11 yX11_rise yX11_rise ∈ jWL := List.mem_append_left _ (jlc_4 _ (List.mem_of_getElem? (i := 10) rfl))
theorem ll_171 : Cond.code yX11_rise cX11_rise 4 (some .int) ∈ jWL := List.mem_append_left _ (jlc_4 _ (List.mem_of_getElem? (i := 11) rfl))
theorem ll_172 : Cond.methodLink RL 120 yX11_lift ∈ jWL := List.mem_append_left _ (jlc_4 _ (List.mem_of_getElem? (i := 12) rfl))
theorem ll_173 : Cond.instanceMethod yX11_lift ∈ jWL := List.mem_append_left _ (jlc_4 _ (List.mem_of_getElem? (i := 13) rfl))
theorem ll_174 : Cond.selects RX11 yX11_lift yX11_lift ∈ jWL := List.mem_append_left _ (jlc_4 _ (List.mem_of_getElem? (i := 14) rfl))
theorem ll_175 : Cond.code yX11_lift cX11_lift 2 (some .int) ∈ jWL := List.mem_append_left _ (jlc_4 _ (List.mem_of_getElem? (i := 15) rfl))
theorem ll_176 : Cond.methodLink RL 123 yX11_place ∈ jWL := List.mem_append_left _ (jlc_4 _ (List.mem_of_getElem? (i := 16) rfl))
theorem ll_177 : Cond.instanceMethod yX11_place ∈ jWL := List.mem_append_left _ (jlc_4 _ (List.mem_of_getElem? (i := 17) rfl))
theorem ll_178 : Cond.selects RX11 yX11_place yX11_place ∈ jWL := List.mem_append_left _ (jlc_4 _ (List.mem_of_getElem? (i := 18) rfl))
theorem ll_179 : Cond.code yX11_place cX11_place 4 (some .int) ∈ jWL := List.mem_append_left _ (jlc_4 _ (List.mem_of_getElem? (i := 19) rfl))
theorem ll_180 : Cond.methodLink RL 127 yX11_shift ∈ jWL := List.mem_append_left _ (jlc_4 _ (List.mem_of_getElem? (i := 20) rfl))
theorem ll_181 : Cond.instanceMethod yX11_shift ∈ jWL := List.mem_append_left _ (jlc_4 _ (List.mem_of_getElem? (i := 21) rfl))
theorem ll_182 : Cond.selects RX11 yX11_shift yX11_shift ∈ jWL := List.mem_append_left _ (jlc_4 _ (List.mem_of_getElem? (i := 22) rfl))
theorem ll_183 : Cond.code yX11_shift cX11_shift 4 (some .int) ∈ jWL := List.mem_append_left _ (jlc_4 _ (List.mem_of_getElem? (i := 23) rfl))
theorem ll_184 : Cond.methodLink RL 130 yX11_walk ∈ jWL := List.mem_append_left _ (jlc_4 _ (List.mem_of_getElem? (i := 24) rfl))
theorem ll_185 : Cond.instanceMethod yX11_walk ∈ jWL := List.mem_append_left _ (jlc_4 _ (List.mem_of_getElem? (i := 25) rfl))
theorem ll_186 : Cond.selects RX11 yX11_walk yX11_walk ∈ jWL := List.mem_append_left _ (jlc_4 _ (List.mem_of_getElem? (i := 26) rfl))
theorem ll_187 : Cond.code yX11_walk cX11_walk 3 (some .int) ∈ jWL := List.mem_append_left _ (jlc_4 _ (List.mem_of_getElem? (i := 27) rfl))
theorem ll_188 : Cond.methodLink RL 133 yX11_machine ∈ jWL := List.mem_append_left _ (jlc_4 _ (List.mem_of_getElem? (i := 28) rfl))
theorem ll_189 : Cond.instanceMethod yX11_machine ∈ jWL := List.mem_append_left _ (jlc_4 _ (List.mem_of_getElem? (i := 29) rfl))
theorem ll_190 : Cond.selects RX11 yX11_machine yX11_machine ∈ jWL := List.mem_append_left _ (jlc_4 _ (List.mem_of_getElem? (i := 30) rfl))
theorem ll_191 : Cond.code yX11_machine cX11_machine 2 (some .int) ∈ jWL := List.mem_append_left _ (jlc_4 _ (List.mem_of_getElem? (i := 31) rfl))
theorem ll_192 : Cond.methodLink RL 136 yX11_foot ∈ jWL := List.mem_append_left _ (jlc_4 _ (List.mem_of_getElem? (i := 32) rfl))
theorem ll_193 : Cond.instanceMethod yX11_foot ∈ jWL := List.mem_append_left _ (jlc_4 _ (List.mem_of_getElem? (i := 33) rfl))
theorem ll_194 : Cond.selects RX11 yX11_foot yX11_foot ∈ jWL := List.mem_append_left _ (jlc_4 _ (List.mem_of_getElem? (i := 34) rfl))
theorem ll_195 : Cond.code yX11_foot cX11_foot 3 (some .int) ∈ jWL := List.mem_append_left _ (jlc_4 _ (List.mem_of_getElem? (i := 35) rfl))
theorem ll_196 : Cond.methodLink RL 139 yX11_point ∈ jWL := List.mem_append_left _ (jlc_4 _ (List.mem_of_getElem? (i := 36) rfl))
theorem ll_197 : Cond.instanceMethod yX11_point ∈ jWL := List.mem_append_left _ (jlc_4 _ (List.mem_of_getElem? (i := 37) rfl))
theorem ll_198 : Cond.selects RX11 yX11_point yX11_point ∈ jWL := List.mem_append_left _ (jlc_4 _ (List.mem_of_getElem? (i := 38) rfl))
theorem ll_199 : Cond.code yX11_point cX11_point 5 (some .int) ∈ jWL := List.mem_append_left _ (jlc_4 _ (List.mem_of_getElem? (i := 39) rfl))
theorem ll_200 : Cond.methodLink RL 155 yX11_corner ∈ jWL := List.mem_append_left _ (jlc_5 _ (List.mem_of_getElem? (i := 0) rfl))
theorem ll_201 : Cond.instanceMethod yX11_corner ∈ jWL := List.mem_append_left _ (jlc_5 _ (List.mem_of_getElem? (i := 1) rfl))
theorem ll_202 : Cond.selects RX11 yX11_corner yX11_corner ∈ jWL := List.mem_append_left _ (jlc_5 _ (List.mem_of_getElem? (i := 2) rfl))
theorem ll_203 : Cond.code yX11_corner cX11_corner 2 (some .int) ∈ jWL := List.mem_append_left _ (jlc_5 _ (List.mem_of_getElem? (i := 3) rfl))
theorem ll_204 : Cond.methodLink RL 158 yX11_foothold ∈ jWL := List.mem_append_left _ (jlc_5 _ (List.mem_of_getElem? (i := 4) rfl))
theorem ll_205 : Cond.instanceMethod yX11_foothold ∈ jWL := List.mem_append_left _ (jlc_5 _ (List.mem_of_getElem? (i := 5) rfl))
theorem ll_206 : Cond.selects RX11 yX11_foothold yX11_foothold ∈ jWL := List.mem_append_left _ (jlc_5 _ (List.mem_of_getElem? (i := 6) rfl))
theorem ll_207 : Cond.code yX11_foothold cX11_foothold 2 (some .int) ∈ jWL := List.mem_append_left _ (jlc_5 _ (List.mem_of_getElem? (i := 7) rfl))
theorem ll_208 : Cond.methodLink RL 161 yX11_wouldLift ∈ jWL := List.mem_append_left _ (jlc_5 _ (List.mem_of_getElem? (i := 8) rfl))
theorem ll_209 : Cond.instanceMethod yX11_wouldLift ∈ jWL := List.mem_append_left _ (jlc_5 _ (List.mem_of_getElem? (i := 9) rfl))
theorem ll_210 : Cond.selects RX11 yX11_wouldLift yX11_wouldLift ∈ jWL := List.mem_append_left _ (jlc_5 _ (List.mem_of_getElem? (i := 10) rfl))
theorem ll_211 : Cond.code yX11_wouldLift cX11_wouldLift 5 (some .int) ∈ jWL := List.mem_append_left _ (jlc_5 _ (List.mem_of_getElem? (i := 11) rfl))
theorem ll_212 : Cond.methodLink RL 164 yX11_fewest ∈ jWL := List.mem_append_left _ (jlc_5 _ (List.mem_of_getElem? (i := 12) rfl))
theorem ll_213 : Cond.instanceMethod yX11_fewest ∈ jWL := List.mem_append_left _ (jlc_5 _ (List.mem_of_getElem? (i := 13) rfl))
theorem ll_214 : Cond.selects RX11 yX11_fewest yX11_fewest ∈ jWL := List.mem_append_left _ (jlc_5 _ (List.mem_of_getElem? (i := 14) rfl))
theorem ll_215 : Cond.code yX11_fewest cX11_fewest 15 (some .int) ∈ jWL := List.mem_append_left _ (jlc_5 _ (List.mem_of_getElem? (i := 15) rfl))
theorem ll_216 : Cond.methodLink RL 167 yX11_fewestAnew ∈ jWL := List.mem_append_left _ (jlc_5 _ (List.mem_of_getElem? (i := 16) rfl))
theorem ll_217 : Cond.instanceMethod yX11_fewestAnew ∈ jWL := List.mem_append_left _ (jlc_5 _ (List.mem_of_getElem? (i := 17) rfl))
theorem ll_218 : Cond.selects RX11 yX11_fewestAnew yX11_fewestAnew ∈ jWL := List.mem_append_left _ (jlc_5 _ (List.mem_of_getElem? (i := 18) rfl))
theorem ll_219 : Cond.code yX11_fewestAnew cX11_fewestAnew 3 (some .int) ∈ jWL := List.mem_append_left _ (jlc_5 _ (List.mem_of_getElem? (i := 19) rfl))
theorem ll_220 : Cond.methodLink RL 170 yX11_fall ∈ jWL := List.mem_append_left _ (jlc_5 _ (List.mem_of_getElem? (i := 20) rfl))
theorem ll_221 : Cond.instanceMethod yX11_fall ∈ jWL := List.mem_append_left _ (jlc_5 _ (List.mem_of_getElem? (i := 21) rfl))
theorem ll_222 : Cond.selects RX11 yX11_fall yX11_fall ∈ jWL := List.mem_append_left _ (jlc_5 _ (List.mem_of_getElem? (i := 22) rfl))
theorem ll_223 : Cond.code yX11_fall cX11_fall 4 (some .int) ∈ jWL := List.mem_append_left _ (jlc_5 _ (List.mem_of_getElem? (i := 23) rfl))
theorem ll_224 : Cond.methodLink RL 110 yX11_halt ∈ jWL := List.mem_append_left _ (jlc_5 _ (List.mem_of_getElem? (i := 24) rfl))
theorem ll_225 : Cond.instanceMethod yX11_halt ∈ jWL := List.mem_append_left _ (jlc_5 _ (List.mem_of_getElem? (i := 25) rfl))
theorem ll_226 : Cond.selects RX11 yX11_halt yX11_halt ∈ jWL := List.mem_append_left _ (jlc_5 _ (List.mem_of_getElem? (i := 26) rfl))
theorem ll_227 : Cond.code yX11_halt cX11_halt 2 (some .int) ∈ jWL := List.mem_append_left _ (jlc_5 _ (List.mem_of_getElem? (i := 27) rfl))
theorem ll_228 : Cond.methodLink RL 144 yX11_isStable ∈ jWL := List.mem_append_left _ (jlc_5 _ (List.mem_of_getElem? (i := 28) rfl))
theorem ll_229 : Cond.instanceMethod yX11_isStable ∈ jWL := List.mem_append_left _ (jlc_5 _ (List.mem_of_getElem? (i := 29) rfl))
theorem ll_230 : Cond.selects RX11 yX11_isStable yX11_isStable ∈ jWL := List.mem_append_left _ (jlc_5 _ (List.mem_of_getElem? (i := 30) rfl))
theorem ll_231 : Cond.code yX11_isStable cX11_isStable 1 (some .boolean) ∈ jWL := List.mem_append_left _ (jlc_5 _ (List.mem_of_getElem? (i := 31) rfl))
theorem ll_232 : Cond.methodLink RL 148 yX11_isStableAnew ∈ jWL := List.mem_append_left _ (jlc_5 _ (List.mem_of_getElem? (i := 32) rfl))
theorem ll_233 : Cond.instanceMethod yX11_isStableAnew ∈ jWL := List.mem_append_left _ (jlc_5 _ (List.mem_of_getElem? (i := 33) rfl))
theorem ll_234 : Cond.selects RX11 yX11_isStableAnew yX11_isStableAnew ∈ jWL := List.mem_append_left _ (jlc_5 _ (List.mem_of_getElem? (i := 34) rfl))
theorem ll_235 : Cond.code yX11_isStableAnew cX11_isStableAnew 1 (some .boolean) ∈ jWL := List.mem_append_left _ (jlc_5 _ (List.mem_of_getElem? (i := 35) rfl))
theorem ll_236 : Cond.methodLink RL 152 yX11_margin ∈ jWL := List.mem_append_left _ (jlc_5 _ (List.mem_of_getElem? (i := 36) rfl))
theorem ll_237 : Cond.instanceMethod yX11_margin ∈ jWL := List.mem_append_left _ (jlc_5 _ (List.mem_of_getElem? (i := 37) rfl))
theorem ll_238 : Cond.selects RX11 yX11_margin yX11_margin ∈ jWL := List.mem_append_left _ (jlc_5 _ (List.mem_of_getElem? (i := 38) rfl))
theorem ll_239 : Cond.code yX11_margin cX11_margin 8 (some .int) ∈ jWL := List.mem_append_left _ (jlc_5 _ (List.mem_of_getElem? (i := 39) rfl))
theorem ll_240 : Cond.methodLink RL 90 yX11_thrown ∈ jWL := List.mem_append_left _ (jlc_6 _ (List.mem_of_getElem? (i := 0) rfl))
theorem ll_241 : Cond.instanceMethod yX11_thrown ∈ jWL := List.mem_append_left _ (jlc_6 _ (List.mem_of_getElem? (i := 1) rfl))
theorem ll_242 : Cond.selects RX11 yX11_thrown yX11_thrown ∈ jWL := List.mem_append_left _ (jlc_6 _ (List.mem_of_getElem? (i := 2) rfl))
theorem ll_243 : Cond.code yX11_thrown cX11_thrown 1 (some .int) ∈ jWL := List.mem_append_left _ (jlc_6 _ (List.mem_of_getElem? (i := 3) rfl))
theorem ll_244 : Cond.methodLink RL 107 yX10_halt ∈ jWL := List.mem_append_left _ (jlc_6 _ (List.mem_of_getElem? (i := 4) rfl))
theorem ll_245 : Cond.instanceMethod yX10_halt ∈ jWL := List.mem_append_left _ (jlc_6 _ (List.mem_of_getElem? (i := 5) rfl))
theorem ll_246 : Cond.selects RX10 yX10_halt yX10_halt ∈ jWL := List.mem_append_left _ (jlc_6 _ (List.mem_of_getElem? (i := 6) rfl))
theorem ll_247 : Cond.code yX10_halt cX10_halt 2 (some .int) ∈ jWL := List.mem_append_left _ (jlc_6 _ (List.mem_of_getElem? (i := 7) rfl))
theorem ll_248 : Cond.methodLink RL 140 yX10_isStable ∈ jWL := List.mem_append_left _ (jlc_6 _ (List.mem_of_getElem? (i := 8) rfl))
theorem ll_249 : Cond.instanceMethod yX10_isStable ∈ jWL := List.mem_append_left _ (jlc_6 _ (List.mem_of_getElem? (i := 9) rfl))
theorem ll_250 : Cond.selects RX10 yX10_isStable yX10_isStable ∈ jWL := List.mem_append_left _ (jlc_6 _ (List.mem_of_getElem? (i := 10) rfl))
theorem ll_251 : Cond.code yX10_isStable cX10_isStable 1 (some .boolean) ∈ jWL := List.mem_append_left _ (jlc_6 _ (List.mem_of_getElem? (i := 11) rfl))
theorem ll_252 : Cond.methodLink RL 145 yX10_isStableAnew ∈ jWL := List.mem_append_left _ (jlc_6 _ (List.mem_of_getElem? (i := 12) rfl))
theorem ll_253 : Cond.instanceMethod yX10_isStableAnew ∈ jWL := List.mem_append_left _ (jlc_6 _ (List.mem_of_getElem? (i := 13) rfl))
theorem ll_254 : Cond.selects RX10 yX10_isStableAnew yX10_isStableAnew ∈ jWL := List.mem_append_left _ (jlc_6 _ (List.mem_of_getElem? (i := 14) rfl))
theorem ll_255 : Cond.code yX10_isStableAnew cX10_isStableAnew 1 (some .boolean) ∈ jWL := List.mem_append_left _ (jlc_6 _ (List.mem_of_getElem? (i := 15) rfl))
theorem ll_256 : Cond.methodLink RL 149 yX10_margin ∈ jWL := List.mem_append_left _ (jlc_6 _ (List.mem_of_getElem? (i := 16) rfl))
theorem ll_257 : Cond.instanceMethod yX10_margin ∈ jWL := List.mem_append_left _ (jlc_6 _ (List.mem_of_getElem? (i := 17) rfl))
theorem ll_258 : Cond.selects RX10 yX10_margin yX10_margin ∈ jWL := List.mem_append_left _ (jlc_6 _ (List.mem_of_getElem? (i := 18) rfl))
theorem ll_259 : Cond.code yX10_margin cX10_margin 2 (some .int) ∈ jWL := List.mem_append_left _ (jlc_6 _ (List.mem_of_getElem? (i := 19) rfl))
theorem ll_260 : Cond.classLink RL 8 RX10 ∈ jWL := List.mem_append_left _ (jlc_6 _ (List.mem_of_getElem? (i := 20) rfl))
theorem ll_261 : Cond.instantiable RX10 11 ∈ jWL := List.mem_append_left _ (jlc_6 _ (List.mem_of_getElem? (i := 21) rfl))
theorem ll_262 : Cond.classLink RL 81 RX11 ∈ jWL := List.mem_append_left _ (jlc_6 _ (List.mem_of_getElem? (i := 22) rfl))
theorem ll_263 : Cond.instantiable RX11 31 ∈ jWL := List.mem_append_left _ (jlc_6 _ (List.mem_of_getElem? (i := 23) rfl))
theorem ll_264 : Cond.methodLink RL 80 yX10_init ∈ jWL := List.mem_append_left _ (jlc_6 _ (List.mem_of_getElem? (i := 24) rfl))
theorem ll_265 : Cond.instanceMethod yX10_init ∈ jWL := List.mem_append_left _ (jlc_6 _ (List.mem_of_getElem? (i := 25) rfl))
theorem ll_266 : Cond.code yX10_init cX10_init 2 none ∈ jWL := List.mem_append_left _ (jlc_6 _ (List.mem_of_getElem? (i := 26) rfl))
theorem ll_267 : Cond.methodLink RL 83 yX11_init ∈ jWL := List.mem_append_left _ (jlc_6 _ (List.mem_of_getElem? (i := 27) rfl))
theorem ll_268 : Cond.instanceMethod yX11_init ∈ jWL := List.mem_append_left _ (jlc_6 _ (List.mem_of_getElem? (i := 28) rfl))
theorem ll_269 : Cond.code yX11_init cX11_init 2 none ∈ jWL := List.mem_append_left _ (jlc_6 _ (List.mem_of_getElem? (i := 29) rfl))
theorem ll_270 : Cond.arrayClass .long ∈ jWL := List.mem_append_left _ (jlc_6 _ (List.mem_of_getElem? (i := 30) rfl))
theorem jlw {w : Cond} (h : w ∈ jW) : w ∈ jWL := List.mem_append_right _ h
theorem jlm {w w0 : Cond} (h : w ∈ jWL) : w ∈ w0 :: jWL := List.mem_cons_of_mem _ h
theorem jlP {w0 w1 : Cond} (h : w1 ∈ jWL) : GoodIn (w0 :: jWL) (w1 :: jW) := by
  intro w hw
  rcases List.mem_cons.mp hw with rfl | hw
  · exact ⟨List.mem_cons_of_mem _ h, good_of_word (jWL_good _ h)⟩
  · exact ⟨List.mem_cons_of_mem _ (jlw hw), good_of_word (jW_good _ hw)⟩
theorem jlQ {w0 w1 : Cond} (h : w1 ∈ jWL) : GoodIn (w0 :: jWL) (w1 :: jWL) := by
  intro w hw
  rcases List.mem_cons.mp hw with rfl | hw
  · exact ⟨List.mem_cons_of_mem _ h, good_of_word (jWL_good _ h)⟩
  · exact ⟨List.mem_cons_of_mem _ hw, good_of_word (jWL_good _ hw)⟩
theorem jlL {w0 : Cond} {L : List Cond} (h : ∀ w ∈ L, w ∈ jWL) : GoodIn (w0 :: jWL) L := fun w hw => ⟨List.mem_cons_of_mem _ (h w hw), good_of_word (jWL_good _ (h w hw))⟩
theorem jlV {w0 : Cond} {own C : String} {idx : Nat} {y : MethodName} {bs : ByteArray} {mL : Nat} {ry : Option FieldType} (h1 : Cond.methodLink own idx y ∈ jWL) (h2 : Cond.instanceMethod y ∈ jWL) (h3 : Cond.selects C y y ∈ jWL) (h4 : Cond.initialized C ∈ jWL) (h : Cond.code y bs mL ry ∈ jWL) : GoodIn (w0 :: jWL) (wsV own idx C y (Cond.code y bs mL ry :: jW)) :=
  goodIn_app (jlL (List.forall_mem_cons.mpr ⟨h1, List.forall_mem_cons.mpr ⟨h2, List.forall_mem_cons.mpr ⟨h3, List.forall_mem_cons.mpr ⟨h4, fun _ h => absurd h List.not_mem_nil⟩⟩⟩⟩)) (jlP h)
theorem jlS {w0 wc : Cond} {own : String} {idx : Nat} {y : MethodName} (h1 : Cond.methodLink own idx y ∈ jWL) (h2 : Cond.static y ∈ jWL) (h3 : Cond.initialized y.cls ∈ jWL) (h : wc ∈ jWL) : GoodIn (w0 :: jWL) (va_wsS own idx y (wc :: jWL)) :=
  goodIn_app (jlL (List.forall_mem_cons.mpr ⟨h1, List.forall_mem_cons.mpr ⟨h2, List.forall_mem_cons.mpr ⟨h3, fun _ h => absurd h List.not_mem_nil⟩⟩⟩)) (jlQ h)
theorem pl_L : plainName RL = true := by decide +kernel
theorem e_IAE : nIAE ∈ [nIAE, nISE, nIOB] := List.mem_cons_self
theorem e_ISE : nISE ∈ [nIAE, nISE, nIOB] := List.mem_cons_of_mem _ List.mem_cons_self
theorem e_IOB : nIOB ∈ [nIAE, nISE, nIOB] := List.mem_cons_of_mem _ (List.mem_cons_of_mem _ List.mem_cons_self)
def xK1 (a E : String) : Option Int32 := if E = a then some 1 else none
def xK2 (a b E : String) : Option Int32 := if E = a then some 1 else if E = b then some 2 else none
def xK3 (a b c E : String) : Option Int32 := if E = a then some 1 else if E = b then some 2 else if E = c then some 3 else none
/-- what a wrapper does with its callee's answer -/
def wrp (k : String → Option Int32) (q : Nat) (ws : LWd) (x : Option ((Int32 ⊕ String) × LWd)) : Option (Int32 × LWd) := bn2 x fun r w => if w.length = ws.length then (match r with
  | .inl v => (sL w q 0 v.toInt64).bind fun w2 => some (0, w2)
  | .inr E => (k E).map fun c => (c, w)) else none
theorem jp_IAE_ISE : (nIAE, "java/lang/IllegalStateException") ∈ jpr := by decide +kernel
theorem jp_IAE_IOB : (nIAE, "java/lang/IndexOutOfBoundsException") ∈ jpr := by decide +kernel
theorem jp_ISE_IAE : (nISE, "java/lang/IllegalArgumentException") ∈ jpr := by decide +kernel
theorem jp_ISE_IOB : (nISE, "java/lang/IndexOutOfBoundsException") ∈ jpr := by decide +kernel
theorem jp_IOB_IAE : (nIOB, "java/lang/IllegalArgumentException") ∈ jpr := by decide +kernel
theorem jp_IOB_ISE : (nIOB, "java/lang/IllegalStateException") ∈ jpr := by decide +kernel
def wsL_ground : List Cond := Cond.codeWith yL_ground cL_ground 8 (some .int) [(0, 16, 19, 13), (0, 16, 23, 15)] :: jWL
def m_L_ground (a0 : Nat) (i1 : Int32) (i2 : Int32) (i3 : Int32) (i4 : Int32) (i5 : Int32) (q : Nat) (ws : LWd) : Option (Int32 × LWd) := wrp (xK2 nIAE nISE) q ws (m_X10_ground a0 i1 i2 i3 i4 i5 ws)
set_option maxRecDepth 100000 in
theorem s_L_ground {a0 q : Nat} {i1 : Int32} {i2 : Int32} {i3 : Int32} {i4 : Int32} {i5 : Int32} {ws ws' : LWd} {v : Int32} (h : m_L_ground a0 i1 i2 i3 i4 i5 q ws = some (v, ws')) : jSW yL_ground wsL_ground 7 1 6 [.ref a0, .int i1, .int i2, .int i3, .int i4, .int i5, .ref q] ws (.inl (some (.int v)), ws') := by
  unfold m_L_ground wrp at h
  obtain ⟨r, w1, e1, h⟩ := obS2 h
  split at h
  · rename_i hl
    refine jh_entry (hh := [(0, 16, 19, 13), (0, 16, 23, 15)]) (ret := (some .int)) (nm := "ground") (own := RL) pl_L rfl rfl rfl (jcats (by rfl)) (Nat.le_of_ble_eq_true rfl) ?_
    show JH [(0, 16, 19, 13), (0, 16, 23, 15)] cL_ground 8 RL wsL_ground (some .int) "ground" 7 1 6 ws.length (.inl (some (.int v)), ws') 0 [some (.ref a0), some (.int i1), some (.int i2), some (.int i3), some (.int i4), some (.int i5), some (.ref q), none] [] ws 0 0
    refine jh_aload (pc := 0) dL_ground_0 rfl ?_
    refine jh_iconst (pc := 2) dL_ground_2 (v := 0) (by decide) ?_
    refine jh_aload_n (pc := 3) dL_ground_3 rfl ?_
    refine jh_iload_n (pc := 4) dL_ground_4 rfl ?_
    refine jh_iload_n (pc := 5) dL_ground_5 rfl ?_
    refine jh_iload_n (pc := 6) dL_ground_6 rfl ?_
    refine jh_iload (pc := 7) dL_ground_7 rfl ?_
    refine jh_iload (pc := 9) dL_ground_9 rfl ?_
    refine jh_callVX (pc := 11) (As := [.int i1, .int i2, .int i3, .int i4, .int i5]) (st := [.int 0, .ref q]) (k' := 1) (n' := 6) dL_ground_11 (s_X10_ground e1) (jlV ll_4 ll_5 ll_6 (jlw lw_147) ll_7) rfl hv_X10_ground rfl (r_X10_ground e1) rfl (by decide) (by decide) (Nat.le_of_ble_eq_true rfl) (by decide) (by decide) (by decide) (by decide) hl (fun u hu => ?_) (fun E hE => ?_)
    · cases r with
      | inr E => cases hu
      | inl x =>
        cases hu
        obtain ⟨w2, e2, h⟩ := obS h
        cases h
        refine j_i2l (pc := 14) dL_ground_14 ?_
        refine j_last (pc := 15) dL_ground_15 e2 ?_
        refine j_goto (pc := 16) (tgt := 27) dL_ground_16 (by decide) ?_
        refine j_iconst (pc := 27) dL_ground_27 (v := 0) (by decide) ?_
        exact j_iret (pc := 28) rfl dL_ground_28 (by decide) (by decide) rfl
    · cases r with
      | inl x => cases hE
      | inr E1 =>
        cases hE
        obtain ⟨c, e2, h⟩ := Option.map_eq_some_iff.mp h
        cases h
        unfold xK2 at e2
        split at e2
        · rename_i hq
          subst hq
          cases e2
          refine ⟨19, ⟨[], (0, 16, 19, 13), [(0, 16, 23, 15)], rfl, fun z hz => absurd hz List.not_mem_nil, by decide, by decide, jlm ll_1, e_IAE, rfl⟩, ?_⟩
          refine jr_astore (pc := 19) [some (.ref a0), some (.int i1), some (.int i2), some (.int i3), some (.int i4), some (.int i5), some (.ref q)] dL_ground_19 rfl (Nat.le_of_ble_eq_true rfl) rfl ?_
          refine j_iconst (pc := 21) dL_ground_21 (v := 1) (by decide) ?_
          exact j_iret (pc := 22) rfl dL_ground_22 (by decide) (by decide) rfl
        ·
          split at e2
          · rename_i hq
            subst hq
            cases e2
            refine ⟨23, ⟨[(0, 16, 19, 13)], (0, 16, 23, 15), [], rfl, List.forall_mem_cons.mpr ⟨⟨by decide, "java/lang/IllegalArgumentException", jlm ll_1, jp_ISE_IAE⟩, fun _ h => absurd h List.not_mem_nil⟩, by decide, by decide, jlm ll_2, e_ISE, rfl⟩, ?_⟩
            refine jr_astore (pc := 23) [some (.ref a0), some (.int i1), some (.int i2), some (.int i3), some (.int i4), some (.int i5), some (.ref q)] dL_ground_23 rfl (Nat.le_of_ble_eq_true rfl) rfl ?_
            refine j_iconst (pc := 25) dL_ground_25 (v := 2) (by decide) ?_
            exact j_iret (pc := 26) rfl dL_ground_26 (by decide) (by decide) rfl
          · cases e2
  · cases h
def wsL_chart : List Cond := Cond.codeWith yL_chart cL_chart 6 (some .int) [(0, 12, 15, 13)] :: jWL
def m_L_chart (a0 : Nat) (i1 : Int32) (i2 : Int32) (i3 : Int32) (q : Nat) (ws : LWd) : Option (Int32 × LWd) := wrp (xK1 nIAE) q ws (m_X10_chart a0 i1 i2 i3 ws)
set_option maxRecDepth 100000 in
theorem s_L_chart {a0 q : Nat} {i1 : Int32} {i2 : Int32} {i3 : Int32} {ws ws' : LWd} {v : Int32} (h : m_L_chart a0 i1 i2 i3 q ws = some (v, ws')) : jSW yL_chart wsL_chart 7 1 6 [.ref a0, .int i1, .int i2, .int i3, .ref q] ws (.inl (some (.int v)), ws') := by
  unfold m_L_chart wrp at h
  obtain ⟨r, w1, e1, h⟩ := obS2 h
  split at h
  · rename_i hl
    refine jh_entry (hh := [(0, 12, 15, 13)]) (ret := (some .int)) (nm := "chart") (own := RL) pl_L rfl rfl rfl (jcats (by rfl)) (Nat.le_of_ble_eq_true rfl) ?_
    show JH [(0, 12, 15, 13)] cL_chart 6 RL wsL_chart (some .int) "chart" 7 1 6 ws.length (.inl (some (.int v)), ws') 0 [some (.ref a0), some (.int i1), some (.int i2), some (.int i3), some (.ref q), none] [] ws 0 0
    refine jh_aload (pc := 0) dL_chart_0 rfl ?_
    refine jh_iconst (pc := 2) dL_chart_2 (v := 0) (by decide) ?_
    refine jh_aload_n (pc := 3) dL_chart_3 rfl ?_
    refine jh_iload_n (pc := 4) dL_chart_4 rfl ?_
    refine jh_iload_n (pc := 5) dL_chart_5 rfl ?_
    refine jh_iload_n (pc := 6) dL_chart_6 rfl ?_
    refine jh_callVX (pc := 7) (As := [.int i1, .int i2, .int i3]) (st := [.int 0, .ref q]) (k' := 1) (n' := 6) dL_chart_7 (s_X10_chart e1) (jlV ll_11 ll_12 ll_13 (jlw lw_147) ll_14) rfl hv_X10_chart rfl (r_X10_chart e1) rfl (by decide) (by decide) (Nat.le_of_ble_eq_true rfl) (by decide) (by decide) (by decide) (by decide) hl (fun u hu => ?_) (fun E hE => ?_)
    · cases r with
      | inr E => cases hu
      | inl x =>
        cases hu
        obtain ⟨w2, e2, h⟩ := obS h
        cases h
        refine j_i2l (pc := 10) dL_chart_10 ?_
        refine j_last (pc := 11) dL_chart_11 e2 ?_
        refine j_goto (pc := 12) (tgt := 19) dL_chart_12 (by decide) ?_
        refine j_iconst (pc := 19) dL_chart_19 (v := 0) (by decide) ?_
        exact j_iret (pc := 20) rfl dL_chart_20 (by decide) (by decide) rfl
    · cases r with
      | inl x => cases hE
      | inr E1 =>
        cases hE
        obtain ⟨c, e2, h⟩ := Option.map_eq_some_iff.mp h
        cases h
        unfold xK1 at e2
        split at e2
        · rename_i hq
          subst hq
          cases e2
          refine ⟨15, ⟨[], (0, 12, 15, 13), [], rfl, fun z hz => absurd hz List.not_mem_nil, by decide, by decide, jlm ll_1, e_IAE, rfl⟩, ?_⟩
          refine jr_astore (pc := 15) [some (.ref a0), some (.int i1), some (.int i2), some (.int i3), some (.ref q)] dL_chart_15 rfl (Nat.le_of_ble_eq_true rfl) rfl ?_
          refine j_iconst (pc := 17) dL_chart_17 (v := 1) (by decide) ?_
          exact j_iret (pc := 18) rfl dL_chart_18 (by decide) (by decide) rfl
        · cases e2
  · cases h
def wsL_leg : List Cond := Cond.codeWith yL_leg cL_leg 6 (some .int) [(0, 12, 15, 13), (0, 12, 19, 15)] :: jWL
def m_L_leg (a0 : Nat) (i1 : Int32) (i2 : Int32) (i3 : Int32) (q : Nat) (ws : LWd) : Option (Int32 × LWd) := wrp (xK2 nIAE nISE) q ws (m_X10_leg a0 i1 i2 i3 ws)
set_option maxRecDepth 100000 in
theorem s_L_leg {a0 q : Nat} {i1 : Int32} {i2 : Int32} {i3 : Int32} {ws ws' : LWd} {v : Int32} (h : m_L_leg a0 i1 i2 i3 q ws = some (v, ws')) : jSW yL_leg wsL_leg 7 1 6 [.ref a0, .int i1, .int i2, .int i3, .ref q] ws (.inl (some (.int v)), ws') := by
  unfold m_L_leg wrp at h
  obtain ⟨r, w1, e1, h⟩ := obS2 h
  split at h
  · rename_i hl
    refine jh_entry (hh := [(0, 12, 15, 13), (0, 12, 19, 15)]) (ret := (some .int)) (nm := "leg") (own := RL) pl_L rfl rfl rfl (jcats (by rfl)) (Nat.le_of_ble_eq_true rfl) ?_
    show JH [(0, 12, 15, 13), (0, 12, 19, 15)] cL_leg 6 RL wsL_leg (some .int) "leg" 7 1 6 ws.length (.inl (some (.int v)), ws') 0 [some (.ref a0), some (.int i1), some (.int i2), some (.int i3), some (.ref q), none] [] ws 0 0
    refine jh_aload (pc := 0) dL_leg_0 rfl ?_
    refine jh_iconst (pc := 2) dL_leg_2 (v := 0) (by decide) ?_
    refine jh_aload_n (pc := 3) dL_leg_3 rfl ?_
    refine jh_iload_n (pc := 4) dL_leg_4 rfl ?_
    refine jh_iload_n (pc := 5) dL_leg_5 rfl ?_
    refine jh_iload_n (pc := 6) dL_leg_6 rfl ?_
    refine jh_callVX (pc := 7) (As := [.int i1, .int i2, .int i3]) (st := [.int 0, .ref q]) (k' := 1) (n' := 6) dL_leg_7 (s_X10_leg e1) (jlV ll_18 ll_19 ll_20 (jlw lw_147) ll_21) rfl hv_X10_leg rfl (r_X10_leg e1) rfl (by decide) (by decide) (Nat.le_of_ble_eq_true rfl) (by decide) (by decide) (by decide) (by decide) hl (fun u hu => ?_) (fun E hE => ?_)
    · cases r with
      | inr E => cases hu
      | inl x =>
        cases hu
        obtain ⟨w2, e2, h⟩ := obS h
        cases h
        refine j_i2l (pc := 10) dL_leg_10 ?_
        refine j_last (pc := 11) dL_leg_11 e2 ?_
        refine j_goto (pc := 12) (tgt := 23) dL_leg_12 (by decide) ?_
        refine j_iconst (pc := 23) dL_leg_23 (v := 0) (by decide) ?_
        exact j_iret (pc := 24) rfl dL_leg_24 (by decide) (by decide) rfl
    · cases r with
      | inl x => cases hE
      | inr E1 =>
        cases hE
        obtain ⟨c, e2, h⟩ := Option.map_eq_some_iff.mp h
        cases h
        unfold xK2 at e2
        split at e2
        · rename_i hq
          subst hq
          cases e2
          refine ⟨15, ⟨[], (0, 12, 15, 13), [(0, 12, 19, 15)], rfl, fun z hz => absurd hz List.not_mem_nil, by decide, by decide, jlm ll_1, e_IAE, rfl⟩, ?_⟩
          refine jr_astore (pc := 15) [some (.ref a0), some (.int i1), some (.int i2), some (.int i3), some (.ref q)] dL_leg_15 rfl (Nat.le_of_ble_eq_true rfl) rfl ?_
          refine j_iconst (pc := 17) dL_leg_17 (v := 1) (by decide) ?_
          exact j_iret (pc := 18) rfl dL_leg_18 (by decide) (by decide) rfl
        ·
          split at e2
          · rename_i hq
            subst hq
            cases e2
            refine ⟨19, ⟨[(0, 12, 15, 13)], (0, 12, 19, 15), [], rfl, List.forall_mem_cons.mpr ⟨⟨by decide, "java/lang/IllegalArgumentException", jlm ll_1, jp_ISE_IAE⟩, fun _ h => absurd h List.not_mem_nil⟩, by decide, by decide, jlm ll_2, e_ISE, rfl⟩, ?_⟩
            refine jr_astore (pc := 19) [some (.ref a0), some (.int i1), some (.int i2), some (.int i3), some (.ref q)] dL_leg_19 rfl (Nat.le_of_ble_eq_true rfl) rfl ?_
            refine j_iconst (pc := 21) dL_leg_21 (v := 2) (by decide) ?_
            exact j_iret (pc := 22) rfl dL_leg_22 (by decide) (by decide) rfl
          · cases e2
  · cases h
def wsL_charge : List Cond := Cond.codeWith yL_charge cL_charge 4 (some .int) [(0, 9, 12, 13)] :: jWL
def m_L_charge (a0 : Nat) (i1 : Int32) (q : Nat) (ws : LWd) : Option (Int32 × LWd) := wrp (xK1 nIAE) q ws (m_X10_charge a0 i1 ws)
set_option maxRecDepth 100000 in
theorem s_L_charge {a0 q : Nat} {i1 : Int32} {ws ws' : LWd} {v : Int32} (h : m_L_charge a0 i1 q ws = some (v, ws')) : jSW yL_charge wsL_charge 7 1 6 [.ref a0, .int i1, .ref q] ws (.inl (some (.int v)), ws') := by
  unfold m_L_charge wrp at h
  obtain ⟨r, w1, e1, h⟩ := obS2 h
  split at h
  · rename_i hl
    refine jh_entry (hh := [(0, 9, 12, 13)]) (ret := (some .int)) (nm := "charge") (own := RL) pl_L rfl rfl rfl (jcats (by rfl)) (Nat.le_of_ble_eq_true rfl) ?_
    show JH [(0, 9, 12, 13)] cL_charge 4 RL wsL_charge (some .int) "charge" 7 1 6 ws.length (.inl (some (.int v)), ws') 0 [some (.ref a0), some (.int i1), some (.ref q), none] [] ws 0 0
    refine jh_aload_n (pc := 0) dL_charge_0 rfl ?_
    refine jh_iconst (pc := 1) dL_charge_1 (v := 0) (by decide) ?_
    refine jh_aload_n (pc := 2) dL_charge_2 rfl ?_
    refine jh_iload_n (pc := 3) dL_charge_3 rfl ?_
    refine jh_callVX (pc := 4) (As := [.int i1]) (st := [.int 0, .ref q]) (k' := 1) (n' := 6) dL_charge_4 (s_X10_charge e1) (jlV ll_25 ll_26 ll_27 (jlw lw_147) ll_28) rfl hv_X10_charge rfl (r_X10_charge e1) rfl (by decide) (by decide) (Nat.le_of_ble_eq_true rfl) (by decide) (by decide) (by decide) (by decide) hl (fun u hu => ?_) (fun E hE => ?_)
    · cases r with
      | inr E => cases hu
      | inl x =>
        cases hu
        obtain ⟨w2, e2, h⟩ := obS h
        cases h
        refine j_i2l (pc := 7) dL_charge_7 ?_
        refine j_last (pc := 8) dL_charge_8 e2 ?_
        refine j_goto (pc := 9) (tgt := 15) dL_charge_9 (by decide) ?_
        refine j_iconst (pc := 15) dL_charge_15 (v := 0) (by decide) ?_
        exact j_iret (pc := 16) rfl dL_charge_16 (by decide) (by decide) rfl
    · cases r with
      | inl x => cases hE
      | inr E1 =>
        cases hE
        obtain ⟨c, e2, h⟩ := Option.map_eq_some_iff.mp h
        cases h
        unfold xK1 at e2
        split at e2
        · rename_i hq
          subst hq
          cases e2
          refine ⟨12, ⟨[], (0, 9, 12, 13), [], rfl, fun z hz => absurd hz List.not_mem_nil, by decide, by decide, jlm ll_1, e_IAE, rfl⟩, ?_⟩
          refine jr_astore_n (pc := 12) [some (.ref a0), some (.int i1), some (.ref q)] dL_charge_12 rfl (Nat.le_of_ble_eq_true rfl) rfl ?_
          refine j_iconst (pc := 13) dL_charge_13 (v := 1) (by decide) ?_
          exact j_iret (pc := 14) rfl dL_charge_14 (by decide) (by decide) rfl
        · cases e2
  · cases h
def wsL_phase : List Cond := Cond.codeWith yL_phase cL_phase 8 (some .int) [(0, 16, 19, 31), (0, 16, 23, 13), (0, 16, 27, 15)] :: jWL
def m_L_phase (a0 : Nat) (i1 : Int32) (i2 : Int32) (i3 : Int32) (i4 : Int32) (i5 : Int32) (q : Nat) (ws : LWd) : Option (Int32 × LWd) := wrp (xK3 nIOB nIAE nISE) q ws (m_X10_phase a0 i1 i2 i3 i4 i5 ws)
set_option maxRecDepth 100000 in
theorem s_L_phase {a0 q : Nat} {i1 : Int32} {i2 : Int32} {i3 : Int32} {i4 : Int32} {i5 : Int32} {ws ws' : LWd} {v : Int32} (h : m_L_phase a0 i1 i2 i3 i4 i5 q ws = some (v, ws')) : jSW yL_phase wsL_phase 7 1 6 [.ref a0, .int i1, .int i2, .int i3, .int i4, .int i5, .ref q] ws (.inl (some (.int v)), ws') := by
  unfold m_L_phase wrp at h
  obtain ⟨r, w1, e1, h⟩ := obS2 h
  split at h
  · rename_i hl
    refine jh_entry (hh := [(0, 16, 19, 31), (0, 16, 23, 13), (0, 16, 27, 15)]) (ret := (some .int)) (nm := "phase") (own := RL) pl_L rfl rfl rfl (jcats (by rfl)) (Nat.le_of_ble_eq_true rfl) ?_
    show JH [(0, 16, 19, 31), (0, 16, 23, 13), (0, 16, 27, 15)] cL_phase 8 RL wsL_phase (some .int) "phase" 7 1 6 ws.length (.inl (some (.int v)), ws') 0 [some (.ref a0), some (.int i1), some (.int i2), some (.int i3), some (.int i4), some (.int i5), some (.ref q), none] [] ws 0 0
    refine jh_aload (pc := 0) dL_phase_0 rfl ?_
    refine jh_iconst (pc := 2) dL_phase_2 (v := 0) (by decide) ?_
    refine jh_aload_n (pc := 3) dL_phase_3 rfl ?_
    refine jh_iload_n (pc := 4) dL_phase_4 rfl ?_
    refine jh_iload_n (pc := 5) dL_phase_5 rfl ?_
    refine jh_iload_n (pc := 6) dL_phase_6 rfl ?_
    refine jh_iload (pc := 7) dL_phase_7 rfl ?_
    refine jh_iload (pc := 9) dL_phase_9 rfl ?_
    refine jh_callVX (pc := 11) (As := [.int i1, .int i2, .int i3, .int i4, .int i5]) (st := [.int 0, .ref q]) (k' := 1) (n' := 6) dL_phase_11 (s_X10_phase e1) (jlV ll_32 ll_33 ll_34 (jlw lw_147) ll_35) rfl hv_X10_phase rfl (r_X10_phase e1) rfl (by decide) (by decide) (Nat.le_of_ble_eq_true rfl) (by decide) (by decide) (by decide) (by decide) hl (fun u hu => ?_) (fun E hE => ?_)
    · cases r with
      | inr E => cases hu
      | inl x =>
        cases hu
        obtain ⟨w2, e2, h⟩ := obS h
        cases h
        refine j_i2l (pc := 14) dL_phase_14 ?_
        refine j_last (pc := 15) dL_phase_15 e2 ?_
        refine j_goto (pc := 16) (tgt := 31) dL_phase_16 (by decide) ?_
        refine j_iconst (pc := 31) dL_phase_31 (v := 0) (by decide) ?_
        exact j_iret (pc := 32) rfl dL_phase_32 (by decide) (by decide) rfl
    · cases r with
      | inl x => cases hE
      | inr E1 =>
        cases hE
        obtain ⟨c, e2, h⟩ := Option.map_eq_some_iff.mp h
        cases h
        unfold xK3 at e2
        split at e2
        · rename_i hq
          subst hq
          cases e2
          refine ⟨19, ⟨[], (0, 16, 19, 31), [(0, 16, 23, 13), (0, 16, 27, 15)], rfl, fun z hz => absurd hz List.not_mem_nil, by decide, by decide, jlm ll_3, e_IOB, rfl⟩, ?_⟩
          refine jr_astore (pc := 19) [some (.ref a0), some (.int i1), some (.int i2), some (.int i3), some (.int i4), some (.int i5), some (.ref q)] dL_phase_19 rfl (Nat.le_of_ble_eq_true rfl) rfl ?_
          refine j_iconst (pc := 21) dL_phase_21 (v := 1) (by decide) ?_
          exact j_iret (pc := 22) rfl dL_phase_22 (by decide) (by decide) rfl
        ·
          split at e2
          · rename_i hq
            subst hq
            cases e2
            refine ⟨23, ⟨[(0, 16, 19, 31)], (0, 16, 23, 13), [(0, 16, 27, 15)], rfl, List.forall_mem_cons.mpr ⟨⟨by decide, "java/lang/IndexOutOfBoundsException", jlm ll_3, jp_IAE_IOB⟩, fun _ h => absurd h List.not_mem_nil⟩, by decide, by decide, jlm ll_1, e_IAE, rfl⟩, ?_⟩
            refine jr_astore (pc := 23) [some (.ref a0), some (.int i1), some (.int i2), some (.int i3), some (.int i4), some (.int i5), some (.ref q)] dL_phase_23 rfl (Nat.le_of_ble_eq_true rfl) rfl ?_
            refine j_iconst (pc := 25) dL_phase_25 (v := 2) (by decide) ?_
            exact j_iret (pc := 26) rfl dL_phase_26 (by decide) (by decide) rfl
          ·
            split at e2
            · rename_i hq
              subst hq
              cases e2
              refine ⟨27, ⟨[(0, 16, 19, 31), (0, 16, 23, 13)], (0, 16, 27, 15), [], rfl, List.forall_mem_cons.mpr ⟨⟨by decide, "java/lang/IndexOutOfBoundsException", jlm ll_3, jp_ISE_IOB⟩, List.forall_mem_cons.mpr ⟨⟨by decide, "java/lang/IllegalArgumentException", jlm ll_1, jp_ISE_IAE⟩, fun _ h => absurd h List.not_mem_nil⟩⟩, by decide, by decide, jlm ll_2, e_ISE, rfl⟩, ?_⟩
              refine jr_astore (pc := 27) [some (.ref a0), some (.int i1), some (.int i2), some (.int i3), some (.int i4), some (.int i5), some (.ref q)] dL_phase_27 rfl (Nat.le_of_ble_eq_true rfl) rfl ?_
              refine j_iconst (pc := 29) dL_phase_29 (v := 3) (by decide) ?_
              exact j_iret (pc := 30) rfl dL_phase_30 (by decide) (by decide) rfl
            · cases e2
  · cases h
def wsL_load : List Cond := Cond.codeWith yL_load cL_load 6 (some .int) [(0, 12, 15, 13), (0, 12, 19, 15)] :: jWL
def m_L_load (a0 : Nat) (i1 : Int32) (i2 : Int32) (i3 : Int32) (q : Nat) (ws : LWd) : Option (Int32 × LWd) := wrp (xK2 nIAE nISE) q ws (m_X10_load a0 i1 i2 i3 ws)
set_option maxRecDepth 100000 in
theorem s_L_load {a0 q : Nat} {i1 : Int32} {i2 : Int32} {i3 : Int32} {ws ws' : LWd} {v : Int32} (h : m_L_load a0 i1 i2 i3 q ws = some (v, ws')) : jSW yL_load wsL_load 7 1 6 [.ref a0, .int i1, .int i2, .int i3, .ref q] ws (.inl (some (.int v)), ws') := by
  unfold m_L_load wrp at h
  obtain ⟨r, w1, e1, h⟩ := obS2 h
  split at h
  · rename_i hl
    refine jh_entry (hh := [(0, 12, 15, 13), (0, 12, 19, 15)]) (ret := (some .int)) (nm := "load") (own := RL) pl_L rfl rfl rfl (jcats (by rfl)) (Nat.le_of_ble_eq_true rfl) ?_
    show JH [(0, 12, 15, 13), (0, 12, 19, 15)] cL_load 6 RL wsL_load (some .int) "load" 7 1 6 ws.length (.inl (some (.int v)), ws') 0 [some (.ref a0), some (.int i1), some (.int i2), some (.int i3), some (.ref q), none] [] ws 0 0
    refine jh_aload (pc := 0) dL_load_0 rfl ?_
    refine jh_iconst (pc := 2) dL_load_2 (v := 0) (by decide) ?_
    refine jh_aload_n (pc := 3) dL_load_3 rfl ?_
    refine jh_iload_n (pc := 4) dL_load_4 rfl ?_
    refine jh_iload_n (pc := 5) dL_load_5 rfl ?_
    refine jh_iload_n (pc := 6) dL_load_6 rfl ?_
    refine jh_callVX (pc := 7) (As := [.int i1, .int i2, .int i3]) (st := [.int 0, .ref q]) (k' := 1) (n' := 6) dL_load_7 (s_X10_load e1) (jlV ll_39 ll_40 ll_41 (jlw lw_147) ll_42) rfl hv_X10_load rfl (r_X10_load e1) rfl (by decide) (by decide) (Nat.le_of_ble_eq_true rfl) (by decide) (by decide) (by decide) (by decide) hl (fun u hu => ?_) (fun E hE => ?_)
    · cases r with
      | inr E => cases hu
      | inl x =>
        cases hu
        obtain ⟨w2, e2, h⟩ := obS h
        cases h
        refine j_i2l (pc := 10) dL_load_10 ?_
        refine j_last (pc := 11) dL_load_11 e2 ?_
        refine j_goto (pc := 12) (tgt := 23) dL_load_12 (by decide) ?_
        refine j_iconst (pc := 23) dL_load_23 (v := 0) (by decide) ?_
        exact j_iret (pc := 24) rfl dL_load_24 (by decide) (by decide) rfl
    · cases r with
      | inl x => cases hE
      | inr E1 =>
        cases hE
        obtain ⟨c, e2, h⟩ := Option.map_eq_some_iff.mp h
        cases h
        unfold xK2 at e2
        split at e2
        · rename_i hq
          subst hq
          cases e2
          refine ⟨15, ⟨[], (0, 12, 15, 13), [(0, 12, 19, 15)], rfl, fun z hz => absurd hz List.not_mem_nil, by decide, by decide, jlm ll_1, e_IAE, rfl⟩, ?_⟩
          refine jr_astore (pc := 15) [some (.ref a0), some (.int i1), some (.int i2), some (.int i3), some (.ref q)] dL_load_15 rfl (Nat.le_of_ble_eq_true rfl) rfl ?_
          refine j_iconst (pc := 17) dL_load_17 (v := 1) (by decide) ?_
          exact j_iret (pc := 18) rfl dL_load_18 (by decide) (by decide) rfl
        ·
          split at e2
          · rename_i hq
            subst hq
            cases e2
            refine ⟨19, ⟨[(0, 12, 15, 13)], (0, 12, 19, 15), [], rfl, List.forall_mem_cons.mpr ⟨⟨by decide, "java/lang/IllegalArgumentException", jlm ll_1, jp_ISE_IAE⟩, fun _ h => absurd h List.not_mem_nil⟩, by decide, by decide, jlm ll_2, e_ISE, rfl⟩, ?_⟩
            refine jr_astore (pc := 19) [some (.ref a0), some (.int i1), some (.int i2), some (.int i3), some (.ref q)] dL_load_19 rfl (Nat.le_of_ble_eq_true rfl) rfl ?_
            refine j_iconst (pc := 21) dL_load_21 (v := 2) (by decide) ?_
            exact j_iret (pc := 22) rfl dL_load_22 (by decide) (by decide) rfl
          · cases e2
  · cases h
def wsL_rise : List Cond := Cond.codeWith yL_rise cL_rise 3 (some .int) [(0, 8, 11, 15)] :: jWL
def m_L_rise (a0 : Nat) (q : Nat) (ws : LWd) : Option (Int32 × LWd) := wrp (xK1 nISE) q ws (m_X10_rise a0  ws)
set_option maxRecDepth 100000 in
theorem s_L_rise {a0 q : Nat} {ws ws' : LWd} {v : Int32} (h : m_L_rise a0  q ws = some (v, ws')) : jSW yL_rise wsL_rise 7 1 6 [.ref a0, .ref q] ws (.inl (some (.int v)), ws') := by
  unfold m_L_rise wrp at h
  obtain ⟨r, w1, e1, h⟩ := obS2 h
  split at h
  · rename_i hl
    refine jh_entry (hh := [(0, 8, 11, 15)]) (ret := (some .int)) (nm := "rise") (own := RL) pl_L rfl rfl rfl (jcats (by rfl)) (Nat.le_of_ble_eq_true rfl) ?_
    show JH [(0, 8, 11, 15)] cL_rise 3 RL wsL_rise (some .int) "rise" 7 1 6 ws.length (.inl (some (.int v)), ws') 0 [some (.ref a0), some (.ref q), none] [] ws 0 0
    refine jh_aload_n (pc := 0) dL_rise_0 rfl ?_
    refine jh_iconst (pc := 1) dL_rise_1 (v := 0) (by decide) ?_
    refine jh_aload_n (pc := 2) dL_rise_2 rfl ?_
    refine jh_callVX (pc := 3) (As := []) (st := [.int 0, .ref q]) (k' := 1) (n' := 6) dL_rise_3 (s_X10_rise e1) (jlV ll_46 ll_47 ll_48 (jlw lw_147) ll_49) rfl hv_X10_rise rfl (r_X10_rise e1) rfl (by decide) (by decide) (Nat.le_of_ble_eq_true rfl) (by decide) (by decide) (by decide) (by decide) hl (fun u hu => ?_) (fun E hE => ?_)
    · cases r with
      | inr E => cases hu
      | inl x =>
        cases hu
        obtain ⟨w2, e2, h⟩ := obS h
        cases h
        refine j_i2l (pc := 6) dL_rise_6 ?_
        refine j_last (pc := 7) dL_rise_7 e2 ?_
        refine j_goto (pc := 8) (tgt := 14) dL_rise_8 (by decide) ?_
        refine j_iconst (pc := 14) dL_rise_14 (v := 0) (by decide) ?_
        exact j_iret (pc := 15) rfl dL_rise_15 (by decide) (by decide) rfl
    · cases r with
      | inl x => cases hE
      | inr E1 =>
        cases hE
        obtain ⟨c, e2, h⟩ := Option.map_eq_some_iff.mp h
        cases h
        unfold xK1 at e2
        split at e2
        · rename_i hq
          subst hq
          cases e2
          refine ⟨11, ⟨[], (0, 8, 11, 15), [], rfl, fun z hz => absurd hz List.not_mem_nil, by decide, by decide, jlm ll_2, e_ISE, rfl⟩, ?_⟩
          refine jr_astore_n (pc := 11) [some (.ref a0), some (.ref q)] dL_rise_11 rfl (Nat.le_of_ble_eq_true rfl) rfl ?_
          refine j_iconst (pc := 12) dL_rise_12 (v := 1) (by decide) ?_
          exact j_iret (pc := 13) rfl dL_rise_13 (by decide) (by decide) rfl
        · cases e2
  · cases h
def wsL_lift : List Cond := Cond.codeWith yL_lift cL_lift 4 (some .int) [(0, 9, 12, 31), (0, 9, 15, 15)] :: jWL
def m_L_lift (a0 : Nat) (i1 : Int32) (q : Nat) (ws : LWd) : Option (Int32 × LWd) := wrp (xK2 nIOB nISE) q ws (m_X10_lift a0 i1 ws)
set_option maxRecDepth 100000 in
theorem s_L_lift {a0 q : Nat} {i1 : Int32} {ws ws' : LWd} {v : Int32} (h : m_L_lift a0 i1 q ws = some (v, ws')) : jSW yL_lift wsL_lift 7 1 6 [.ref a0, .int i1, .ref q] ws (.inl (some (.int v)), ws') := by
  unfold m_L_lift wrp at h
  obtain ⟨r, w1, e1, h⟩ := obS2 h
  split at h
  · rename_i hl
    refine jh_entry (hh := [(0, 9, 12, 31), (0, 9, 15, 15)]) (ret := (some .int)) (nm := "lift") (own := RL) pl_L rfl rfl rfl (jcats (by rfl)) (Nat.le_of_ble_eq_true rfl) ?_
    show JH [(0, 9, 12, 31), (0, 9, 15, 15)] cL_lift 4 RL wsL_lift (some .int) "lift" 7 1 6 ws.length (.inl (some (.int v)), ws') 0 [some (.ref a0), some (.int i1), some (.ref q), none] [] ws 0 0
    refine jh_aload_n (pc := 0) dL_lift_0 rfl ?_
    refine jh_iconst (pc := 1) dL_lift_1 (v := 0) (by decide) ?_
    refine jh_aload_n (pc := 2) dL_lift_2 rfl ?_
    refine jh_iload_n (pc := 3) dL_lift_3 rfl ?_
    refine jh_callVX (pc := 4) (As := [.int i1]) (st := [.int 0, .ref q]) (k' := 1) (n' := 6) dL_lift_4 (s_X10_lift e1) (jlV ll_53 ll_54 ll_55 (jlw lw_147) ll_56) rfl hv_X10_lift rfl (r_X10_lift e1) rfl (by decide) (by decide) (Nat.le_of_ble_eq_true rfl) (by decide) (by decide) (by decide) (by decide) hl (fun u hu => ?_) (fun E hE => ?_)
    · cases r with
      | inr E => cases hu
      | inl x =>
        cases hu
        obtain ⟨w2, e2, h⟩ := obS h
        cases h
        refine j_i2l (pc := 7) dL_lift_7 ?_
        refine j_last (pc := 8) dL_lift_8 e2 ?_
        refine j_goto (pc := 9) (tgt := 18) dL_lift_9 (by decide) ?_
        refine j_iconst (pc := 18) dL_lift_18 (v := 0) (by decide) ?_
        exact j_iret (pc := 19) rfl dL_lift_19 (by decide) (by decide) rfl
    · cases r with
      | inl x => cases hE
      | inr E1 =>
        cases hE
        obtain ⟨c, e2, h⟩ := Option.map_eq_some_iff.mp h
        cases h
        unfold xK2 at e2
        split at e2
        · rename_i hq
          subst hq
          cases e2
          refine ⟨12, ⟨[], (0, 9, 12, 31), [(0, 9, 15, 15)], rfl, fun z hz => absurd hz List.not_mem_nil, by decide, by decide, jlm ll_3, e_IOB, rfl⟩, ?_⟩
          refine jr_astore_n (pc := 12) [some (.ref a0), some (.int i1), some (.ref q)] dL_lift_12 rfl (Nat.le_of_ble_eq_true rfl) rfl ?_
          refine j_iconst (pc := 13) dL_lift_13 (v := 1) (by decide) ?_
          exact j_iret (pc := 14) rfl dL_lift_14 (by decide) (by decide) rfl
        ·
          split at e2
          · rename_i hq
            subst hq
            cases e2
            refine ⟨15, ⟨[(0, 9, 12, 31)], (0, 9, 15, 15), [], rfl, List.forall_mem_cons.mpr ⟨⟨by decide, "java/lang/IndexOutOfBoundsException", jlm ll_3, jp_ISE_IOB⟩, fun _ h => absurd h List.not_mem_nil⟩, by decide, by decide, jlm ll_2, e_ISE, rfl⟩, ?_⟩
            refine jr_astore_n (pc := 15) [some (.ref a0), some (.int i1), some (.ref q)] dL_lift_15 rfl (Nat.le_of_ble_eq_true rfl) rfl ?_
            refine j_iconst (pc := 16) dL_lift_16 (v := 2) (by decide) ?_
            exact j_iret (pc := 17) rfl dL_lift_17 (by decide) (by decide) rfl
          · cases e2
  · cases h
def wsL_place : List Cond := Cond.codeWith yL_place cL_place 6 (some .int) [(0, 12, 15, 31), (0, 12, 19, 13), (0, 12, 23, 15)] :: jWL
def m_L_place (a0 : Nat) (i1 : Int32) (i2 : Int32) (i3 : Int32) (q : Nat) (ws : LWd) : Option (Int32 × LWd) := wrp (xK3 nIOB nIAE nISE) q ws (m_X10_place a0 i1 i2 i3 ws)
set_option maxRecDepth 100000 in
theorem s_L_place {a0 q : Nat} {i1 : Int32} {i2 : Int32} {i3 : Int32} {ws ws' : LWd} {v : Int32} (h : m_L_place a0 i1 i2 i3 q ws = some (v, ws')) : jSW yL_place wsL_place 7 1 6 [.ref a0, .int i1, .int i2, .int i3, .ref q] ws (.inl (some (.int v)), ws') := by
  unfold m_L_place wrp at h
  obtain ⟨r, w1, e1, h⟩ := obS2 h
  split at h
  · rename_i hl
    refine jh_entry (hh := [(0, 12, 15, 31), (0, 12, 19, 13), (0, 12, 23, 15)]) (ret := (some .int)) (nm := "place") (own := RL) pl_L rfl rfl rfl (jcats (by rfl)) (Nat.le_of_ble_eq_true rfl) ?_
    show JH [(0, 12, 15, 31), (0, 12, 19, 13), (0, 12, 23, 15)] cL_place 6 RL wsL_place (some .int) "place" 7 1 6 ws.length (.inl (some (.int v)), ws') 0 [some (.ref a0), some (.int i1), some (.int i2), some (.int i3), some (.ref q), none] [] ws 0 0
    refine jh_aload (pc := 0) dL_place_0 rfl ?_
    refine jh_iconst (pc := 2) dL_place_2 (v := 0) (by decide) ?_
    refine jh_aload_n (pc := 3) dL_place_3 rfl ?_
    refine jh_iload_n (pc := 4) dL_place_4 rfl ?_
    refine jh_iload_n (pc := 5) dL_place_5 rfl ?_
    refine jh_iload_n (pc := 6) dL_place_6 rfl ?_
    refine jh_callVX (pc := 7) (As := [.int i1, .int i2, .int i3]) (st := [.int 0, .ref q]) (k' := 1) (n' := 6) dL_place_7 (s_X10_place e1) (jlV ll_60 ll_61 ll_62 (jlw lw_147) ll_63) rfl hv_X10_place rfl (r_X10_place e1) rfl (by decide) (by decide) (Nat.le_of_ble_eq_true rfl) (by decide) (by decide) (by decide) (by decide) hl (fun u hu => ?_) (fun E hE => ?_)
    · cases r with
      | inr E => cases hu
      | inl x =>
        cases hu
        obtain ⟨w2, e2, h⟩ := obS h
        cases h
        refine j_i2l (pc := 10) dL_place_10 ?_
        refine j_last (pc := 11) dL_place_11 e2 ?_
        refine j_goto (pc := 12) (tgt := 27) dL_place_12 (by decide) ?_
        refine j_iconst (pc := 27) dL_place_27 (v := 0) (by decide) ?_
        exact j_iret (pc := 28) rfl dL_place_28 (by decide) (by decide) rfl
    · cases r with
      | inl x => cases hE
      | inr E1 =>
        cases hE
        obtain ⟨c, e2, h⟩ := Option.map_eq_some_iff.mp h
        cases h
        unfold xK3 at e2
        split at e2
        · rename_i hq
          subst hq
          cases e2
          refine ⟨15, ⟨[], (0, 12, 15, 31), [(0, 12, 19, 13), (0, 12, 23, 15)], rfl, fun z hz => absurd hz List.not_mem_nil, by decide, by decide, jlm ll_3, e_IOB, rfl⟩, ?_⟩
          refine jr_astore (pc := 15) [some (.ref a0), some (.int i1), some (.int i2), some (.int i3), some (.ref q)] dL_place_15 rfl (Nat.le_of_ble_eq_true rfl) rfl ?_
          refine j_iconst (pc := 17) dL_place_17 (v := 1) (by decide) ?_
          exact j_iret (pc := 18) rfl dL_place_18 (by decide) (by decide) rfl
        ·
          split at e2
          · rename_i hq
            subst hq
            cases e2
            refine ⟨19, ⟨[(0, 12, 15, 31)], (0, 12, 19, 13), [(0, 12, 23, 15)], rfl, List.forall_mem_cons.mpr ⟨⟨by decide, "java/lang/IndexOutOfBoundsException", jlm ll_3, jp_IAE_IOB⟩, fun _ h => absurd h List.not_mem_nil⟩, by decide, by decide, jlm ll_1, e_IAE, rfl⟩, ?_⟩
            refine jr_astore (pc := 19) [some (.ref a0), some (.int i1), some (.int i2), some (.int i3), some (.ref q)] dL_place_19 rfl (Nat.le_of_ble_eq_true rfl) rfl ?_
            refine j_iconst (pc := 21) dL_place_21 (v := 2) (by decide) ?_
            exact j_iret (pc := 22) rfl dL_place_22 (by decide) (by decide) rfl
          ·
            split at e2
            · rename_i hq
              subst hq
              cases e2
              refine ⟨23, ⟨[(0, 12, 15, 31), (0, 12, 19, 13)], (0, 12, 23, 15), [], rfl, List.forall_mem_cons.mpr ⟨⟨by decide, "java/lang/IndexOutOfBoundsException", jlm ll_3, jp_ISE_IOB⟩, List.forall_mem_cons.mpr ⟨⟨by decide, "java/lang/IllegalArgumentException", jlm ll_1, jp_ISE_IAE⟩, fun _ h => absurd h List.not_mem_nil⟩⟩, by decide, by decide, jlm ll_2, e_ISE, rfl⟩, ?_⟩
              refine jr_astore (pc := 23) [some (.ref a0), some (.int i1), some (.int i2), some (.int i3), some (.ref q)] dL_place_23 rfl (Nat.le_of_ble_eq_true rfl) rfl ?_
              refine j_iconst (pc := 25) dL_place_25 (v := 3) (by decide) ?_
              exact j_iret (pc := 26) rfl dL_place_26 (by decide) (by decide) rfl
            · cases e2
  · cases h
def wsL_shift : List Cond := Cond.codeWith yL_shift cL_shift 5 (some .int) [(0, 10, 13, 13), (0, 10, 17, 15)] :: jWL
def m_L_shift (a0 : Nat) (i1 : Int32) (i2 : Int32) (q : Nat) (ws : LWd) : Option (Int32 × LWd) := wrp (xK2 nIAE nISE) q ws (m_X10_shift a0 i1 i2 ws)
set_option maxRecDepth 100000 in
theorem s_L_shift {a0 q : Nat} {i1 : Int32} {i2 : Int32} {ws ws' : LWd} {v : Int32} (h : m_L_shift a0 i1 i2 q ws = some (v, ws')) : jSW yL_shift wsL_shift 7 1 6 [.ref a0, .int i1, .int i2, .ref q] ws (.inl (some (.int v)), ws') := by
  unfold m_L_shift wrp at h
  obtain ⟨r, w1, e1, h⟩ := obS2 h
  split at h
  · rename_i hl
    refine jh_entry (hh := [(0, 10, 13, 13), (0, 10, 17, 15)]) (ret := (some .int)) (nm := "shift") (own := RL) pl_L rfl rfl rfl (jcats (by rfl)) (Nat.le_of_ble_eq_true rfl) ?_
    show JH [(0, 10, 13, 13), (0, 10, 17, 15)] cL_shift 5 RL wsL_shift (some .int) "shift" 7 1 6 ws.length (.inl (some (.int v)), ws') 0 [some (.ref a0), some (.int i1), some (.int i2), some (.ref q), none] [] ws 0 0
    refine jh_aload_n (pc := 0) dL_shift_0 rfl ?_
    refine jh_iconst (pc := 1) dL_shift_1 (v := 0) (by decide) ?_
    refine jh_aload_n (pc := 2) dL_shift_2 rfl ?_
    refine jh_iload_n (pc := 3) dL_shift_3 rfl ?_
    refine jh_iload_n (pc := 4) dL_shift_4 rfl ?_
    refine jh_callVX (pc := 5) (As := [.int i1, .int i2]) (st := [.int 0, .ref q]) (k' := 1) (n' := 6) dL_shift_5 (s_X10_shift e1) (jlV ll_67 ll_68 ll_69 (jlw lw_147) ll_70) rfl hv_X10_shift rfl (r_X10_shift e1) rfl (by decide) (by decide) (Nat.le_of_ble_eq_true rfl) (by decide) (by decide) (by decide) (by decide) hl (fun u hu => ?_) (fun E hE => ?_)
    · cases r with
      | inr E => cases hu
      | inl x =>
        cases hu
        obtain ⟨w2, e2, h⟩ := obS h
        cases h
        refine j_i2l (pc := 8) dL_shift_8 ?_
        refine j_last (pc := 9) dL_shift_9 e2 ?_
        refine j_goto (pc := 10) (tgt := 21) dL_shift_10 (by decide) ?_
        refine j_iconst (pc := 21) dL_shift_21 (v := 0) (by decide) ?_
        exact j_iret (pc := 22) rfl dL_shift_22 (by decide) (by decide) rfl
    · cases r with
      | inl x => cases hE
      | inr E1 =>
        cases hE
        obtain ⟨c, e2, h⟩ := Option.map_eq_some_iff.mp h
        cases h
        unfold xK2 at e2
        split at e2
        · rename_i hq
          subst hq
          cases e2
          refine ⟨13, ⟨[], (0, 10, 13, 13), [(0, 10, 17, 15)], rfl, fun z hz => absurd hz List.not_mem_nil, by decide, by decide, jlm ll_1, e_IAE, rfl⟩, ?_⟩
          refine jr_astore (pc := 13) [some (.ref a0), some (.int i1), some (.int i2), some (.ref q)] dL_shift_13 rfl (Nat.le_of_ble_eq_true rfl) rfl ?_
          refine j_iconst (pc := 15) dL_shift_15 (v := 1) (by decide) ?_
          exact j_iret (pc := 16) rfl dL_shift_16 (by decide) (by decide) rfl
        ·
          split at e2
          · rename_i hq
            subst hq
            cases e2
            refine ⟨17, ⟨[(0, 10, 13, 13)], (0, 10, 17, 15), [], rfl, List.forall_mem_cons.mpr ⟨⟨by decide, "java/lang/IllegalArgumentException", jlm ll_1, jp_ISE_IAE⟩, fun _ h => absurd h List.not_mem_nil⟩, by decide, by decide, jlm ll_2, e_ISE, rfl⟩, ?_⟩
            refine jr_astore (pc := 17) [some (.ref a0), some (.int i1), some (.int i2), some (.ref q)] dL_shift_17 rfl (Nat.le_of_ble_eq_true rfl) rfl ?_
            refine j_iconst (pc := 19) dL_shift_19 (v := 2) (by decide) ?_
            exact j_iret (pc := 20) rfl dL_shift_20 (by decide) (by decide) rfl
          · cases e2
  · cases h
def wsL_walk : List Cond := Cond.codeWith yL_walk cL_walk 4 (some .int) [(0, 9, 12, 13), (0, 9, 15, 15)] :: jWL
def m_L_walk (a0 : Nat) (i1 : Int32) (q : Nat) (ws : LWd) : Option (Int32 × LWd) := wrp (xK2 nIAE nISE) q ws (m_X10_walk a0 i1 ws)
set_option maxRecDepth 100000 in
theorem s_L_walk {a0 q : Nat} {i1 : Int32} {ws ws' : LWd} {v : Int32} (h : m_L_walk a0 i1 q ws = some (v, ws')) : jSW yL_walk wsL_walk 7 1 6 [.ref a0, .int i1, .ref q] ws (.inl (some (.int v)), ws') := by
  unfold m_L_walk wrp at h
  obtain ⟨r, w1, e1, h⟩ := obS2 h
  split at h
  · rename_i hl
    refine jh_entry (hh := [(0, 9, 12, 13), (0, 9, 15, 15)]) (ret := (some .int)) (nm := "walk") (own := RL) pl_L rfl rfl rfl (jcats (by rfl)) (Nat.le_of_ble_eq_true rfl) ?_
    show JH [(0, 9, 12, 13), (0, 9, 15, 15)] cL_walk 4 RL wsL_walk (some .int) "walk" 7 1 6 ws.length (.inl (some (.int v)), ws') 0 [some (.ref a0), some (.int i1), some (.ref q), none] [] ws 0 0
    refine jh_aload_n (pc := 0) dL_walk_0 rfl ?_
    refine jh_iconst (pc := 1) dL_walk_1 (v := 0) (by decide) ?_
    refine jh_aload_n (pc := 2) dL_walk_2 rfl ?_
    refine jh_iload_n (pc := 3) dL_walk_3 rfl ?_
    refine jh_callVX (pc := 4) (As := [.int i1]) (st := [.int 0, .ref q]) (k' := 1) (n' := 6) dL_walk_4 (s_X10_walk e1) (jlV ll_74 ll_75 ll_76 (jlw lw_147) ll_77) rfl hv_X10_walk rfl (r_X10_walk e1) rfl (by decide) (by decide) (Nat.le_of_ble_eq_true rfl) (by decide) (by decide) (by decide) (by decide) hl (fun u hu => ?_) (fun E hE => ?_)
    · cases r with
      | inr E => cases hu
      | inl x =>
        cases hu
        obtain ⟨w2, e2, h⟩ := obS h
        cases h
        refine j_i2l (pc := 7) dL_walk_7 ?_
        refine j_last (pc := 8) dL_walk_8 e2 ?_
        refine j_goto (pc := 9) (tgt := 18) dL_walk_9 (by decide) ?_
        refine j_iconst (pc := 18) dL_walk_18 (v := 0) (by decide) ?_
        exact j_iret (pc := 19) rfl dL_walk_19 (by decide) (by decide) rfl
    · cases r with
      | inl x => cases hE
      | inr E1 =>
        cases hE
        obtain ⟨c, e2, h⟩ := Option.map_eq_some_iff.mp h
        cases h
        unfold xK2 at e2
        split at e2
        · rename_i hq
          subst hq
          cases e2
          refine ⟨12, ⟨[], (0, 9, 12, 13), [(0, 9, 15, 15)], rfl, fun z hz => absurd hz List.not_mem_nil, by decide, by decide, jlm ll_1, e_IAE, rfl⟩, ?_⟩
          refine jr_astore_n (pc := 12) [some (.ref a0), some (.int i1), some (.ref q)] dL_walk_12 rfl (Nat.le_of_ble_eq_true rfl) rfl ?_
          refine j_iconst (pc := 13) dL_walk_13 (v := 1) (by decide) ?_
          exact j_iret (pc := 14) rfl dL_walk_14 (by decide) (by decide) rfl
        ·
          split at e2
          · rename_i hq
            subst hq
            cases e2
            refine ⟨15, ⟨[(0, 9, 12, 13)], (0, 9, 15, 15), [], rfl, List.forall_mem_cons.mpr ⟨⟨by decide, "java/lang/IllegalArgumentException", jlm ll_1, jp_ISE_IAE⟩, fun _ h => absurd h List.not_mem_nil⟩, by decide, by decide, jlm ll_2, e_ISE, rfl⟩, ?_⟩
            refine jr_astore_n (pc := 15) [some (.ref a0), some (.int i1), some (.ref q)] dL_walk_15 rfl (Nat.le_of_ble_eq_true rfl) rfl ?_
            refine j_iconst (pc := 16) dL_walk_16 (v := 2) (by decide) ?_
            exact j_iret (pc := 17) rfl dL_walk_17 (by decide) (by decide) rfl
          · cases e2
  · cases h
def wsL_machine : List Cond := Cond.codeWith yL_machine cL_machine 4 (some .int) [(0, 9, 12, 13)] :: jWL
def m_L_machine (a0 : Nat) (i1 : Int32) (q : Nat) (ws : LWd) : Option (Int32 × LWd) := wrp (xK1 nIAE) q ws (m_X10_machine a0 i1 ws)
set_option maxRecDepth 100000 in
theorem s_L_machine {a0 q : Nat} {i1 : Int32} {ws ws' : LWd} {v : Int32} (h : m_L_machine a0 i1 q ws = some (v, ws')) : jSW yL_machine wsL_machine 7 1 6 [.ref a0, .int i1, .ref q] ws (.inl (some (.int v)), ws') := by
  unfold m_L_machine wrp at h
  obtain ⟨r, w1, e1, h⟩ := obS2 h
  split at h
  · rename_i hl
    refine jh_entry (hh := [(0, 9, 12, 13)]) (ret := (some .int)) (nm := "machine") (own := RL) pl_L rfl rfl rfl (jcats (by rfl)) (Nat.le_of_ble_eq_true rfl) ?_
    show JH [(0, 9, 12, 13)] cL_machine 4 RL wsL_machine (some .int) "machine" 7 1 6 ws.length (.inl (some (.int v)), ws') 0 [some (.ref a0), some (.int i1), some (.ref q), none] [] ws 0 0
    refine jh_aload_n (pc := 0) dL_machine_0 rfl ?_
    refine jh_iconst (pc := 1) dL_machine_1 (v := 0) (by decide) ?_
    refine jh_aload_n (pc := 2) dL_machine_2 rfl ?_
    refine jh_iload_n (pc := 3) dL_machine_3 rfl ?_
    refine jh_callVX (pc := 4) (As := [.int i1]) (st := [.int 0, .ref q]) (k' := 1) (n' := 6) dL_machine_4 (s_X10_machine e1) (jlV ll_81 ll_82 ll_83 (jlw lw_147) ll_84) rfl hv_X10_machine rfl (r_X10_machine e1) rfl (by decide) (by decide) (Nat.le_of_ble_eq_true rfl) (by decide) (by decide) (by decide) (by decide) hl (fun u hu => ?_) (fun E hE => ?_)
    · cases r with
      | inr E => cases hu
      | inl x =>
        cases hu
        obtain ⟨w2, e2, h⟩ := obS h
        cases h
        refine j_i2l (pc := 7) dL_machine_7 ?_
        refine j_last (pc := 8) dL_machine_8 e2 ?_
        refine j_goto (pc := 9) (tgt := 15) dL_machine_9 (by decide) ?_
        refine j_iconst (pc := 15) dL_machine_15 (v := 0) (by decide) ?_
        exact j_iret (pc := 16) rfl dL_machine_16 (by decide) (by decide) rfl
    · cases r with
      | inl x => cases hE
      | inr E1 =>
        cases hE
        obtain ⟨c, e2, h⟩ := Option.map_eq_some_iff.mp h
        cases h
        unfold xK1 at e2
        split at e2
        · rename_i hq
          subst hq
          cases e2
          refine ⟨12, ⟨[], (0, 9, 12, 13), [], rfl, fun z hz => absurd hz List.not_mem_nil, by decide, by decide, jlm ll_1, e_IAE, rfl⟩, ?_⟩
          refine jr_astore_n (pc := 12) [some (.ref a0), some (.int i1), some (.ref q)] dL_machine_12 rfl (Nat.le_of_ble_eq_true rfl) rfl ?_
          refine j_iconst (pc := 13) dL_machine_13 (v := 1) (by decide) ?_
          exact j_iret (pc := 14) rfl dL_machine_14 (by decide) (by decide) rfl
        · cases e2
  · cases h
def wsL_foot : List Cond := Cond.codeWith yL_foot cL_foot 5 (some .int) [(0, 10, 13, 31), (0, 10, 17, 13)] :: jWL
def m_L_foot (a0 : Nat) (i1 : Int32) (i2 : Int32) (q : Nat) (ws : LWd) : Option (Int32 × LWd) := wrp (xK2 nIOB nIAE) q ws (m_X10_foot a0 i1 i2 ws)
set_option maxRecDepth 100000 in
theorem s_L_foot {a0 q : Nat} {i1 : Int32} {i2 : Int32} {ws ws' : LWd} {v : Int32} (h : m_L_foot a0 i1 i2 q ws = some (v, ws')) : jSW yL_foot wsL_foot 7 1 6 [.ref a0, .int i1, .int i2, .ref q] ws (.inl (some (.int v)), ws') := by
  unfold m_L_foot wrp at h
  obtain ⟨r, w1, e1, h⟩ := obS2 h
  split at h
  · rename_i hl
    refine jh_entry (hh := [(0, 10, 13, 31), (0, 10, 17, 13)]) (ret := (some .int)) (nm := "foot") (own := RL) pl_L rfl rfl rfl (jcats (by rfl)) (Nat.le_of_ble_eq_true rfl) ?_
    show JH [(0, 10, 13, 31), (0, 10, 17, 13)] cL_foot 5 RL wsL_foot (some .int) "foot" 7 1 6 ws.length (.inl (some (.int v)), ws') 0 [some (.ref a0), some (.int i1), some (.int i2), some (.ref q), none] [] ws 0 0
    refine jh_aload_n (pc := 0) dL_foot_0 rfl ?_
    refine jh_iconst (pc := 1) dL_foot_1 (v := 0) (by decide) ?_
    refine jh_aload_n (pc := 2) dL_foot_2 rfl ?_
    refine jh_iload_n (pc := 3) dL_foot_3 rfl ?_
    refine jh_iload_n (pc := 4) dL_foot_4 rfl ?_
    refine jh_callVX (pc := 5) (As := [.int i1, .int i2]) (st := [.int 0, .ref q]) (k' := 1) (n' := 6) dL_foot_5 (s_X10_foot e1) (jlV ll_88 ll_89 ll_90 (jlw lw_147) ll_91) rfl hv_X10_foot rfl (r_X10_foot e1) rfl (by decide) (by decide) (Nat.le_of_ble_eq_true rfl) (by decide) (by decide) (by decide) (by decide) hl (fun u hu => ?_) (fun E hE => ?_)
    · cases r with
      | inr E => cases hu
      | inl x =>
        cases hu
        obtain ⟨w2, e2, h⟩ := obS h
        cases h
        refine j_i2l (pc := 8) dL_foot_8 ?_
        refine j_last (pc := 9) dL_foot_9 e2 ?_
        refine j_goto (pc := 10) (tgt := 21) dL_foot_10 (by decide) ?_
        refine j_iconst (pc := 21) dL_foot_21 (v := 0) (by decide) ?_
        exact j_iret (pc := 22) rfl dL_foot_22 (by decide) (by decide) rfl
    · cases r with
      | inl x => cases hE
      | inr E1 =>
        cases hE
        obtain ⟨c, e2, h⟩ := Option.map_eq_some_iff.mp h
        cases h
        unfold xK2 at e2
        split at e2
        · rename_i hq
          subst hq
          cases e2
          refine ⟨13, ⟨[], (0, 10, 13, 31), [(0, 10, 17, 13)], rfl, fun z hz => absurd hz List.not_mem_nil, by decide, by decide, jlm ll_3, e_IOB, rfl⟩, ?_⟩
          refine jr_astore (pc := 13) [some (.ref a0), some (.int i1), some (.int i2), some (.ref q)] dL_foot_13 rfl (Nat.le_of_ble_eq_true rfl) rfl ?_
          refine j_iconst (pc := 15) dL_foot_15 (v := 1) (by decide) ?_
          exact j_iret (pc := 16) rfl dL_foot_16 (by decide) (by decide) rfl
        ·
          split at e2
          · rename_i hq
            subst hq
            cases e2
            refine ⟨17, ⟨[(0, 10, 13, 31)], (0, 10, 17, 13), [], rfl, List.forall_mem_cons.mpr ⟨⟨by decide, "java/lang/IndexOutOfBoundsException", jlm ll_3, jp_IAE_IOB⟩, fun _ h => absurd h List.not_mem_nil⟩, by decide, by decide, jlm ll_1, e_IAE, rfl⟩, ?_⟩
            refine jr_astore (pc := 17) [some (.ref a0), some (.int i1), some (.int i2), some (.ref q)] dL_foot_17 rfl (Nat.le_of_ble_eq_true rfl) rfl ?_
            refine j_iconst (pc := 19) dL_foot_19 (v := 2) (by decide) ?_
            exact j_iret (pc := 20) rfl dL_foot_20 (by decide) (by decide) rfl
          · cases e2
  · cases h
def wsL_point : List Cond := Cond.codeWith yL_point cL_point 6 (some .int) [(0, 12, 15, 13)] :: jWL
def m_L_point (a0 : Nat) (i1 : Int32) (i2 : Int32) (i3 : Int32) (q : Nat) (ws : LWd) : Option (Int32 × LWd) := wrp (xK1 nIAE) q ws (m_X10_point a0 i1 i2 i3 ws)
set_option maxRecDepth 100000 in
theorem s_L_point {a0 q : Nat} {i1 : Int32} {i2 : Int32} {i3 : Int32} {ws ws' : LWd} {v : Int32} (h : m_L_point a0 i1 i2 i3 q ws = some (v, ws')) : jSW yL_point wsL_point 7 1 6 [.ref a0, .int i1, .int i2, .int i3, .ref q] ws (.inl (some (.int v)), ws') := by
  unfold m_L_point wrp at h
  obtain ⟨r, w1, e1, h⟩ := obS2 h
  split at h
  · rename_i hl
    refine jh_entry (hh := [(0, 12, 15, 13)]) (ret := (some .int)) (nm := "point") (own := RL) pl_L rfl rfl rfl (jcats (by rfl)) (Nat.le_of_ble_eq_true rfl) ?_
    show JH [(0, 12, 15, 13)] cL_point 6 RL wsL_point (some .int) "point" 7 1 6 ws.length (.inl (some (.int v)), ws') 0 [some (.ref a0), some (.int i1), some (.int i2), some (.int i3), some (.ref q), none] [] ws 0 0
    refine jh_aload (pc := 0) dL_point_0 rfl ?_
    refine jh_iconst (pc := 2) dL_point_2 (v := 0) (by decide) ?_
    refine jh_aload_n (pc := 3) dL_point_3 rfl ?_
    refine jh_iload_n (pc := 4) dL_point_4 rfl ?_
    refine jh_iload_n (pc := 5) dL_point_5 rfl ?_
    refine jh_iload_n (pc := 6) dL_point_6 rfl ?_
    refine jh_callVX (pc := 7) (As := [.int i1, .int i2, .int i3]) (st := [.int 0, .ref q]) (k' := 1) (n' := 6) dL_point_7 (s_X10_point e1) (jlV ll_95 ll_96 ll_97 (jlw lw_147) ll_98) rfl hv_X10_point rfl (r_X10_point e1) rfl (by decide) (by decide) (Nat.le_of_ble_eq_true rfl) (by decide) (by decide) (by decide) (by decide) hl (fun u hu => ?_) (fun E hE => ?_)
    · cases r with
      | inr E => cases hu
      | inl x =>
        cases hu
        obtain ⟨w2, e2, h⟩ := obS h
        cases h
        refine j_i2l (pc := 10) dL_point_10 ?_
        refine j_last (pc := 11) dL_point_11 e2 ?_
        refine j_goto (pc := 12) (tgt := 19) dL_point_12 (by decide) ?_
        refine j_iconst (pc := 19) dL_point_19 (v := 0) (by decide) ?_
        exact j_iret (pc := 20) rfl dL_point_20 (by decide) (by decide) rfl
    · cases r with
      | inl x => cases hE
      | inr E1 =>
        cases hE
        obtain ⟨c, e2, h⟩ := Option.map_eq_some_iff.mp h
        cases h
        unfold xK1 at e2
        split at e2
        · rename_i hq
          subst hq
          cases e2
          refine ⟨15, ⟨[], (0, 12, 15, 13), [], rfl, fun z hz => absurd hz List.not_mem_nil, by decide, by decide, jlm ll_1, e_IAE, rfl⟩, ?_⟩
          refine jr_astore (pc := 15) [some (.ref a0), some (.int i1), some (.int i2), some (.int i3), some (.ref q)] dL_point_15 rfl (Nat.le_of_ble_eq_true rfl) rfl ?_
          refine j_iconst (pc := 17) dL_point_17 (v := 1) (by decide) ?_
          exact j_iret (pc := 18) rfl dL_point_18 (by decide) (by decide) rfl
        · cases e2
  · cases h
def wsL_corner : List Cond := Cond.codeWith yL_corner cL_corner 4 (some .int) [(0, 9, 12, 13)] :: jWL
def m_L_corner (a0 : Nat) (i1 : Int32) (q : Nat) (ws : LWd) : Option (Int32 × LWd) := wrp (xK1 nIAE) q ws (m_X10_corner a0 i1 ws)
set_option maxRecDepth 100000 in
theorem s_L_corner {a0 q : Nat} {i1 : Int32} {ws ws' : LWd} {v : Int32} (h : m_L_corner a0 i1 q ws = some (v, ws')) : jSW yL_corner wsL_corner 7 1 6 [.ref a0, .int i1, .ref q] ws (.inl (some (.int v)), ws') := by
  unfold m_L_corner wrp at h
  obtain ⟨r, w1, e1, h⟩ := obS2 h
  split at h
  · rename_i hl
    refine jh_entry (hh := [(0, 9, 12, 13)]) (ret := (some .int)) (nm := "corner") (own := RL) pl_L rfl rfl rfl (jcats (by rfl)) (Nat.le_of_ble_eq_true rfl) ?_
    show JH [(0, 9, 12, 13)] cL_corner 4 RL wsL_corner (some .int) "corner" 7 1 6 ws.length (.inl (some (.int v)), ws') 0 [some (.ref a0), some (.int i1), some (.ref q), none] [] ws 0 0
    refine jh_aload_n (pc := 0) dL_corner_0 rfl ?_
    refine jh_iconst (pc := 1) dL_corner_1 (v := 0) (by decide) ?_
    refine jh_aload_n (pc := 2) dL_corner_2 rfl ?_
    refine jh_iload_n (pc := 3) dL_corner_3 rfl ?_
    refine jh_callVX (pc := 4) (As := [.int i1]) (st := [.int 0, .ref q]) (k' := 1) (n' := 6) dL_corner_4 (s_X10_corner e1) (jlV ll_102 ll_103 ll_104 (jlw lw_147) ll_105) rfl hv_X10_corner rfl (r_X10_corner e1) rfl (by decide) (by decide) (Nat.le_of_ble_eq_true rfl) (by decide) (by decide) (by decide) (by decide) hl (fun u hu => ?_) (fun E hE => ?_)
    · cases r with
      | inr E => cases hu
      | inl x =>
        cases hu
        obtain ⟨w2, e2, h⟩ := obS h
        cases h
        refine j_i2l (pc := 7) dL_corner_7 ?_
        refine j_last (pc := 8) dL_corner_8 e2 ?_
        refine j_goto (pc := 9) (tgt := 15) dL_corner_9 (by decide) ?_
        refine j_iconst (pc := 15) dL_corner_15 (v := 0) (by decide) ?_
        exact j_iret (pc := 16) rfl dL_corner_16 (by decide) (by decide) rfl
    · cases r with
      | inl x => cases hE
      | inr E1 =>
        cases hE
        obtain ⟨c, e2, h⟩ := Option.map_eq_some_iff.mp h
        cases h
        unfold xK1 at e2
        split at e2
        · rename_i hq
          subst hq
          cases e2
          refine ⟨12, ⟨[], (0, 9, 12, 13), [], rfl, fun z hz => absurd hz List.not_mem_nil, by decide, by decide, jlm ll_1, e_IAE, rfl⟩, ?_⟩
          refine jr_astore_n (pc := 12) [some (.ref a0), some (.int i1), some (.ref q)] dL_corner_12 rfl (Nat.le_of_ble_eq_true rfl) rfl ?_
          refine j_iconst (pc := 13) dL_corner_13 (v := 1) (by decide) ?_
          exact j_iret (pc := 14) rfl dL_corner_14 (by decide) (by decide) rfl
        · cases e2
  · cases h
def wsL_foothold : List Cond := Cond.codeWith yL_foothold cL_foothold 4 (some .int) [(0, 9, 12, 31)] :: jWL
def m_L_foothold (a0 : Nat) (i1 : Int32) (q : Nat) (ws : LWd) : Option (Int32 × LWd) := wrp (xK1 nIOB) q ws (m_X10_foothold a0 i1 ws)
set_option maxRecDepth 100000 in
theorem s_L_foothold {a0 q : Nat} {i1 : Int32} {ws ws' : LWd} {v : Int32} (h : m_L_foothold a0 i1 q ws = some (v, ws')) : jSW yL_foothold wsL_foothold 7 1 6 [.ref a0, .int i1, .ref q] ws (.inl (some (.int v)), ws') := by
  unfold m_L_foothold wrp at h
  obtain ⟨r, w1, e1, h⟩ := obS2 h
  split at h
  · rename_i hl
    refine jh_entry (hh := [(0, 9, 12, 31)]) (ret := (some .int)) (nm := "foothold") (own := RL) pl_L rfl rfl rfl (jcats (by rfl)) (Nat.le_of_ble_eq_true rfl) ?_
    show JH [(0, 9, 12, 31)] cL_foothold 4 RL wsL_foothold (some .int) "foothold" 7 1 6 ws.length (.inl (some (.int v)), ws') 0 [some (.ref a0), some (.int i1), some (.ref q), none] [] ws 0 0
    refine jh_aload_n (pc := 0) dL_foothold_0 rfl ?_
    refine jh_iconst (pc := 1) dL_foothold_1 (v := 0) (by decide) ?_
    refine jh_aload_n (pc := 2) dL_foothold_2 rfl ?_
    refine jh_iload_n (pc := 3) dL_foothold_3 rfl ?_
    refine jh_callVX (pc := 4) (As := [.int i1]) (st := [.int 0, .ref q]) (k' := 1) (n' := 6) dL_foothold_4 (s_X10_foothold e1) (jlV ll_109 ll_110 ll_111 (jlw lw_147) ll_112) rfl hv_X10_foothold rfl (r_X10_foothold e1) rfl (by decide) (by decide) (Nat.le_of_ble_eq_true rfl) (by decide) (by decide) (by decide) (by decide) hl (fun u hu => ?_) (fun E hE => ?_)
    · cases r with
      | inr E => cases hu
      | inl x =>
        cases hu
        obtain ⟨w2, e2, h⟩ := obS h
        cases h
        refine j_i2l (pc := 7) dL_foothold_7 ?_
        refine j_last (pc := 8) dL_foothold_8 e2 ?_
        refine j_goto (pc := 9) (tgt := 15) dL_foothold_9 (by decide) ?_
        refine j_iconst (pc := 15) dL_foothold_15 (v := 0) (by decide) ?_
        exact j_iret (pc := 16) rfl dL_foothold_16 (by decide) (by decide) rfl
    · cases r with
      | inl x => cases hE
      | inr E1 =>
        cases hE
        obtain ⟨c, e2, h⟩ := Option.map_eq_some_iff.mp h
        cases h
        unfold xK1 at e2
        split at e2
        · rename_i hq
          subst hq
          cases e2
          refine ⟨12, ⟨[], (0, 9, 12, 31), [], rfl, fun z hz => absurd hz List.not_mem_nil, by decide, by decide, jlm ll_3, e_IOB, rfl⟩, ?_⟩
          refine jr_astore_n (pc := 12) [some (.ref a0), some (.int i1), some (.ref q)] dL_foothold_12 rfl (Nat.le_of_ble_eq_true rfl) rfl ?_
          refine j_iconst (pc := 13) dL_foothold_13 (v := 1) (by decide) ?_
          exact j_iret (pc := 14) rfl dL_foothold_14 (by decide) (by decide) rfl
        · cases e2
  · cases h
def wsL_wouldLift : List Cond := Cond.codeWith yL_wouldLift cL_wouldLift 4 (some .int) [(0, 9, 12, 31)] :: jWL
def m_L_wouldLift (a0 : Nat) (i1 : Int32) (q : Nat) (ws : LWd) : Option (Int32 × LWd) := wrp (xK1 nIOB) q ws (m_X10_wouldLift a0 i1 ws)
set_option maxRecDepth 100000 in
theorem s_L_wouldLift {a0 q : Nat} {i1 : Int32} {ws ws' : LWd} {v : Int32} (h : m_L_wouldLift a0 i1 q ws = some (v, ws')) : jSW yL_wouldLift wsL_wouldLift 7 1 6 [.ref a0, .int i1, .ref q] ws (.inl (some (.int v)), ws') := by
  unfold m_L_wouldLift wrp at h
  obtain ⟨r, w1, e1, h⟩ := obS2 h
  split at h
  · rename_i hl
    refine jh_entry (hh := [(0, 9, 12, 31)]) (ret := (some .int)) (nm := "wouldLift") (own := RL) pl_L rfl rfl rfl (jcats (by rfl)) (Nat.le_of_ble_eq_true rfl) ?_
    show JH [(0, 9, 12, 31)] cL_wouldLift 4 RL wsL_wouldLift (some .int) "wouldLift" 7 1 6 ws.length (.inl (some (.int v)), ws') 0 [some (.ref a0), some (.int i1), some (.ref q), none] [] ws 0 0
    refine jh_aload_n (pc := 0) dL_wouldLift_0 rfl ?_
    refine jh_iconst (pc := 1) dL_wouldLift_1 (v := 0) (by decide) ?_
    refine jh_aload_n (pc := 2) dL_wouldLift_2 rfl ?_
    refine jh_iload_n (pc := 3) dL_wouldLift_3 rfl ?_
    refine jh_callVX (pc := 4) (As := [.int i1]) (st := [.int 0, .ref q]) (k' := 1) (n' := 6) dL_wouldLift_4 (s_X10_wouldLift e1) (jlV ll_116 ll_117 ll_118 (jlw lw_147) ll_119) rfl hv_X10_wouldLift rfl (r_X10_wouldLift e1) rfl (by decide) (by decide) (Nat.le_of_ble_eq_true rfl) (by decide) (by decide) (by decide) (by decide) hl (fun u hu => ?_) (fun E hE => ?_)
    · cases r with
      | inr E => cases hu
      | inl x =>
        cases hu
        obtain ⟨w2, e2, h⟩ := obS h
        cases h
        refine j_i2l (pc := 7) dL_wouldLift_7 ?_
        refine j_last (pc := 8) dL_wouldLift_8 e2 ?_
        refine j_goto (pc := 9) (tgt := 15) dL_wouldLift_9 (by decide) ?_
        refine j_iconst (pc := 15) dL_wouldLift_15 (v := 0) (by decide) ?_
        exact j_iret (pc := 16) rfl dL_wouldLift_16 (by decide) (by decide) rfl
    · cases r with
      | inl x => cases hE
      | inr E1 =>
        cases hE
        obtain ⟨c, e2, h⟩ := Option.map_eq_some_iff.mp h
        cases h
        unfold xK1 at e2
        split at e2
        · rename_i hq
          subst hq
          cases e2
          refine ⟨12, ⟨[], (0, 9, 12, 31), [], rfl, fun z hz => absurd hz List.not_mem_nil, by decide, by decide, jlm ll_3, e_IOB, rfl⟩, ?_⟩
          refine jr_astore_n (pc := 12) [some (.ref a0), some (.int i1), some (.ref q)] dL_wouldLift_12 rfl (Nat.le_of_ble_eq_true rfl) rfl ?_
          refine j_iconst (pc := 13) dL_wouldLift_13 (v := 1) (by decide) ?_
          exact j_iret (pc := 14) rfl dL_wouldLift_14 (by decide) (by decide) rfl
        · cases e2
  · cases h
def wsL_fewest : List Cond := Cond.codeWith yL_fewest cL_fewest 5 (some .int) [(0, 10, 13, 13)] :: jWL
def m_L_fewest (a0 : Nat) (i1 : Int32) (i2 : Int32) (q : Nat) (ws : LWd) : Option (Int32 × LWd) := wrp (xK1 nIAE) q ws (m_X10_fewest a0 i1 i2 ws)
set_option maxRecDepth 100000 in
theorem s_L_fewest {a0 q : Nat} {i1 : Int32} {i2 : Int32} {ws ws' : LWd} {v : Int32} (h : m_L_fewest a0 i1 i2 q ws = some (v, ws')) : jSW yL_fewest wsL_fewest 11 1 6 [.ref a0, .int i1, .int i2, .ref q] ws (.inl (some (.int v)), ws') := by
  unfold m_L_fewest wrp at h
  obtain ⟨r, w1, e1, h⟩ := obS2 h
  split at h
  · rename_i hl
    refine jh_entry (hh := [(0, 10, 13, 13)]) (ret := (some .int)) (nm := "fewest") (own := RL) pl_L rfl rfl rfl (jcats (by rfl)) (Nat.le_of_ble_eq_true rfl) ?_
    show JH [(0, 10, 13, 13)] cL_fewest 5 RL wsL_fewest (some .int) "fewest" 11 1 6 ws.length (.inl (some (.int v)), ws') 0 [some (.ref a0), some (.int i1), some (.int i2), some (.ref q), none] [] ws 0 0
    refine jh_aload_n (pc := 0) dL_fewest_0 rfl ?_
    refine jh_iconst (pc := 1) dL_fewest_1 (v := 0) (by decide) ?_
    refine jh_aload_n (pc := 2) dL_fewest_2 rfl ?_
    refine jh_iload_n (pc := 3) dL_fewest_3 rfl ?_
    refine jh_iload_n (pc := 4) dL_fewest_4 rfl ?_
    refine jh_callVX (pc := 5) (As := [.int i1, .int i2]) (st := [.int 0, .ref q]) (k' := 1) (n' := 6) dL_fewest_5 (s_X10_fewest e1) (jlV ll_123 ll_124 ll_125 (jlw lw_147) ll_126) rfl hv_X10_fewest rfl (r_X10_fewest e1) rfl (by decide) (by decide) (Nat.le_of_ble_eq_true rfl) (by decide) (by decide) (by decide) (by decide) hl (fun u hu => ?_) (fun E hE => ?_)
    · cases r with
      | inr E => cases hu
      | inl x =>
        cases hu
        obtain ⟨w2, e2, h⟩ := obS h
        cases h
        refine j_i2l (pc := 8) dL_fewest_8 ?_
        refine j_last (pc := 9) dL_fewest_9 e2 ?_
        refine j_goto (pc := 10) (tgt := 17) dL_fewest_10 (by decide) ?_
        refine j_iconst (pc := 17) dL_fewest_17 (v := 0) (by decide) ?_
        exact j_iret (pc := 18) rfl dL_fewest_18 (by decide) (by decide) rfl
    · cases r with
      | inl x => cases hE
      | inr E1 =>
        cases hE
        obtain ⟨c, e2, h⟩ := Option.map_eq_some_iff.mp h
        cases h
        unfold xK1 at e2
        split at e2
        · rename_i hq
          subst hq
          cases e2
          refine ⟨13, ⟨[], (0, 10, 13, 13), [], rfl, fun z hz => absurd hz List.not_mem_nil, by decide, by decide, jlm ll_1, e_IAE, rfl⟩, ?_⟩
          refine jr_astore (pc := 13) [some (.ref a0), some (.int i1), some (.int i2), some (.ref q)] dL_fewest_13 rfl (Nat.le_of_ble_eq_true rfl) rfl ?_
          refine j_iconst (pc := 15) dL_fewest_15 (v := 1) (by decide) ?_
          exact j_iret (pc := 16) rfl dL_fewest_16 (by decide) (by decide) rfl
        · cases e2
  · cases h
def wsL_fewestAnew : List Cond := Cond.codeWith yL_fewestAnew cL_fewestAnew 5 (some .int) [(0, 10, 13, 13)] :: jWL
def m_L_fewestAnew (a0 : Nat) (i1 : Int32) (i2 : Int32) (q : Nat) (ws : LWd) : Option (Int32 × LWd) := wrp (xK1 nIAE) q ws (m_X10_fewestAnew a0 i1 i2 ws)
set_option maxRecDepth 100000 in
theorem s_L_fewestAnew {a0 q : Nat} {i1 : Int32} {i2 : Int32} {ws ws' : LWd} {v : Int32} (h : m_L_fewestAnew a0 i1 i2 q ws = some (v, ws')) : jSW yL_fewestAnew wsL_fewestAnew 11 1 6 [.ref a0, .int i1, .int i2, .ref q] ws (.inl (some (.int v)), ws') := by
  unfold m_L_fewestAnew wrp at h
  obtain ⟨r, w1, e1, h⟩ := obS2 h
  split at h
  · rename_i hl
    refine jh_entry (hh := [(0, 10, 13, 13)]) (ret := (some .int)) (nm := "fewestAnew") (own := RL) pl_L rfl rfl rfl (jcats (by rfl)) (Nat.le_of_ble_eq_true rfl) ?_
    show JH [(0, 10, 13, 13)] cL_fewestAnew 5 RL wsL_fewestAnew (some .int) "fewestAnew" 11 1 6 ws.length (.inl (some (.int v)), ws') 0 [some (.ref a0), some (.int i1), some (.int i2), some (.ref q), none] [] ws 0 0
    refine jh_aload_n (pc := 0) dL_fewestAnew_0 rfl ?_
    refine jh_iconst (pc := 1) dL_fewestAnew_1 (v := 0) (by decide) ?_
    refine jh_aload_n (pc := 2) dL_fewestAnew_2 rfl ?_
    refine jh_iload_n (pc := 3) dL_fewestAnew_3 rfl ?_
    refine jh_iload_n (pc := 4) dL_fewestAnew_4 rfl ?_
    refine jh_callVX (pc := 5) (As := [.int i1, .int i2]) (st := [.int 0, .ref q]) (k' := 1) (n' := 6) dL_fewestAnew_5 (s_X10_fewestAnew e1) (jlV ll_130 ll_131 ll_132 (jlw lw_147) ll_133) rfl hv_X10_fewestAnew rfl (r_X10_fewestAnew e1) rfl (by decide) (by decide) (Nat.le_of_ble_eq_true rfl) (by decide) (by decide) (by decide) (by decide) hl (fun u hu => ?_) (fun E hE => ?_)
    · cases r with
      | inr E => cases hu
      | inl x =>
        cases hu
        obtain ⟨w2, e2, h⟩ := obS h
        cases h
        refine j_i2l (pc := 8) dL_fewestAnew_8 ?_
        refine j_last (pc := 9) dL_fewestAnew_9 e2 ?_
        refine j_goto (pc := 10) (tgt := 17) dL_fewestAnew_10 (by decide) ?_
        refine j_iconst (pc := 17) dL_fewestAnew_17 (v := 0) (by decide) ?_
        exact j_iret (pc := 18) rfl dL_fewestAnew_18 (by decide) (by decide) rfl
    · cases r with
      | inl x => cases hE
      | inr E1 =>
        cases hE
        obtain ⟨c, e2, h⟩ := Option.map_eq_some_iff.mp h
        cases h
        unfold xK1 at e2
        split at e2
        · rename_i hq
          subst hq
          cases e2
          refine ⟨13, ⟨[], (0, 10, 13, 13), [], rfl, fun z hz => absurd hz List.not_mem_nil, by decide, by decide, jlm ll_1, e_IAE, rfl⟩, ?_⟩
          refine jr_astore (pc := 13) [some (.ref a0), some (.int i1), some (.int i2), some (.ref q)] dL_fewestAnew_13 rfl (Nat.le_of_ble_eq_true rfl) rfl ?_
          refine j_iconst (pc := 15) dL_fewestAnew_15 (v := 1) (by decide) ?_
          exact j_iret (pc := 16) rfl dL_fewestAnew_16 (by decide) (by decide) rfl
        · cases e2
  · cases h
def wsL_fall : List Cond := Cond.codeWith yL_fall cL_fall 5 (some .int) [(0, 10, 13, 31), (0, 10, 17, 13)] :: jWL
def m_L_fall (a0 : Nat) (i1 : Int32) (i2 : Int32) (q : Nat) (ws : LWd) : Option (Int32 × LWd) := wrp (xK2 nIOB nIAE) q ws (m_X10_fall a0 i1 i2 ws)
set_option maxRecDepth 100000 in
theorem s_L_fall {a0 q : Nat} {i1 : Int32} {i2 : Int32} {ws ws' : LWd} {v : Int32} (h : m_L_fall a0 i1 i2 q ws = some (v, ws')) : jSW yL_fall wsL_fall 7 1 6 [.ref a0, .int i1, .int i2, .ref q] ws (.inl (some (.int v)), ws') := by
  unfold m_L_fall wrp at h
  obtain ⟨r, w1, e1, h⟩ := obS2 h
  split at h
  · rename_i hl
    refine jh_entry (hh := [(0, 10, 13, 31), (0, 10, 17, 13)]) (ret := (some .int)) (nm := "fall") (own := RL) pl_L rfl rfl rfl (jcats (by rfl)) (Nat.le_of_ble_eq_true rfl) ?_
    show JH [(0, 10, 13, 31), (0, 10, 17, 13)] cL_fall 5 RL wsL_fall (some .int) "fall" 7 1 6 ws.length (.inl (some (.int v)), ws') 0 [some (.ref a0), some (.int i1), some (.int i2), some (.ref q), none] [] ws 0 0
    refine jh_aload_n (pc := 0) dL_fall_0 rfl ?_
    refine jh_iconst (pc := 1) dL_fall_1 (v := 0) (by decide) ?_
    refine jh_aload_n (pc := 2) dL_fall_2 rfl ?_
    refine jh_iload_n (pc := 3) dL_fall_3 rfl ?_
    refine jh_iload_n (pc := 4) dL_fall_4 rfl ?_
    refine jh_callVX (pc := 5) (As := [.int i1, .int i2]) (st := [.int 0, .ref q]) (k' := 1) (n' := 6) dL_fall_5 (s_X10_fall e1) (jlV ll_137 ll_138 ll_139 (jlw lw_147) ll_140) rfl hv_X10_fall rfl (r_X10_fall e1) rfl (by decide) (by decide) (Nat.le_of_ble_eq_true rfl) (by decide) (by decide) (by decide) (by decide) hl (fun u hu => ?_) (fun E hE => ?_)
    · cases r with
      | inr E => cases hu
      | inl x =>
        cases hu
        obtain ⟨w2, e2, h⟩ := obS h
        cases h
        refine j_i2l (pc := 8) dL_fall_8 ?_
        refine j_last (pc := 9) dL_fall_9 e2 ?_
        refine j_goto (pc := 10) (tgt := 21) dL_fall_10 (by decide) ?_
        refine j_iconst (pc := 21) dL_fall_21 (v := 0) (by decide) ?_
        exact j_iret (pc := 22) rfl dL_fall_22 (by decide) (by decide) rfl
    · cases r with
      | inl x => cases hE
      | inr E1 =>
        cases hE
        obtain ⟨c, e2, h⟩ := Option.map_eq_some_iff.mp h
        cases h
        unfold xK2 at e2
        split at e2
        · rename_i hq
          subst hq
          cases e2
          refine ⟨13, ⟨[], (0, 10, 13, 31), [(0, 10, 17, 13)], rfl, fun z hz => absurd hz List.not_mem_nil, by decide, by decide, jlm ll_3, e_IOB, rfl⟩, ?_⟩
          refine jr_astore (pc := 13) [some (.ref a0), some (.int i1), some (.int i2), some (.ref q)] dL_fall_13 rfl (Nat.le_of_ble_eq_true rfl) rfl ?_
          refine j_iconst (pc := 15) dL_fall_15 (v := 1) (by decide) ?_
          exact j_iret (pc := 16) rfl dL_fall_16 (by decide) (by decide) rfl
        ·
          split at e2
          · rename_i hq
            subst hq
            cases e2
            refine ⟨17, ⟨[(0, 10, 13, 31)], (0, 10, 17, 13), [], rfl, List.forall_mem_cons.mpr ⟨⟨by decide, "java/lang/IndexOutOfBoundsException", jlm ll_3, jp_IAE_IOB⟩, fun _ h => absurd h List.not_mem_nil⟩, by decide, by decide, jlm ll_1, e_IAE, rfl⟩, ?_⟩
            refine jr_astore (pc := 17) [some (.ref a0), some (.int i1), some (.int i2), some (.ref q)] dL_fall_17 rfl (Nat.le_of_ble_eq_true rfl) rfl ?_
            refine j_iconst (pc := 19) dL_fall_19 (v := 2) (by decide) ?_
            exact j_iret (pc := 20) rfl dL_fall_20 (by decide) (by decide) rfl
          · cases e2
  · cases h
