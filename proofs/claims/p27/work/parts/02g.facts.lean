/-! facts of names: written by wip/p27/make.py -/
theorem pl_J6 : plainName RJ6 = true := by decide +kernel
theorem pl_J7 : plainName RJ7 = true := by decide +kernel
theorem pl_L : plainName RL = true := by decide +kernel
theorem pl_X0 : plainName RX0 = true := by decide +kernel
theorem pl_X1 : plainName RX1 = true := by decide +kernel
theorem pl_X10 : plainName RX10 = true := by decide +kernel
theorem pl_X2 : plainName RX2 = true := by decide +kernel
theorem pl_X3 : plainName RX3 = true := by decide +kernel
theorem pl_X4 : plainName RX4 = true := by decide +kernel
theorem pl_X5 : plainName RX5 = true := by decide +kernel
theorem pl_X6 : plainName RX6 = true := by decide +kernel
theorem pl_X7 : plainName RX7 = true := by decide +kernel
theorem pl_X8 : plainName RX8 = true := by decide +kernel
theorem pl_X9 : plainName RX9 = true := by decide +kernel
theorem hy_J7_fill_53178 : yJ7_fill_53178.cls ≠ "java/lang/invoke/MethodHandle" ∧ yJ7_fill_53178.cls ≠ "java/lang/invoke/VarHandle" ∧ (parseMethodDescriptor yJ7_fill_53178.desc).map (fun d => d.parameters.length) = some 2 := by decide +kernel
theorem hv_J7_fill_53178 : yJ7_fill_53178.cls = RJ7 ∧ yJ7_fill_53178.cls ≠ "java/lang/invoke/MethodHandle" ∧ yJ7_fill_53178.cls ≠ "java/lang/invoke/VarHandle" ∧ (parseMethodDescriptor yJ7_fill_53178.desc).map (fun d => d.parameters.length) = some 2 := ⟨rfl, hy_J7_fill_53178⟩
theorem hy_X8_init : yX8_init.cls ≠ "java/lang/invoke/MethodHandle" ∧ yX8_init.cls ≠ "java/lang/invoke/VarHandle" ∧ (parseMethodDescriptor yX8_init.desc).map (fun d => d.parameters.length) = some 2 := by decide +kernel
theorem hv_X8_init : yX8_init.cls = RX8 ∧ yX8_init.cls ≠ "java/lang/invoke/MethodHandle" ∧ yX8_init.cls ≠ "java/lang/invoke/VarHandle" ∧ (parseMethodDescriptor yX8_init.desc).map (fun d => d.parameters.length) = some 2 := ⟨rfl, hy_X8_init⟩
theorem hy_X4_init : yX4_init.cls ≠ "java/lang/invoke/MethodHandle" ∧ yX4_init.cls ≠ "java/lang/invoke/VarHandle" ∧ (parseMethodDescriptor yX4_init.desc).map (fun d => d.parameters.length) = some 0 := by decide +kernel
theorem hv_X4_init : yX4_init.cls = RX4 ∧ yX4_init.cls ≠ "java/lang/invoke/MethodHandle" ∧ yX4_init.cls ≠ "java/lang/invoke/VarHandle" ∧ (parseMethodDescriptor yX4_init.desc).map (fun d => d.parameters.length) = some 0 := ⟨rfl, hy_X4_init⟩
theorem hy_X5_init : yX5_init.cls ≠ "java/lang/invoke/MethodHandle" ∧ yX5_init.cls ≠ "java/lang/invoke/VarHandle" ∧ (parseMethodDescriptor yX5_init.desc).map (fun d => d.parameters.length) = some 0 := by decide +kernel
theorem hv_X5_init : yX5_init.cls = RX5 ∧ yX5_init.cls ≠ "java/lang/invoke/MethodHandle" ∧ yX5_init.cls ≠ "java/lang/invoke/VarHandle" ∧ (parseMethodDescriptor yX5_init.desc).map (fun d => d.parameters.length) = some 0 := ⟨rfl, hy_X5_init⟩
theorem hy_X2_init : yX2_init.cls ≠ "java/lang/invoke/MethodHandle" ∧ yX2_init.cls ≠ "java/lang/invoke/VarHandle" ∧ (parseMethodDescriptor yX2_init.desc).map (fun d => d.parameters.length) = some 0 := by decide +kernel
theorem hv_X2_init : yX2_init.cls = RX2 ∧ yX2_init.cls ≠ "java/lang/invoke/MethodHandle" ∧ yX2_init.cls ≠ "java/lang/invoke/VarHandle" ∧ (parseMethodDescriptor yX2_init.desc).map (fun d => d.parameters.length) = some 0 := ⟨rfl, hy_X2_init⟩
theorem hy_X9_init : yX9_init.cls ≠ "java/lang/invoke/MethodHandle" ∧ yX9_init.cls ≠ "java/lang/invoke/VarHandle" ∧ (parseMethodDescriptor yX9_init.desc).map (fun d => d.parameters.length) = some 3 := by decide +kernel
theorem hv_X9_init : yX9_init.cls = RX9 ∧ yX9_init.cls ≠ "java/lang/invoke/MethodHandle" ∧ yX9_init.cls ≠ "java/lang/invoke/VarHandle" ∧ (parseMethodDescriptor yX9_init.desc).map (fun d => d.parameters.length) = some 3 := ⟨rfl, hy_X9_init⟩
theorem hy_X6_init : yX6_init.cls ≠ "java/lang/invoke/MethodHandle" ∧ yX6_init.cls ≠ "java/lang/invoke/VarHandle" ∧ (parseMethodDescriptor yX6_init.desc).map (fun d => d.parameters.length) = some 0 := by decide +kernel
theorem hv_X6_init : yX6_init.cls = RX6 ∧ yX6_init.cls ≠ "java/lang/invoke/MethodHandle" ∧ yX6_init.cls ≠ "java/lang/invoke/VarHandle" ∧ (parseMethodDescriptor yX6_init.desc).map (fun d => d.parameters.length) = some 0 := ⟨rfl, hy_X6_init⟩
theorem hy_X0_init : yX0_init.cls ≠ "java/lang/invoke/MethodHandle" ∧ yX0_init.cls ≠ "java/lang/invoke/VarHandle" ∧ (parseMethodDescriptor yX0_init.desc).map (fun d => d.parameters.length) = some 0 := by decide +kernel
theorem hv_X0_init : yX0_init.cls = RX0 ∧ yX0_init.cls ≠ "java/lang/invoke/MethodHandle" ∧ yX0_init.cls ≠ "java/lang/invoke/VarHandle" ∧ (parseMethodDescriptor yX0_init.desc).map (fun d => d.parameters.length) = some 0 := ⟨rfl, hy_X0_init⟩
theorem hy_X1_init : yX1_init.cls ≠ "java/lang/invoke/MethodHandle" ∧ yX1_init.cls ≠ "java/lang/invoke/VarHandle" ∧ (parseMethodDescriptor yX1_init.desc).map (fun d => d.parameters.length) = some 0 := by decide +kernel
theorem hv_X1_init : yX1_init.cls = RX1 ∧ yX1_init.cls ≠ "java/lang/invoke/MethodHandle" ∧ yX1_init.cls ≠ "java/lang/invoke/VarHandle" ∧ (parseMethodDescriptor yX1_init.desc).map (fun d => d.parameters.length) = some 0 := ⟨rfl, hy_X1_init⟩
theorem hy_X3_init : yX3_init.cls ≠ "java/lang/invoke/MethodHandle" ∧ yX3_init.cls ≠ "java/lang/invoke/VarHandle" ∧ (parseMethodDescriptor yX3_init.desc).map (fun d => d.parameters.length) = some 0 := by decide +kernel
theorem hv_X3_init : yX3_init.cls = RX3 ∧ yX3_init.cls ≠ "java/lang/invoke/MethodHandle" ∧ yX3_init.cls ≠ "java/lang/invoke/VarHandle" ∧ (parseMethodDescriptor yX3_init.desc).map (fun d => d.parameters.length) = some 0 := ⟨rfl, hy_X3_init⟩
theorem hy_X7_init : yX7_init.cls ≠ "java/lang/invoke/MethodHandle" ∧ yX7_init.cls ≠ "java/lang/invoke/VarHandle" ∧ (parseMethodDescriptor yX7_init.desc).map (fun d => d.parameters.length) = some 3 := by decide +kernel
theorem hv_X7_init : yX7_init.cls = RX7 ∧ yX7_init.cls ≠ "java/lang/invoke/MethodHandle" ∧ yX7_init.cls ≠ "java/lang/invoke/VarHandle" ∧ (parseMethodDescriptor yX7_init.desc).map (fun d => d.parameters.length) = some 3 := ⟨rfl, hy_X7_init⟩
theorem hy_X10_init : yX10_init.cls ≠ "java/lang/invoke/MethodHandle" ∧ yX10_init.cls ≠ "java/lang/invoke/VarHandle" ∧ (parseMethodDescriptor yX10_init.desc).map (fun d => d.parameters.length) = some 0 := by decide +kernel
theorem hv_X10_init : yX10_init.cls = RX10 ∧ yX10_init.cls ≠ "java/lang/invoke/MethodHandle" ∧ yX10_init.cls ≠ "java/lang/invoke/VarHandle" ∧ (parseMethodDescriptor yX10_init.desc).map (fun d => d.parameters.length) = some 0 := ⟨rfl, hy_X10_init⟩
theorem hy_X10_pointAt : yX10_pointAt.cls ≠ "java/lang/invoke/MethodHandle" ∧ yX10_pointAt.cls ≠ "java/lang/invoke/VarHandle" ∧ (parseMethodDescriptor yX10_pointAt.desc).map (fun d => d.parameters.length) = some 2 := by decide +kernel
theorem hv_X10_pointAt : yX10_pointAt.cls = RX10 ∧ yX10_pointAt.cls ≠ "java/lang/invoke/MethodHandle" ∧ yX10_pointAt.cls ≠ "java/lang/invoke/VarHandle" ∧ (parseMethodDescriptor yX10_pointAt.desc).map (fun d => d.parameters.length) = some 2 := ⟨rfl, hy_X10_pointAt⟩
theorem hy_X10_isWithin : yX10_isWithin.cls ≠ "java/lang/invoke/MethodHandle" ∧ yX10_isWithin.cls ≠ "java/lang/invoke/VarHandle" ∧ (parseMethodDescriptor yX10_isWithin.desc).map (fun d => d.parameters.length) = some 3 := by decide +kernel
theorem hv_X10_isWithin : yX10_isWithin.cls = RX10 ∧ yX10_isWithin.cls ≠ "java/lang/invoke/MethodHandle" ∧ yX10_isWithin.cls ≠ "java/lang/invoke/VarHandle" ∧ (parseMethodDescriptor yX10_isWithin.desc).map (fun d => d.parameters.length) = some 3 := ⟨rfl, hy_X10_isWithin⟩
theorem hy_X8_at : yX8_at.cls ≠ "java/lang/invoke/MethodHandle" ∧ yX8_at.cls ≠ "java/lang/invoke/VarHandle" ∧ (parseMethodDescriptor yX8_at.desc).map (fun d => d.parameters.length) = some 1 := by decide +kernel
theorem hv_X8_at : yX8_at.cls = RX8 ∧ yX8_at.cls ≠ "java/lang/invoke/MethodHandle" ∧ yX8_at.cls ≠ "java/lang/invoke/VarHandle" ∧ (parseMethodDescriptor yX8_at.desc).map (fun d => d.parameters.length) = some 1 := ⟨rfl, hy_X8_at⟩
theorem hy_X9_isTaken : yX9_isTaken.cls ≠ "java/lang/invoke/MethodHandle" ∧ yX9_isTaken.cls ≠ "java/lang/invoke/VarHandle" ∧ (parseMethodDescriptor yX9_isTaken.desc).map (fun d => d.parameters.length) = some 2 := by decide +kernel
theorem hv_X9_isTaken : yX9_isTaken.cls = RX9 ∧ yX9_isTaken.cls ≠ "java/lang/invoke/MethodHandle" ∧ yX9_isTaken.cls ≠ "java/lang/invoke/VarHandle" ∧ (parseMethodDescriptor yX9_isTaken.desc).map (fun d => d.parameters.length) = some 2 := ⟨rfl, hy_X9_isTaken⟩
theorem hy_X8_put : yX8_put.cls ≠ "java/lang/invoke/MethodHandle" ∧ yX8_put.cls ≠ "java/lang/invoke/VarHandle" ∧ (parseMethodDescriptor yX8_put.desc).map (fun d => d.parameters.length) = some 2 := by decide +kernel
theorem hv_X8_put : yX8_put.cls = RX8 ∧ yX8_put.cls ≠ "java/lang/invoke/MethodHandle" ∧ yX8_put.cls ≠ "java/lang/invoke/VarHandle" ∧ (parseMethodDescriptor yX8_put.desc).map (fun d => d.parameters.length) = some 2 := ⟨rfl, hy_X8_put⟩
theorem hy_X10_ground : yX10_ground.cls ≠ "java/lang/invoke/MethodHandle" ∧ yX10_ground.cls ≠ "java/lang/invoke/VarHandle" ∧ (parseMethodDescriptor yX10_ground.desc).map (fun d => d.parameters.length) = some 5 := by decide +kernel
theorem hv_X10_ground : yX10_ground.cls = RX10 ∧ yX10_ground.cls ≠ "java/lang/invoke/MethodHandle" ∧ yX10_ground.cls ≠ "java/lang/invoke/VarHandle" ∧ (parseMethodDescriptor yX10_ground.desc).map (fun d => d.parameters.length) = some 5 := ⟨rfl, hy_X10_ground⟩
theorem hy_X10_chart : yX10_chart.cls ≠ "java/lang/invoke/MethodHandle" ∧ yX10_chart.cls ≠ "java/lang/invoke/VarHandle" ∧ (parseMethodDescriptor yX10_chart.desc).map (fun d => d.parameters.length) = some 3 := by decide +kernel
theorem hv_X10_chart : yX10_chart.cls = RX10 ∧ yX10_chart.cls ≠ "java/lang/invoke/MethodHandle" ∧ yX10_chart.cls ≠ "java/lang/invoke/VarHandle" ∧ (parseMethodDescriptor yX10_chart.desc).map (fun d => d.parameters.length) = some 3 := ⟨rfl, hy_X10_chart⟩
theorem hy_X10_isAside : yX10_isAside.cls ≠ "java/lang/invoke/MethodHandle" ∧ yX10_isAside.cls ≠ "java/lang/invoke/VarHandle" ∧ (parseMethodDescriptor yX10_isAside.desc).map (fun d => d.parameters.length) = some 1 := by decide +kernel
theorem hv_X10_isAside : yX10_isAside.cls = RX10 ∧ yX10_isAside.cls ≠ "java/lang/invoke/MethodHandle" ∧ yX10_isAside.cls ≠ "java/lang/invoke/VarHandle" ∧ (parseMethodDescriptor yX10_isAside.desc).map (fun d => d.parameters.length) = some 1 := ⟨rfl, hy_X10_isAside⟩
theorem hy_X2_join : yX2_join.cls ≠ "java/lang/invoke/MethodHandle" ∧ yX2_join.cls ≠ "java/lang/invoke/VarHandle" ∧ (parseMethodDescriptor yX2_join.desc).map (fun d => d.parameters.length) = some 3 := by decide +kernel
theorem hv_X2_join : yX2_join.cls = RX2 ∧ yX2_join.cls ≠ "java/lang/invoke/MethodHandle" ∧ yX2_join.cls ≠ "java/lang/invoke/VarHandle" ∧ (parseMethodDescriptor yX2_join.desc).map (fun d => d.parameters.length) = some 3 := ⟨rfl, hy_X2_join⟩
theorem hy_X10_leg : yX10_leg.cls ≠ "java/lang/invoke/MethodHandle" ∧ yX10_leg.cls ≠ "java/lang/invoke/VarHandle" ∧ (parseMethodDescriptor yX10_leg.desc).map (fun d => d.parameters.length) = some 3 := by decide +kernel
theorem hv_X10_leg : yX10_leg.cls = RX10 ∧ yX10_leg.cls ≠ "java/lang/invoke/MethodHandle" ∧ yX10_leg.cls ≠ "java/lang/invoke/VarHandle" ∧ (parseMethodDescriptor yX10_leg.desc).map (fun d => d.parameters.length) = some 3 := ⟨rfl, hy_X10_leg⟩
theorem hy_X10_charge : yX10_charge.cls ≠ "java/lang/invoke/MethodHandle" ∧ yX10_charge.cls ≠ "java/lang/invoke/VarHandle" ∧ (parseMethodDescriptor yX10_charge.desc).map (fun d => d.parameters.length) = some 1 := by decide +kernel
theorem hv_X10_charge : yX10_charge.cls = RX10 ∧ yX10_charge.cls ≠ "java/lang/invoke/MethodHandle" ∧ yX10_charge.cls ≠ "java/lang/invoke/VarHandle" ∧ (parseMethodDescriptor yX10_charge.desc).map (fun d => d.parameters.length) = some 1 := ⟨rfl, hy_X10_charge⟩
theorem hy_X10_isLeg : yX10_isLeg.cls ≠ "java/lang/invoke/MethodHandle" ∧ yX10_isLeg.cls ≠ "java/lang/invoke/VarHandle" ∧ (parseMethodDescriptor yX10_isLeg.desc).map (fun d => d.parameters.length) = some 1 := by decide +kernel
theorem hv_X10_isLeg : yX10_isLeg.cls = RX10 ∧ yX10_isLeg.cls ≠ "java/lang/invoke/MethodHandle" ∧ yX10_isLeg.cls ≠ "java/lang/invoke/VarHandle" ∧ (parseMethodDescriptor yX10_isLeg.desc).map (fun d => d.parameters.length) = some 1 := ⟨rfl, hy_X10_isLeg⟩
theorem hy_X3_add : yX3_add.cls ≠ "java/lang/invoke/MethodHandle" ∧ yX3_add.cls ≠ "java/lang/invoke/VarHandle" ∧ (parseMethodDescriptor yX3_add.desc).map (fun d => d.parameters.length) = some 5 := by decide +kernel
theorem hv_X3_add : yX3_add.cls = RX3 ∧ yX3_add.cls ≠ "java/lang/invoke/MethodHandle" ∧ yX3_add.cls ≠ "java/lang/invoke/VarHandle" ∧ (parseMethodDescriptor yX3_add.desc).map (fun d => d.parameters.length) = some 5 := ⟨rfl, hy_X3_add⟩
theorem hy_X10_phase : yX10_phase.cls ≠ "java/lang/invoke/MethodHandle" ∧ yX10_phase.cls ≠ "java/lang/invoke/VarHandle" ∧ (parseMethodDescriptor yX10_phase.desc).map (fun d => d.parameters.length) = some 5 := by decide +kernel
theorem hv_X10_phase : yX10_phase.cls = RX10 ∧ yX10_phase.cls ≠ "java/lang/invoke/MethodHandle" ∧ yX10_phase.cls ≠ "java/lang/invoke/VarHandle" ∧ (parseMethodDescriptor yX10_phase.desc).map (fun d => d.parameters.length) = some 5 := ⟨rfl, hy_X10_phase⟩
theorem hy_X3_clear : yX3_clear.cls ≠ "java/lang/invoke/MethodHandle" ∧ yX3_clear.cls ≠ "java/lang/invoke/VarHandle" ∧ (parseMethodDescriptor yX3_clear.desc).map (fun d => d.parameters.length) = some 0 := by decide +kernel
theorem hv_X3_clear : yX3_clear.cls = RX3 ∧ yX3_clear.cls ≠ "java/lang/invoke/MethodHandle" ∧ yX3_clear.cls ≠ "java/lang/invoke/VarHandle" ∧ (parseMethodDescriptor yX3_clear.desc).map (fun d => d.parameters.length) = some 0 := ⟨rfl, hy_X3_clear⟩
theorem hy_X10_halt : yX10_halt.cls ≠ "java/lang/invoke/MethodHandle" ∧ yX10_halt.cls ≠ "java/lang/invoke/VarHandle" ∧ (parseMethodDescriptor yX10_halt.desc).map (fun d => d.parameters.length) = some 0 := by decide +kernel
theorem hv_X10_halt : yX10_halt.cls = RX10 ∧ yX10_halt.cls ≠ "java/lang/invoke/MethodHandle" ∧ yX10_halt.cls ≠ "java/lang/invoke/VarHandle" ∧ (parseMethodDescriptor yX10_halt.desc).map (fun d => d.parameters.length) = some 0 := ⟨rfl, hy_X10_halt⟩
theorem hy_X2_carry : yX2_carry.cls ≠ "java/lang/invoke/MethodHandle" ∧ yX2_carry.cls ≠ "java/lang/invoke/VarHandle" ∧ (parseMethodDescriptor yX2_carry.desc).map (fun d => d.parameters.length) = some 3 := by decide +kernel
theorem hv_X2_carry : yX2_carry.cls = RX2 ∧ yX2_carry.cls ≠ "java/lang/invoke/MethodHandle" ∧ yX2_carry.cls ≠ "java/lang/invoke/VarHandle" ∧ (parseMethodDescriptor yX2_carry.desc).map (fun d => d.parameters.length) = some 3 := ⟨rfl, hy_X2_carry⟩
theorem hy_X4_isFurtherOut : yX4_isFurtherOut.cls ≠ "java/lang/invoke/MethodHandle" ∧ yX4_isFurtherOut.cls ≠ "java/lang/invoke/VarHandle" ∧ (parseMethodDescriptor yX4_isFurtherOut.desc).map (fun d => d.parameters.length) = some 3 := by decide +kernel
theorem hv_X4_isFurtherOut : yX4_isFurtherOut.cls = RX4 ∧ yX4_isFurtherOut.cls ≠ "java/lang/invoke/MethodHandle" ∧ yX4_isFurtherOut.cls ≠ "java/lang/invoke/VarHandle" ∧ (parseMethodDescriptor yX4_isFurtherOut.desc).map (fun d => d.parameters.length) = some 3 := ⟨rfl, hy_X4_isFurtherOut⟩
theorem hy_X4_wrap : yX4_wrap.cls ≠ "java/lang/invoke/MethodHandle" ∧ yX4_wrap.cls ≠ "java/lang/invoke/VarHandle" ∧ (parseMethodDescriptor yX4_wrap.desc).map (fun d => d.parameters.length) = some 2 := by decide +kernel
theorem hv_X4_wrap : yX4_wrap.cls = RX4 ∧ yX4_wrap.cls ≠ "java/lang/invoke/MethodHandle" ∧ yX4_wrap.cls ≠ "java/lang/invoke/VarHandle" ∧ (parseMethodDescriptor yX4_wrap.desc).map (fun d => d.parameters.length) = some 2 := ⟨rfl, hy_X4_wrap⟩
theorem hy_X9_momentX : yX9_momentX.cls ≠ "java/lang/invoke/MethodHandle" ∧ yX9_momentX.cls ≠ "java/lang/invoke/VarHandle" ∧ (parseMethodDescriptor yX9_momentX.desc).map (fun d => d.parameters.length) = some 0 := by decide +kernel
theorem hv_X9_momentX : yX9_momentX.cls = RX9 ∧ yX9_momentX.cls ≠ "java/lang/invoke/MethodHandle" ∧ yX9_momentX.cls ≠ "java/lang/invoke/VarHandle" ∧ (parseMethodDescriptor yX9_momentX.desc).map (fun d => d.parameters.length) = some 0 := ⟨rfl, hy_X9_momentX⟩
theorem hy_X9_momentY : yX9_momentY.cls ≠ "java/lang/invoke/MethodHandle" ∧ yX9_momentY.cls ≠ "java/lang/invoke/VarHandle" ∧ (parseMethodDescriptor yX9_momentY.desc).map (fun d => d.parameters.length) = some 0 := by decide +kernel
theorem hv_X9_momentY : yX9_momentY.cls = RX9 ∧ yX9_momentY.cls ≠ "java/lang/invoke/MethodHandle" ∧ yX9_momentY.cls ≠ "java/lang/invoke/VarHandle" ∧ (parseMethodDescriptor yX9_momentY.desc).map (fun d => d.parameters.length) = some 0 := ⟨rfl, hy_X9_momentY⟩
theorem hy_X2_weight : yX2_weight.cls ≠ "java/lang/invoke/MethodHandle" ∧ yX2_weight.cls ≠ "java/lang/invoke/VarHandle" ∧ (parseMethodDescriptor yX2_weight.desc).map (fun d => d.parameters.length) = some 0 := by decide +kernel
theorem hv_X2_weight : yX2_weight.cls = RX2 ∧ yX2_weight.cls ≠ "java/lang/invoke/MethodHandle" ∧ yX2_weight.cls ≠ "java/lang/invoke/VarHandle" ∧ (parseMethodDescriptor yX2_weight.desc).map (fun d => d.parameters.length) = some 0 := ⟨rfl, hy_X2_weight⟩
theorem hy_X4_edgeByWay : yX4_edgeByWay.cls ≠ "java/lang/invoke/MethodHandle" ∧ yX4_edgeByWay.cls ≠ "java/lang/invoke/VarHandle" ∧ (parseMethodDescriptor yX4_edgeByWay.desc).map (fun d => d.parameters.length) = some 5 := by decide +kernel
theorem hv_X4_edgeByWay : yX4_edgeByWay.cls = RX4 ∧ yX4_edgeByWay.cls ≠ "java/lang/invoke/MethodHandle" ∧ yX4_edgeByWay.cls ≠ "java/lang/invoke/VarHandle" ∧ (parseMethodDescriptor yX4_edgeByWay.desc).map (fun d => d.parameters.length) = some 5 := ⟨rfl, hy_X4_edgeByWay⟩
theorem hy_X4_holds : yX4_holds.cls ≠ "java/lang/invoke/MethodHandle" ∧ yX4_holds.cls ≠ "java/lang/invoke/VarHandle" ∧ (parseMethodDescriptor yX4_holds.desc).map (fun d => d.parameters.length) = some 3 := by decide +kernel
theorem hv_X4_holds : yX4_holds.cls = RX4 ∧ yX4_holds.cls ≠ "java/lang/invoke/MethodHandle" ∧ yX4_holds.cls ≠ "java/lang/invoke/VarHandle" ∧ (parseMethodDescriptor yX4_holds.desc).map (fun d => d.parameters.length) = some 3 := ⟨rfl, hy_X4_holds⟩
theorem hy_X9_holdsWithout : yX9_holdsWithout.cls ≠ "java/lang/invoke/MethodHandle" ∧ yX9_holdsWithout.cls ≠ "java/lang/invoke/VarHandle" ∧ (parseMethodDescriptor yX9_holdsWithout.desc).map (fun d => d.parameters.length) = some 1 := by decide +kernel
theorem hv_X9_holdsWithout : yX9_holdsWithout.cls = RX9 ∧ yX9_holdsWithout.cls ≠ "java/lang/invoke/MethodHandle" ∧ yX9_holdsWithout.cls ≠ "java/lang/invoke/VarHandle" ∧ (parseMethodDescriptor yX9_holdsWithout.desc).map (fun d => d.parameters.length) = some 1 := ⟨rfl, hy_X9_holdsWithout⟩
theorem hy_X0_beginAct : yX0_beginAct.cls ≠ "java/lang/invoke/MethodHandle" ∧ yX0_beginAct.cls ≠ "java/lang/invoke/VarHandle" ∧ (parseMethodDescriptor yX0_beginAct.desc).map (fun d => d.parameters.length) = some 0 := by decide +kernel
theorem hv_X0_beginAct : yX0_beginAct.cls = RX0 ∧ yX0_beginAct.cls ≠ "java/lang/invoke/MethodHandle" ∧ yX0_beginAct.cls ≠ "java/lang/invoke/VarHandle" ∧ (parseMethodDescriptor yX0_beginAct.desc).map (fun d => d.parameters.length) = some 0 := ⟨rfl, hy_X0_beginAct⟩
theorem hy_X10_takeLoad : yX10_takeLoad.cls ≠ "java/lang/invoke/MethodHandle" ∧ yX10_takeLoad.cls ≠ "java/lang/invoke/VarHandle" ∧ (parseMethodDescriptor yX10_takeLoad.desc).map (fun d => d.parameters.length) = some 3 := by decide +kernel
theorem hv_X10_takeLoad : yX10_takeLoad.cls = RX10 ∧ yX10_takeLoad.cls ≠ "java/lang/invoke/MethodHandle" ∧ yX10_takeLoad.cls ≠ "java/lang/invoke/VarHandle" ∧ (parseMethodDescriptor yX10_takeLoad.desc).map (fun d => d.parameters.length) = some 3 := ⟨rfl, hy_X10_takeLoad⟩
theorem hy_X9_down : yX9_down.cls ≠ "java/lang/invoke/MethodHandle" ∧ yX9_down.cls ≠ "java/lang/invoke/VarHandle" ∧ (parseMethodDescriptor yX9_down.desc).map (fun d => d.parameters.length) = some 0 := by decide +kernel
theorem hv_X9_down : yX9_down.cls = RX9 ∧ yX9_down.cls ≠ "java/lang/invoke/MethodHandle" ∧ yX9_down.cls ≠ "java/lang/invoke/VarHandle" ∧ (parseMethodDescriptor yX9_down.desc).map (fun d => d.parameters.length) = some 0 := ⟨rfl, hy_X9_down⟩
theorem hy_X10_roundedUp : yX10_roundedUp.cls ≠ "java/lang/invoke/MethodHandle" ∧ yX10_roundedUp.cls ≠ "java/lang/invoke/VarHandle" ∧ (parseMethodDescriptor yX10_roundedUp.desc).map (fun d => d.parameters.length) = some 2 := by decide +kernel
theorem hv_X10_roundedUp : yX10_roundedUp.cls = RX10 ∧ yX10_roundedUp.cls ≠ "java/lang/invoke/MethodHandle" ∧ yX10_roundedUp.cls ≠ "java/lang/invoke/VarHandle" ∧ (parseMethodDescriptor yX10_roundedUp.desc).map (fun d => d.parameters.length) = some 2 := ⟨rfl, hy_X10_roundedUp⟩
theorem hy_X9_pressure : yX9_pressure.cls ≠ "java/lang/invoke/MethodHandle" ∧ yX9_pressure.cls ≠ "java/lang/invoke/VarHandle" ∧ (parseMethodDescriptor yX9_pressure.desc).map (fun d => d.parameters.length) = some 0 := by decide +kernel
theorem hv_X9_pressure : yX9_pressure.cls = RX9 ∧ yX9_pressure.cls ≠ "java/lang/invoke/MethodHandle" ∧ yX9_pressure.cls ≠ "java/lang/invoke/VarHandle" ∧ (parseMethodDescriptor yX9_pressure.desc).map (fun d => d.parameters.length) = some 0 := ⟨rfl, hy_X9_pressure⟩
theorem hy_X9_sinking : yX9_sinking.cls ≠ "java/lang/invoke/MethodHandle" ∧ yX9_sinking.cls ≠ "java/lang/invoke/VarHandle" ∧ (parseMethodDescriptor yX9_sinking.desc).map (fun d => d.parameters.length) = some 0 := by decide +kernel
theorem hv_X9_sinking : yX9_sinking.cls = RX9 ∧ yX9_sinking.cls ≠ "java/lang/invoke/MethodHandle" ∧ yX9_sinking.cls ≠ "java/lang/invoke/VarHandle" ∧ (parseMethodDescriptor yX9_sinking.desc).map (fun d => d.parameters.length) = some 0 := ⟨rfl, hy_X9_sinking⟩
theorem hy_X5_learn : yX5_learn.cls ≠ "java/lang/invoke/MethodHandle" ∧ yX5_learn.cls ≠ "java/lang/invoke/VarHandle" ∧ (parseMethodDescriptor yX5_learn.desc).map (fun d => d.parameters.length) = some 1 := by decide +kernel
theorem hv_X5_learn : yX5_learn.cls = RX5 ∧ yX5_learn.cls ≠ "java/lang/invoke/MethodHandle" ∧ yX5_learn.cls ≠ "java/lang/invoke/VarHandle" ∧ (parseMethodDescriptor yX5_learn.desc).map (fun d => d.parameters.length) = some 1 := ⟨rfl, hy_X5_learn⟩
theorem hy_X5_sag : yX5_sag.cls ≠ "java/lang/invoke/MethodHandle" ∧ yX5_sag.cls ≠ "java/lang/invoke/VarHandle" ∧ (parseMethodDescriptor yX5_sag.desc).map (fun d => d.parameters.length) = some 1 := by decide +kernel
theorem hv_X5_sag : yX5_sag.cls = RX5 ∧ yX5_sag.cls ≠ "java/lang/invoke/MethodHandle" ∧ yX5_sag.cls ≠ "java/lang/invoke/VarHandle" ∧ (parseMethodDescriptor yX5_sag.desc).map (fun d => d.parameters.length) = some 1 := ⟨rfl, hy_X5_sag⟩
theorem hy_X0_tell : yX0_tell.cls ≠ "java/lang/invoke/MethodHandle" ∧ yX0_tell.cls ≠ "java/lang/invoke/VarHandle" ∧ (parseMethodDescriptor yX0_tell.desc).map (fun d => d.parameters.length) = some 2 := by decide +kernel
theorem hv_X0_tell : yX0_tell.cls = RX0 ∧ yX0_tell.cls ≠ "java/lang/invoke/MethodHandle" ∧ yX0_tell.cls ≠ "java/lang/invoke/VarHandle" ∧ (parseMethodDescriptor yX0_tell.desc).map (fun d => d.parameters.length) = some 2 := ⟨rfl, hy_X0_tell⟩
theorem hy_X10_breakGround : yX10_breakGround.cls ≠ "java/lang/invoke/MethodHandle" ∧ yX10_breakGround.cls ≠ "java/lang/invoke/VarHandle" ∧ (parseMethodDescriptor yX10_breakGround.desc).map (fun d => d.parameters.length) = some 1 := by decide +kernel
theorem hv_X10_breakGround : yX10_breakGround.cls = RX10 ∧ yX10_breakGround.cls ≠ "java/lang/invoke/MethodHandle" ∧ yX10_breakGround.cls ≠ "java/lang/invoke/VarHandle" ∧ (parseMethodDescriptor yX10_breakGround.desc).map (fun d => d.parameters.length) = some 1 := ⟨rfl, hy_X10_breakGround⟩
theorem hy_X9_raise : yX9_raise.cls ≠ "java/lang/invoke/MethodHandle" ∧ yX9_raise.cls ≠ "java/lang/invoke/VarHandle" ∧ (parseMethodDescriptor yX9_raise.desc).map (fun d => d.parameters.length) = some 1 := by decide +kernel
theorem hv_X9_raise : yX9_raise.cls = RX9 ∧ yX9_raise.cls ≠ "java/lang/invoke/MethodHandle" ∧ yX9_raise.cls ≠ "java/lang/invoke/VarHandle" ∧ (parseMethodDescriptor yX9_raise.desc).map (fun d => d.parameters.length) = some 1 := ⟨rfl, hy_X9_raise⟩
theorem hy_X10_xOf : yX10_xOf.cls ≠ "java/lang/invoke/MethodHandle" ∧ yX10_xOf.cls ≠ "java/lang/invoke/VarHandle" ∧ (parseMethodDescriptor yX10_xOf.desc).map (fun d => d.parameters.length) = some 1 := by decide +kernel
theorem hv_X10_xOf : yX10_xOf.cls = RX10 ∧ yX10_xOf.cls ≠ "java/lang/invoke/MethodHandle" ∧ yX10_xOf.cls ≠ "java/lang/invoke/VarHandle" ∧ (parseMethodDescriptor yX10_xOf.desc).map (fun d => d.parameters.length) = some 1 := ⟨rfl, hy_X10_xOf⟩
theorem hy_X10_yOf : yX10_yOf.cls ≠ "java/lang/invoke/MethodHandle" ∧ yX10_yOf.cls ≠ "java/lang/invoke/VarHandle" ∧ (parseMethodDescriptor yX10_yOf.desc).map (fun d => d.parameters.length) = some 1 := by decide +kernel
theorem hv_X10_yOf : yX10_yOf.cls = RX10 ∧ yX10_yOf.cls ≠ "java/lang/invoke/MethodHandle" ∧ yX10_yOf.cls ≠ "java/lang/invoke/VarHandle" ∧ (parseMethodDescriptor yX10_yOf.desc).map (fun d => d.parameters.length) = some 1 := ⟨rfl, hy_X10_yOf⟩
theorem hy_J6_signum_0f7a4 : yJ6_signum_0f7a4.cls ≠ "java/lang/invoke/MethodHandle" ∧ yJ6_signum_0f7a4.cls ≠ "java/lang/invoke/VarHandle" ∧ (parseMethodDescriptor yJ6_signum_0f7a4.desc).map (fun d => d.parameters.length) = some 1 := by decide +kernel
theorem hv_J6_signum_0f7a4 : yJ6_signum_0f7a4.cls = RJ6 ∧ yJ6_signum_0f7a4.cls ≠ "java/lang/invoke/MethodHandle" ∧ yJ6_signum_0f7a4.cls ≠ "java/lang/invoke/VarHandle" ∧ (parseMethodDescriptor yJ6_signum_0f7a4.desc).map (fun d => d.parameters.length) = some 1 := ⟨rfl, hy_J6_signum_0f7a4⟩
theorem hy_X9_direction : yX9_direction.cls ≠ "java/lang/invoke/MethodHandle" ∧ yX9_direction.cls ≠ "java/lang/invoke/VarHandle" ∧ (parseMethodDescriptor yX9_direction.desc).map (fun d => d.parameters.length) = some 0 := by decide +kernel
theorem hv_X9_direction : yX9_direction.cls = RX9 ∧ yX9_direction.cls ≠ "java/lang/invoke/MethodHandle" ∧ yX9_direction.cls ≠ "java/lang/invoke/VarHandle" ∧ (parseMethodDescriptor yX9_direction.desc).map (fun d => d.parameters.length) = some 0 := ⟨rfl, hy_X9_direction⟩
theorem hy_X1_keep : yX1_keep.cls ≠ "java/lang/invoke/MethodHandle" ∧ yX1_keep.cls ≠ "java/lang/invoke/VarHandle" ∧ (parseMethodDescriptor yX1_keep.desc).map (fun d => d.parameters.length) = some 3 := by decide +kernel
theorem hv_X1_keep : yX1_keep.cls = RX1 ∧ yX1_keep.cls ≠ "java/lang/invoke/MethodHandle" ∧ yX1_keep.cls ≠ "java/lang/invoke/VarHandle" ∧ (parseMethodDescriptor yX1_keep.desc).map (fun d => d.parameters.length) = some 3 := ⟨rfl, hy_X1_keep⟩
theorem hy_X8_fill : yX8_fill.cls ≠ "java/lang/invoke/MethodHandle" ∧ yX8_fill.cls ≠ "java/lang/invoke/VarHandle" ∧ (parseMethodDescriptor yX8_fill.desc).map (fun d => d.parameters.length) = some 1 := by decide +kernel
theorem hv_X8_fill : yX8_fill.cls = RX8 ∧ yX8_fill.cls ≠ "java/lang/invoke/MethodHandle" ∧ yX8_fill.cls ≠ "java/lang/invoke/VarHandle" ∧ (parseMethodDescriptor yX8_fill.desc).map (fun d => d.parameters.length) = some 1 := ⟨rfl, hy_X8_fill⟩
theorem hy_X10_toppleOver : yX10_toppleOver.cls ≠ "java/lang/invoke/MethodHandle" ∧ yX10_toppleOver.cls ≠ "java/lang/invoke/VarHandle" ∧ (parseMethodDescriptor yX10_toppleOver.desc).map (fun d => d.parameters.length) = some 0 := by decide +kernel
theorem hv_X10_toppleOver : yX10_toppleOver.cls = RX10 ∧ yX10_toppleOver.cls ≠ "java/lang/invoke/MethodHandle" ∧ yX10_toppleOver.cls ≠ "java/lang/invoke/VarHandle" ∧ (parseMethodDescriptor yX10_toppleOver.desc).map (fun d => d.parameters.length) = some 0 := ⟨rfl, hy_X10_toppleOver⟩
theorem hy_X10_settled : yX10_settled.cls ≠ "java/lang/invoke/MethodHandle" ∧ yX10_settled.cls ≠ "java/lang/invoke/VarHandle" ∧ (parseMethodDescriptor yX10_settled.desc).map (fun d => d.parameters.length) = some 0 := by decide +kernel
theorem hv_X10_settled : yX10_settled.cls = RX10 ∧ yX10_settled.cls ≠ "java/lang/invoke/MethodHandle" ∧ yX10_settled.cls ≠ "java/lang/invoke/VarHandle" ∧ (parseMethodDescriptor yX10_settled.desc).map (fun d => d.parameters.length) = some 0 := ⟨rfl, hy_X10_settled⟩
theorem hy_X10_load : yX10_load.cls ≠ "java/lang/invoke/MethodHandle" ∧ yX10_load.cls ≠ "java/lang/invoke/VarHandle" ∧ (parseMethodDescriptor yX10_load.desc).map (fun d => d.parameters.length) = some 3 := by decide +kernel
theorem hv_X10_load : yX10_load.cls = RX10 ∧ yX10_load.cls ≠ "java/lang/invoke/MethodHandle" ∧ yX10_load.cls ≠ "java/lang/invoke/VarHandle" ∧ (parseMethodDescriptor yX10_load.desc).map (fun d => d.parameters.length) = some 3 := ⟨rfl, hy_X10_load⟩
theorem hy_X8_copy : yX8_copy.cls ≠ "java/lang/invoke/MethodHandle" ∧ yX8_copy.cls ≠ "java/lang/invoke/VarHandle" ∧ (parseMethodDescriptor yX8_copy.desc).map (fun d => d.parameters.length) = some 1 := by decide +kernel
theorem hv_X8_copy : yX8_copy.cls = RX8 ∧ yX8_copy.cls ≠ "java/lang/invoke/MethodHandle" ∧ yX8_copy.cls ≠ "java/lang/invoke/VarHandle" ∧ (parseMethodDescriptor yX8_copy.desc).map (fun d => d.parameters.length) = some 1 := ⟨rfl, hy_X8_copy⟩
theorem hy_X9_copy : yX9_copy.cls ≠ "java/lang/invoke/MethodHandle" ∧ yX9_copy.cls ≠ "java/lang/invoke/VarHandle" ∧ (parseMethodDescriptor yX9_copy.desc).map (fun d => d.parameters.length) = some 1 := by decide +kernel
theorem hv_X9_copy : yX9_copy.cls = RX9 ∧ yX9_copy.cls ≠ "java/lang/invoke/MethodHandle" ∧ yX9_copy.cls ≠ "java/lang/invoke/VarHandle" ∧ (parseMethodDescriptor yX9_copy.desc).map (fun d => d.parameters.length) = some 1 := ⟨rfl, hy_X9_copy⟩
theorem hy_X9_hipX : yX9_hipX.cls ≠ "java/lang/invoke/MethodHandle" ∧ yX9_hipX.cls ≠ "java/lang/invoke/VarHandle" ∧ (parseMethodDescriptor yX9_hipX.desc).map (fun d => d.parameters.length) = some 1 := by decide +kernel
theorem hv_X9_hipX : yX9_hipX.cls = RX9 ∧ yX9_hipX.cls ≠ "java/lang/invoke/MethodHandle" ∧ yX9_hipX.cls ≠ "java/lang/invoke/VarHandle" ∧ (parseMethodDescriptor yX9_hipX.desc).map (fun d => d.parameters.length) = some 1 := ⟨rfl, hy_X9_hipX⟩
theorem hy_X9_hipY : yX9_hipY.cls ≠ "java/lang/invoke/MethodHandle" ∧ yX9_hipY.cls ≠ "java/lang/invoke/VarHandle" ∧ (parseMethodDescriptor yX9_hipY.desc).map (fun d => d.parameters.length) = some 1 := by decide +kernel
theorem hv_X9_hipY : yX9_hipY.cls = RX9 ∧ yX9_hipY.cls ≠ "java/lang/invoke/MethodHandle" ∧ yX9_hipY.cls ≠ "java/lang/invoke/VarHandle" ∧ (parseMethodDescriptor yX9_hipY.desc).map (fun d => d.parameters.length) = some 1 := ⟨rfl, hy_X9_hipY⟩
theorem hy_X10_hipsBear : yX10_hipsBear.cls ≠ "java/lang/invoke/MethodHandle" ∧ yX10_hipsBear.cls ≠ "java/lang/invoke/VarHandle" ∧ (parseMethodDescriptor yX10_hipsBear.desc).map (fun d => d.parameters.length) = some 0 := by decide +kernel
theorem hv_X10_hipsBear : yX10_hipsBear.cls = RX10 ∧ yX10_hipsBear.cls ≠ "java/lang/invoke/MethodHandle" ∧ yX10_hipsBear.cls ≠ "java/lang/invoke/VarHandle" ∧ (parseMethodDescriptor yX10_hipsBear.desc).map (fun d => d.parameters.length) = some 0 := ⟨rfl, hy_X10_hipsBear⟩
theorem hy_X0_forget : yX0_forget.cls ≠ "java/lang/invoke/MethodHandle" ∧ yX0_forget.cls ≠ "java/lang/invoke/VarHandle" ∧ (parseMethodDescriptor yX0_forget.desc).map (fun d => d.parameters.length) = some 0 := by decide +kernel
theorem hv_X0_forget : yX0_forget.cls = RX0 ∧ yX0_forget.cls ≠ "java/lang/invoke/MethodHandle" ∧ yX0_forget.cls ≠ "java/lang/invoke/VarHandle" ∧ (parseMethodDescriptor yX0_forget.desc).map (fun d => d.parameters.length) = some 0 := ⟨rfl, hy_X0_forget⟩
theorem hy_X5_neighbour : yX5_neighbour.cls ≠ "java/lang/invoke/MethodHandle" ∧ yX5_neighbour.cls ≠ "java/lang/invoke/VarHandle" ∧ (parseMethodDescriptor yX5_neighbour.desc).map (fun d => d.parameters.length) = some 2 := by decide +kernel
theorem hv_X5_neighbour : yX5_neighbour.cls = RX5 ∧ yX5_neighbour.cls ≠ "java/lang/invoke/MethodHandle" ∧ yX5_neighbour.cls ≠ "java/lang/invoke/VarHandle" ∧ (parseMethodDescriptor yX5_neighbour.desc).map (fun d => d.parameters.length) = some 2 := ⟨rfl, hy_X5_neighbour⟩
theorem hy_X5_slipFrom : yX5_slipFrom.cls ≠ "java/lang/invoke/MethodHandle" ∧ yX5_slipFrom.cls ≠ "java/lang/invoke/VarHandle" ∧ (parseMethodDescriptor yX5_slipFrom.desc).map (fun d => d.parameters.length) = some 1 := by decide +kernel
theorem hv_X5_slipFrom : yX5_slipFrom.cls = RX5 ∧ yX5_slipFrom.cls ≠ "java/lang/invoke/MethodHandle" ∧ yX5_slipFrom.cls ≠ "java/lang/invoke/VarHandle" ∧ (parseMethodDescriptor yX5_slipFrom.desc).map (fun d => d.parameters.length) = some 1 := ⟨rfl, hy_X5_slipFrom⟩
theorem hy_X9_isInReach : yX9_isInReach.cls ≠ "java/lang/invoke/MethodHandle" ∧ yX9_isInReach.cls ≠ "java/lang/invoke/VarHandle" ∧ (parseMethodDescriptor yX9_isInReach.desc).map (fun d => d.parameters.length) = some 2 := by decide +kernel
theorem hv_X9_isInReach : yX9_isInReach.cls = RX9 ∧ yX9_isInReach.cls ≠ "java/lang/invoke/MethodHandle" ∧ yX9_isInReach.cls ≠ "java/lang/invoke/VarHandle" ∧ (parseMethodDescriptor yX9_isInReach.desc).map (fun d => d.parameters.length) = some 2 := ⟨rfl, hy_X9_isInReach⟩
theorem hy_X10_setFoot : yX10_setFoot.cls ≠ "java/lang/invoke/MethodHandle" ∧ yX10_setFoot.cls ≠ "java/lang/invoke/VarHandle" ∧ (parseMethodDescriptor yX10_setFoot.desc).map (fun d => d.parameters.length) = some 2 := by decide +kernel
theorem hv_X10_setFoot : yX10_setFoot.cls = RX10 ∧ yX10_setFoot.cls ≠ "java/lang/invoke/MethodHandle" ∧ yX10_setFoot.cls ≠ "java/lang/invoke/VarHandle" ∧ (parseMethodDescriptor yX10_setFoot.desc).map (fun d => d.parameters.length) = some 2 := ⟨rfl, hy_X10_setFoot⟩
theorem hy_X10_getUp : yX10_getUp.cls ≠ "java/lang/invoke/MethodHandle" ∧ yX10_getUp.cls ≠ "java/lang/invoke/VarHandle" ∧ (parseMethodDescriptor yX10_getUp.desc).map (fun d => d.parameters.length) = some 0 := by decide +kernel
theorem hv_X10_getUp : yX10_getUp.cls = RX10 ∧ yX10_getUp.cls ≠ "java/lang/invoke/MethodHandle" ∧ yX10_getUp.cls ≠ "java/lang/invoke/VarHandle" ∧ (parseMethodDescriptor yX10_getUp.desc).map (fun d => d.parameters.length) = some 0 := ⟨rfl, hy_X10_getUp⟩
theorem hy_X10_rise : yX10_rise.cls ≠ "java/lang/invoke/MethodHandle" ∧ yX10_rise.cls ≠ "java/lang/invoke/VarHandle" ∧ (parseMethodDescriptor yX10_rise.desc).map (fun d => d.parameters.length) = some 0 := by decide +kernel
theorem hv_X10_rise : yX10_rise.cls = RX10 ∧ yX10_rise.cls ≠ "java/lang/invoke/MethodHandle" ∧ yX10_rise.cls ≠ "java/lang/invoke/VarHandle" ∧ (parseMethodDescriptor yX10_rise.desc).map (fun d => d.parameters.length) = some 0 := ⟨rfl, hy_X10_rise⟩
theorem hy_X10_mayLift : yX10_mayLift.cls ≠ "java/lang/invoke/MethodHandle" ∧ yX10_mayLift.cls ≠ "java/lang/invoke/VarHandle" ∧ (parseMethodDescriptor yX10_mayLift.desc).map (fun d => d.parameters.length) = some 1 := by decide +kernel
theorem hv_X10_mayLift : yX10_mayLift.cls = RX10 ∧ yX10_mayLift.cls ≠ "java/lang/invoke/MethodHandle" ∧ yX10_mayLift.cls ≠ "java/lang/invoke/VarHandle" ∧ (parseMethodDescriptor yX10_mayLift.desc).map (fun d => d.parameters.length) = some 1 := ⟨rfl, hy_X10_mayLift⟩
theorem hy_X10_liftFoot : yX10_liftFoot.cls ≠ "java/lang/invoke/MethodHandle" ∧ yX10_liftFoot.cls ≠ "java/lang/invoke/VarHandle" ∧ (parseMethodDescriptor yX10_liftFoot.desc).map (fun d => d.parameters.length) = some 1 := by decide +kernel
theorem hv_X10_liftFoot : yX10_liftFoot.cls = RX10 ∧ yX10_liftFoot.cls ≠ "java/lang/invoke/MethodHandle" ∧ yX10_liftFoot.cls ≠ "java/lang/invoke/VarHandle" ∧ (parseMethodDescriptor yX10_liftFoot.desc).map (fun d => d.parameters.length) = some 1 := ⟨rfl, hy_X10_liftFoot⟩
theorem hy_X10_lift : yX10_lift.cls ≠ "java/lang/invoke/MethodHandle" ∧ yX10_lift.cls ≠ "java/lang/invoke/VarHandle" ∧ (parseMethodDescriptor yX10_lift.desc).map (fun d => d.parameters.length) = some 1 := by decide +kernel
theorem hv_X10_lift : yX10_lift.cls = RX10 ∧ yX10_lift.cls ≠ "java/lang/invoke/MethodHandle" ∧ yX10_lift.cls ≠ "java/lang/invoke/VarHandle" ∧ (parseMethodDescriptor yX10_lift.desc).map (fun d => d.parameters.length) = some 1 := ⟨rfl, hy_X10_lift⟩
theorem hy_X9_far : yX9_far.cls ≠ "java/lang/invoke/MethodHandle" ∧ yX9_far.cls ≠ "java/lang/invoke/VarHandle" ∧ (parseMethodDescriptor yX9_far.desc).map (fun d => d.parameters.length) = some 2 := by decide +kernel
theorem hv_X9_far : yX9_far.cls = RX9 ∧ yX9_far.cls ≠ "java/lang/invoke/MethodHandle" ∧ yX9_far.cls ≠ "java/lang/invoke/VarHandle" ∧ (parseMethodDescriptor yX9_far.desc).map (fun d => d.parameters.length) = some 2 := ⟨rfl, hy_X9_far⟩
theorem hy_X9_level : yX9_level.cls ≠ "java/lang/invoke/MethodHandle" ∧ yX9_level.cls ≠ "java/lang/invoke/VarHandle" ∧ (parseMethodDescriptor yX9_level.desc).map (fun d => d.parameters.length) = some 1 := by decide +kernel
theorem hv_X9_level : yX9_level.cls = RX9 ∧ yX9_level.cls ≠ "java/lang/invoke/MethodHandle" ∧ yX9_level.cls ≠ "java/lang/invoke/VarHandle" ∧ (parseMethodDescriptor yX9_level.desc).map (fun d => d.parameters.length) = some 1 := ⟨rfl, hy_X9_level⟩
theorem hy_X10_placeFoot : yX10_placeFoot.cls ≠ "java/lang/invoke/MethodHandle" ∧ yX10_placeFoot.cls ≠ "java/lang/invoke/VarHandle" ∧ (parseMethodDescriptor yX10_placeFoot.desc).map (fun d => d.parameters.length) = some 2 := by decide +kernel
theorem hv_X10_placeFoot : yX10_placeFoot.cls = RX10 ∧ yX10_placeFoot.cls ≠ "java/lang/invoke/MethodHandle" ∧ yX10_placeFoot.cls ≠ "java/lang/invoke/VarHandle" ∧ (parseMethodDescriptor yX10_placeFoot.desc).map (fun d => d.parameters.length) = some 2 := ⟨rfl, hy_X10_placeFoot⟩
theorem hy_X10_place : yX10_place.cls ≠ "java/lang/invoke/MethodHandle" ∧ yX10_place.cls ≠ "java/lang/invoke/VarHandle" ∧ (parseMethodDescriptor yX10_place.desc).map (fun d => d.parameters.length) = some 3 := by decide +kernel
theorem hv_X10_place : yX10_place.cls = RX10 ∧ yX10_place.cls ≠ "java/lang/invoke/MethodHandle" ∧ yX10_place.cls ≠ "java/lang/invoke/VarHandle" ∧ (parseMethodDescriptor yX10_place.desc).map (fun d => d.parameters.length) = some 3 := ⟨rfl, hy_X10_place⟩
theorem hy_X9_moveBody : yX9_moveBody.cls ≠ "java/lang/invoke/MethodHandle" ∧ yX9_moveBody.cls ≠ "java/lang/invoke/VarHandle" ∧ (parseMethodDescriptor yX9_moveBody.desc).map (fun d => d.parameters.length) = some 2 := by decide +kernel
theorem hv_X9_moveBody : yX9_moveBody.cls = RX9 ∧ yX9_moveBody.cls ≠ "java/lang/invoke/MethodHandle" ∧ yX9_moveBody.cls ≠ "java/lang/invoke/VarHandle" ∧ (parseMethodDescriptor yX9_moveBody.desc).map (fun d => d.parameters.length) = some 2 := ⟨rfl, hy_X9_moveBody⟩
theorem hy_X10_shiftBody : yX10_shiftBody.cls ≠ "java/lang/invoke/MethodHandle" ∧ yX10_shiftBody.cls ≠ "java/lang/invoke/VarHandle" ∧ (parseMethodDescriptor yX10_shiftBody.desc).map (fun d => d.parameters.length) = some 2 := by decide +kernel
theorem hv_X10_shiftBody : yX10_shiftBody.cls = RX10 ∧ yX10_shiftBody.cls ≠ "java/lang/invoke/MethodHandle" ∧ yX10_shiftBody.cls ≠ "java/lang/invoke/VarHandle" ∧ (parseMethodDescriptor yX10_shiftBody.desc).map (fun d => d.parameters.length) = some 2 := ⟨rfl, hy_X10_shiftBody⟩
theorem hy_X10_shift : yX10_shift.cls ≠ "java/lang/invoke/MethodHandle" ∧ yX10_shift.cls ≠ "java/lang/invoke/VarHandle" ∧ (parseMethodDescriptor yX10_shift.desc).map (fun d => d.parameters.length) = some 2 := by decide +kernel
theorem hv_X10_shift : yX10_shift.cls = RX10 ∧ yX10_shift.cls ≠ "java/lang/invoke/MethodHandle" ∧ yX10_shift.cls ≠ "java/lang/invoke/VarHandle" ∧ (parseMethodDescriptor yX10_shift.desc).map (fun d => d.parameters.length) = some 2 := ⟨rfl, hy_X10_shift⟩
theorem hy_X10_isPhaseDone : yX10_isPhaseDone.cls ≠ "java/lang/invoke/MethodHandle" ∧ yX10_isPhaseDone.cls ≠ "java/lang/invoke/VarHandle" ∧ (parseMethodDescriptor yX10_isPhaseDone.desc).map (fun d => d.parameters.length) = some 1 := by decide +kernel
theorem hv_X10_isPhaseDone : yX10_isPhaseDone.cls = RX10 ∧ yX10_isPhaseDone.cls ≠ "java/lang/invoke/MethodHandle" ∧ yX10_isPhaseDone.cls ≠ "java/lang/invoke/VarHandle" ∧ (parseMethodDescriptor yX10_isPhaseDone.desc).map (fun d => d.parameters.length) = some 1 := ⟨rfl, hy_X10_isPhaseDone⟩
theorem hy_X3_goOn : yX3_goOn.cls ≠ "java/lang/invoke/MethodHandle" ∧ yX3_goOn.cls ≠ "java/lang/invoke/VarHandle" ∧ (parseMethodDescriptor yX3_goOn.desc).map (fun d => d.parameters.length) = some 0 := by decide +kernel
theorem hv_X3_goOn : yX3_goOn.cls = RX3 ∧ yX3_goOn.cls ≠ "java/lang/invoke/MethodHandle" ∧ yX3_goOn.cls ≠ "java/lang/invoke/VarHandle" ∧ (parseMethodDescriptor yX3_goOn.desc).map (fun d => d.parameters.length) = some 0 := ⟨rfl, hy_X3_goOn⟩
theorem hy_X10_walk : yX10_walk.cls ≠ "java/lang/invoke/MethodHandle" ∧ yX10_walk.cls ≠ "java/lang/invoke/VarHandle" ∧ (parseMethodDescriptor yX10_walk.desc).map (fun d => d.parameters.length) = some 1 := by decide +kernel
theorem hv_X10_walk : yX10_walk.cls = RX10 ∧ yX10_walk.cls ≠ "java/lang/invoke/MethodHandle" ∧ yX10_walk.cls ≠ "java/lang/invoke/VarHandle" ∧ (parseMethodDescriptor yX10_walk.desc).map (fun d => d.parameters.length) = some 1 := ⟨rfl, hy_X10_walk⟩
theorem hy_X10_machine : yX10_machine.cls ≠ "java/lang/invoke/MethodHandle" ∧ yX10_machine.cls ≠ "java/lang/invoke/VarHandle" ∧ (parseMethodDescriptor yX10_machine.desc).map (fun d => d.parameters.length) = some 1 := by decide +kernel
theorem hv_X10_machine : yX10_machine.cls = RX10 ∧ yX10_machine.cls ≠ "java/lang/invoke/MethodHandle" ∧ yX10_machine.cls ≠ "java/lang/invoke/VarHandle" ∧ (parseMethodDescriptor yX10_machine.desc).map (fun d => d.parameters.length) = some 1 := ⟨rfl, hy_X10_machine⟩
theorem hy_X10_foot : yX10_foot.cls ≠ "java/lang/invoke/MethodHandle" ∧ yX10_foot.cls ≠ "java/lang/invoke/VarHandle" ∧ (parseMethodDescriptor yX10_foot.desc).map (fun d => d.parameters.length) = some 2 := by decide +kernel
theorem hv_X10_foot : yX10_foot.cls = RX10 ∧ yX10_foot.cls ≠ "java/lang/invoke/MethodHandle" ∧ yX10_foot.cls ≠ "java/lang/invoke/VarHandle" ∧ (parseMethodDescriptor yX10_foot.desc).map (fun d => d.parameters.length) = some 2 := ⟨rfl, hy_X10_foot⟩
theorem hy_X10_point : yX10_point.cls ≠ "java/lang/invoke/MethodHandle" ∧ yX10_point.cls ≠ "java/lang/invoke/VarHandle" ∧ (parseMethodDescriptor yX10_point.desc).map (fun d => d.parameters.length) = some 3 := by decide +kernel
theorem hv_X10_point : yX10_point.cls = RX10 ∧ yX10_point.cls ≠ "java/lang/invoke/MethodHandle" ∧ yX10_point.cls ≠ "java/lang/invoke/VarHandle" ∧ (parseMethodDescriptor yX10_point.desc).map (fun d => d.parameters.length) = some 3 := ⟨rfl, hy_X10_point⟩
theorem hy_X10_isStable : yX10_isStable.cls ≠ "java/lang/invoke/MethodHandle" ∧ yX10_isStable.cls ≠ "java/lang/invoke/VarHandle" ∧ (parseMethodDescriptor yX10_isStable.desc).map (fun d => d.parameters.length) = some 0 := by decide +kernel
theorem hv_X10_isStable : yX10_isStable.cls = RX10 ∧ yX10_isStable.cls ≠ "java/lang/invoke/MethodHandle" ∧ yX10_isStable.cls ≠ "java/lang/invoke/VarHandle" ∧ (parseMethodDescriptor yX10_isStable.desc).map (fun d => d.parameters.length) = some 0 := ⟨rfl, hy_X10_isStable⟩
theorem hy_X6_gather : yX6_gather.cls ≠ "java/lang/invoke/MethodHandle" ∧ yX6_gather.cls ≠ "java/lang/invoke/VarHandle" ∧ (parseMethodDescriptor yX6_gather.desc).map (fun d => d.parameters.length) = some 4 := by decide +kernel
theorem hv_X6_gather : yX6_gather.cls = RX6 ∧ yX6_gather.cls ≠ "java/lang/invoke/MethodHandle" ∧ yX6_gather.cls ≠ "java/lang/invoke/VarHandle" ∧ (parseMethodDescriptor yX6_gather.desc).map (fun d => d.parameters.length) = some 4 := ⟨rfl, hy_X6_gather⟩
theorem hy_X6_turn : yX6_turn.cls ≠ "java/lang/invoke/MethodHandle" ∧ yX6_turn.cls ≠ "java/lang/invoke/VarHandle" ∧ (parseMethodDescriptor yX6_turn.desc).map (fun d => d.parameters.length) = some 2 := by decide +kernel
theorem hv_X6_turn : yX6_turn.cls = RX6 ∧ yX6_turn.cls ≠ "java/lang/invoke/MethodHandle" ∧ yX6_turn.cls ≠ "java/lang/invoke/VarHandle" ∧ (parseMethodDescriptor yX6_turn.desc).map (fun d => d.parameters.length) = some 2 := ⟨rfl, hy_X6_turn⟩
theorem hy_X6_isOnLine : yX6_isOnLine.cls ≠ "java/lang/invoke/MethodHandle" ∧ yX6_isOnLine.cls ≠ "java/lang/invoke/VarHandle" ∧ (parseMethodDescriptor yX6_isOnLine.desc).map (fun d => d.parameters.length) = some 2 := by decide +kernel
theorem hv_X6_isOnLine : yX6_isOnLine.cls = RX6 ∧ yX6_isOnLine.cls ≠ "java/lang/invoke/MethodHandle" ∧ yX6_isOnLine.cls ≠ "java/lang/invoke/VarHandle" ∧ (parseMethodDescriptor yX6_isOnLine.desc).map (fun d => d.parameters.length) = some 2 := ⟨rfl, hy_X6_isOnLine⟩
theorem hy_X6_isInTriangle : yX6_isInTriangle.cls ≠ "java/lang/invoke/MethodHandle" ∧ yX6_isInTriangle.cls ≠ "java/lang/invoke/VarHandle" ∧ (parseMethodDescriptor yX6_isInTriangle.desc).map (fun d => d.parameters.length) = some 3 := by decide +kernel
theorem hv_X6_isInTriangle : yX6_isInTriangle.cls = RX6 ∧ yX6_isInTriangle.cls ≠ "java/lang/invoke/MethodHandle" ∧ yX6_isInTriangle.cls ≠ "java/lang/invoke/VarHandle" ∧ (parseMethodDescriptor yX6_isInTriangle.desc).map (fun d => d.parameters.length) = some 3 := ⟨rfl, hy_X6_isInTriangle⟩
theorem hy_X6_holdMoment : yX6_holdMoment.cls ≠ "java/lang/invoke/MethodHandle" ∧ yX6_holdMoment.cls ≠ "java/lang/invoke/VarHandle" ∧ (parseMethodDescriptor yX6_holdMoment.desc).map (fun d => d.parameters.length) = some 0 := by decide +kernel
theorem hv_X6_holdMoment : yX6_holdMoment.cls = RX6 ∧ yX6_holdMoment.cls ≠ "java/lang/invoke/MethodHandle" ∧ yX6_holdMoment.cls ≠ "java/lang/invoke/VarHandle" ∧ (parseMethodDescriptor yX6_holdMoment.desc).map (fun d => d.parameters.length) = some 0 := ⟨rfl, hy_X6_holdMoment⟩
theorem hy_X10_isStableAnew : yX10_isStableAnew.cls ≠ "java/lang/invoke/MethodHandle" ∧ yX10_isStableAnew.cls ≠ "java/lang/invoke/VarHandle" ∧ (parseMethodDescriptor yX10_isStableAnew.desc).map (fun d => d.parameters.length) = some 0 := by decide +kernel
theorem hv_X10_isStableAnew : yX10_isStableAnew.cls = RX10 ∧ yX10_isStableAnew.cls ≠ "java/lang/invoke/MethodHandle" ∧ yX10_isStableAnew.cls ≠ "java/lang/invoke/VarHandle" ∧ (parseMethodDescriptor yX10_isStableAnew.desc).map (fun d => d.parameters.length) = some 0 := ⟨rfl, hy_X10_isStableAnew⟩
theorem hy_X4_squareOfEdge : yX4_squareOfEdge.cls ≠ "java/lang/invoke/MethodHandle" ∧ yX4_squareOfEdge.cls ≠ "java/lang/invoke/VarHandle" ∧ (parseMethodDescriptor yX4_squareOfEdge.desc).map (fun d => d.parameters.length) = some 2 := by decide +kernel
theorem hv_X4_squareOfEdge : yX4_squareOfEdge.cls = RX4 ∧ yX4_squareOfEdge.cls ≠ "java/lang/invoke/MethodHandle" ∧ yX4_squareOfEdge.cls ≠ "java/lang/invoke/VarHandle" ∧ (parseMethodDescriptor yX4_squareOfEdge.desc).map (fun d => d.parameters.length) = some 2 := ⟨rfl, hy_X4_squareOfEdge⟩
theorem hy_X4_leastSquare : yX4_leastSquare.cls ≠ "java/lang/invoke/MethodHandle" ∧ yX4_leastSquare.cls ≠ "java/lang/invoke/VarHandle" ∧ (parseMethodDescriptor yX4_leastSquare.desc).map (fun d => d.parameters.length) = some 3 := by decide +kernel
theorem hv_X4_leastSquare : yX4_leastSquare.cls = RX4 ∧ yX4_leastSquare.cls ≠ "java/lang/invoke/MethodHandle" ∧ yX4_leastSquare.cls ≠ "java/lang/invoke/VarHandle" ∧ (parseMethodDescriptor yX4_leastSquare.desc).map (fun d => d.parameters.length) = some 3 := ⟨rfl, hy_X4_leastSquare⟩
theorem hy_X10_bitsOf : yX10_bitsOf.cls ≠ "java/lang/invoke/MethodHandle" ∧ yX10_bitsOf.cls ≠ "java/lang/invoke/VarHandle" ∧ (parseMethodDescriptor yX10_bitsOf.desc).map (fun d => d.parameters.length) = some 1 := by decide +kernel
theorem hv_X10_bitsOf : yX10_bitsOf.cls = RX10 ∧ yX10_bitsOf.cls ≠ "java/lang/invoke/MethodHandle" ∧ yX10_bitsOf.cls ≠ "java/lang/invoke/VarHandle" ∧ (parseMethodDescriptor yX10_bitsOf.desc).map (fun d => d.parameters.length) = some 1 := ⟨rfl, hy_X10_bitsOf⟩
theorem hy_X10_margin : yX10_margin.cls ≠ "java/lang/invoke/MethodHandle" ∧ yX10_margin.cls ≠ "java/lang/invoke/VarHandle" ∧ (parseMethodDescriptor yX10_margin.desc).map (fun d => d.parameters.length) = some 0 := by decide +kernel
theorem hv_X10_margin : yX10_margin.cls = RX10 ∧ yX10_margin.cls ≠ "java/lang/invoke/MethodHandle" ∧ yX10_margin.cls ≠ "java/lang/invoke/VarHandle" ∧ (parseMethodDescriptor yX10_margin.desc).map (fun d => d.parameters.length) = some 0 := ⟨rfl, hy_X10_margin⟩
theorem hy_X10_corner : yX10_corner.cls ≠ "java/lang/invoke/MethodHandle" ∧ yX10_corner.cls ≠ "java/lang/invoke/VarHandle" ∧ (parseMethodDescriptor yX10_corner.desc).map (fun d => d.parameters.length) = some 1 := by decide +kernel
theorem hv_X10_corner : yX10_corner.cls = RX10 ∧ yX10_corner.cls ≠ "java/lang/invoke/MethodHandle" ∧ yX10_corner.cls ≠ "java/lang/invoke/VarHandle" ∧ (parseMethodDescriptor yX10_corner.desc).map (fun d => d.parameters.length) = some 1 := ⟨rfl, hy_X10_corner⟩
theorem hy_X9_bestPoint : yX9_bestPoint.cls ≠ "java/lang/invoke/MethodHandle" ∧ yX9_bestPoint.cls ≠ "java/lang/invoke/VarHandle" ∧ (parseMethodDescriptor yX9_bestPoint.desc).map (fun d => d.parameters.length) = some 1 := by decide +kernel
theorem hv_X9_bestPoint : yX9_bestPoint.cls = RX9 ∧ yX9_bestPoint.cls ≠ "java/lang/invoke/MethodHandle" ∧ yX9_bestPoint.cls ≠ "java/lang/invoke/VarHandle" ∧ (parseMethodDescriptor yX9_bestPoint.desc).map (fun d => d.parameters.length) = some 1 := ⟨rfl, hy_X9_bestPoint⟩
theorem hy_X10_foothold : yX10_foothold.cls ≠ "java/lang/invoke/MethodHandle" ∧ yX10_foothold.cls ≠ "java/lang/invoke/VarHandle" ∧ (parseMethodDescriptor yX10_foothold.desc).map (fun d => d.parameters.length) = some 1 := by decide +kernel
theorem hv_X10_foothold : yX10_foothold.cls = RX10 ∧ yX10_foothold.cls ≠ "java/lang/invoke/MethodHandle" ∧ yX10_foothold.cls ≠ "java/lang/invoke/VarHandle" ∧ (parseMethodDescriptor yX10_foothold.desc).map (fun d => d.parameters.length) = some 1 := ⟨rfl, hy_X10_foothold⟩
theorem hy_X9_sinkAway : yX9_sinkAway.cls ≠ "java/lang/invoke/MethodHandle" ∧ yX9_sinkAway.cls ≠ "java/lang/invoke/VarHandle" ∧ (parseMethodDescriptor yX9_sinkAway.desc).map (fun d => d.parameters.length) = some 0 := by decide +kernel
theorem hv_X9_sinkAway : yX9_sinkAway.cls = RX9 ∧ yX9_sinkAway.cls ≠ "java/lang/invoke/MethodHandle" ∧ yX9_sinkAway.cls ≠ "java/lang/invoke/VarHandle" ∧ (parseMethodDescriptor yX9_sinkAway.desc).map (fun d => d.parameters.length) = some 0 := ⟨rfl, hy_X9_sinkAway⟩
theorem hy_X10_wouldLift : yX10_wouldLift.cls ≠ "java/lang/invoke/MethodHandle" ∧ yX10_wouldLift.cls ≠ "java/lang/invoke/VarHandle" ∧ (parseMethodDescriptor yX10_wouldLift.desc).map (fun d => d.parameters.length) = some 1 := by decide +kernel
theorem hv_X10_wouldLift : yX10_wouldLift.cls = RX10 ∧ yX10_wouldLift.cls ≠ "java/lang/invoke/MethodHandle" ∧ yX10_wouldLift.cls ≠ "java/lang/invoke/VarHandle" ∧ (parseMethodDescriptor yX10_wouldLift.desc).map (fun d => d.parameters.length) = some 1 := ⟨rfl, hy_X10_wouldLift⟩
theorem hy_X7_start : yX7_start.cls ≠ "java/lang/invoke/MethodHandle" ∧ yX7_start.cls ≠ "java/lang/invoke/VarHandle" ∧ (parseMethodDescriptor yX7_start.desc).map (fun d => d.parameters.length) = some 2 := by decide +kernel
theorem hv_X7_start : yX7_start.cls = RX7 ∧ yX7_start.cls ≠ "java/lang/invoke/MethodHandle" ∧ yX7_start.cls ≠ "java/lang/invoke/VarHandle" ∧ (parseMethodDescriptor yX7_start.desc).map (fun d => d.parameters.length) = some 2 := ⟨rfl, hy_X7_start⟩
theorem hy_X7_away : yX7_away.cls ≠ "java/lang/invoke/MethodHandle" ∧ yX7_away.cls ≠ "java/lang/invoke/VarHandle" ∧ (parseMethodDescriptor yX7_away.desc).map (fun d => d.parameters.length) = some 1 := by decide +kernel
theorem hv_X7_away : yX7_away.cls = RX7 ∧ yX7_away.cls ≠ "java/lang/invoke/MethodHandle" ∧ yX7_away.cls ≠ "java/lang/invoke/VarHandle" ∧ (parseMethodDescriptor yX7_away.desc).map (fun d => d.parameters.length) = some 1 := ⟨rfl, hy_X7_away⟩
theorem hy_X9_step : yX9_step.cls ≠ "java/lang/invoke/MethodHandle" ∧ yX9_step.cls ≠ "java/lang/invoke/VarHandle" ∧ (parseMethodDescriptor yX9_step.desc).map (fun d => d.parameters.length) = some 1 := by decide +kernel
theorem hv_X9_step : yX9_step.cls = RX9 ∧ yX9_step.cls ≠ "java/lang/invoke/MethodHandle" ∧ yX9_step.cls ≠ "java/lang/invoke/VarHandle" ∧ (parseMethodDescriptor yX9_step.desc).map (fun d => d.parameters.length) = some 1 := ⟨rfl, hy_X9_step⟩
theorem hy_X7_isMade : yX7_isMade.cls ≠ "java/lang/invoke/MethodHandle" ∧ yX7_isMade.cls ≠ "java/lang/invoke/VarHandle" ∧ (parseMethodDescriptor yX7_isMade.desc).map (fun d => d.parameters.length) = some 2 := by decide +kernel
theorem hv_X7_isMade : yX7_isMade.cls = RX7 ∧ yX7_isMade.cls ≠ "java/lang/invoke/MethodHandle" ∧ yX7_isMade.cls ≠ "java/lang/invoke/VarHandle" ∧ (parseMethodDescriptor yX7_isMade.desc).map (fun d => d.parameters.length) = some 2 := ⟨rfl, hy_X7_isMade⟩
theorem hy_X10_isReachedBy : yX10_isReachedBy.cls ≠ "java/lang/invoke/MethodHandle" ∧ yX10_isReachedBy.cls ≠ "java/lang/invoke/VarHandle" ∧ (parseMethodDescriptor yX10_isReachedBy.desc).map (fun d => d.parameters.length) = some 3 := by decide +kernel
theorem hv_X10_isReachedBy : yX10_isReachedBy.cls = RX10 ∧ yX10_isReachedBy.cls ≠ "java/lang/invoke/MethodHandle" ∧ yX10_isReachedBy.cls ≠ "java/lang/invoke/VarHandle" ∧ (parseMethodDescriptor yX10_isReachedBy.desc).map (fun d => d.parameters.length) = some 3 := ⟨rfl, hy_X10_isReachedBy⟩
theorem hy_X10_fewest : yX10_fewest.cls ≠ "java/lang/invoke/MethodHandle" ∧ yX10_fewest.cls ≠ "java/lang/invoke/VarHandle" ∧ (parseMethodDescriptor yX10_fewest.desc).map (fun d => d.parameters.length) = some 2 := by decide +kernel
theorem hv_X10_fewest : yX10_fewest.cls = RX10 ∧ yX10_fewest.cls ≠ "java/lang/invoke/MethodHandle" ∧ yX10_fewest.cls ≠ "java/lang/invoke/VarHandle" ∧ (parseMethodDescriptor yX10_fewest.desc).map (fun d => d.parameters.length) = some 2 := ⟨rfl, hy_X10_fewest⟩
theorem hy_X10_shortestRow : yX10_shortestRow.cls ≠ "java/lang/invoke/MethodHandle" ∧ yX10_shortestRow.cls ≠ "java/lang/invoke/VarHandle" ∧ (parseMethodDescriptor yX10_shortestRow.desc).map (fun d => d.parameters.length) = some 2 := by decide +kernel
theorem hv_X10_shortestRow : yX10_shortestRow.cls = RX10 ∧ yX10_shortestRow.cls ≠ "java/lang/invoke/MethodHandle" ∧ yX10_shortestRow.cls ≠ "java/lang/invoke/VarHandle" ∧ (parseMethodDescriptor yX10_shortestRow.desc).map (fun d => d.parameters.length) = some 2 := ⟨rfl, hy_X10_shortestRow⟩
theorem hy_X10_fewestAnew : yX10_fewestAnew.cls ≠ "java/lang/invoke/MethodHandle" ∧ yX10_fewestAnew.cls ≠ "java/lang/invoke/VarHandle" ∧ (parseMethodDescriptor yX10_fewestAnew.desc).map (fun d => d.parameters.length) = some 2 := by decide +kernel
theorem hv_X10_fewestAnew : yX10_fewestAnew.cls = RX10 ∧ yX10_fewestAnew.cls ≠ "java/lang/invoke/MethodHandle" ∧ yX10_fewestAnew.cls ≠ "java/lang/invoke/VarHandle" ∧ (parseMethodDescriptor yX10_fewestAnew.desc).map (fun d => d.parameters.length) = some 2 := ⟨rfl, hy_X10_fewestAnew⟩
theorem hy_X1_kept : yX1_kept.cls ≠ "java/lang/invoke/MethodHandle" ∧ yX1_kept.cls ≠ "java/lang/invoke/VarHandle" ∧ (parseMethodDescriptor yX1_kept.desc).map (fun d => d.parameters.length) = some 0 := by decide +kernel
theorem hv_X1_kept : yX1_kept.cls = RX1 ∧ yX1_kept.cls ≠ "java/lang/invoke/MethodHandle" ∧ yX1_kept.cls ≠ "java/lang/invoke/VarHandle" ∧ (parseMethodDescriptor yX1_kept.desc).map (fun d => d.parameters.length) = some 0 := ⟨rfl, hy_X1_kept⟩
theorem hy_X10_fall : yX10_fall.cls ≠ "java/lang/invoke/MethodHandle" ∧ yX10_fall.cls ≠ "java/lang/invoke/VarHandle" ∧ (parseMethodDescriptor yX10_fall.desc).map (fun d => d.parameters.length) = some 2 := by decide +kernel
theorem hv_X10_fall : yX10_fall.cls = RX10 ∧ yX10_fall.cls ≠ "java/lang/invoke/MethodHandle" ∧ yX10_fall.cls ≠ "java/lang/invoke/VarHandle" ∧ (parseMethodDescriptor yX10_fall.desc).map (fun d => d.parameters.length) = some 2 := ⟨rfl, hy_X10_fall⟩
theorem hy_L_part : yL_part.cls ≠ "java/lang/invoke/MethodHandle" ∧ yL_part.cls ≠ "java/lang/invoke/VarHandle" ∧ (parseMethodDescriptor yL_part.desc).map (fun d => d.parameters.length) = some 3 := by decide +kernel
theorem hv_L_part : yL_part.cls = RL ∧ yL_part.cls ≠ "java/lang/invoke/MethodHandle" ∧ yL_part.cls ≠ "java/lang/invoke/VarHandle" ∧ (parseMethodDescriptor yL_part.desc).map (fun d => d.parameters.length) = some 3 := ⟨rfl, hy_L_part⟩
theorem hy_L_does : yL_does.cls ≠ "java/lang/invoke/MethodHandle" ∧ yL_does.cls ≠ "java/lang/invoke/VarHandle" ∧ (parseMethodDescriptor yL_does.desc).map (fun d => d.parameters.length) = some 7 := by decide +kernel
theorem hv_L_does : yL_does.cls = RL ∧ yL_does.cls ≠ "java/lang/invoke/MethodHandle" ∧ yL_does.cls ≠ "java/lang/invoke/VarHandle" ∧ (parseMethodDescriptor yL_does.desc).map (fun d => d.parameters.length) = some 7 := ⟨rfl, hy_L_does⟩
theorem hy_L_four : yL_four.cls ≠ "java/lang/invoke/MethodHandle" ∧ yL_four.cls ≠ "java/lang/invoke/VarHandle" ∧ (parseMethodDescriptor yL_four.desc).map (fun d => d.parameters.length) = some 2 := by decide +kernel
theorem hv_L_four : yL_four.cls = RL ∧ yL_four.cls ≠ "java/lang/invoke/MethodHandle" ∧ yL_four.cls ≠ "java/lang/invoke/VarHandle" ∧ (parseMethodDescriptor yL_four.desc).map (fun d => d.parameters.length) = some 2 := ⟨rfl, hy_L_four⟩
theorem hy_L_sets : yL_sets.cls ≠ "java/lang/invoke/MethodHandle" ∧ yL_sets.cls ≠ "java/lang/invoke/VarHandle" ∧ (parseMethodDescriptor yL_sets.desc).map (fun d => d.parameters.length) = some 3 := by decide +kernel
theorem hv_L_sets : yL_sets.cls = RL ∧ yL_sets.cls ≠ "java/lang/invoke/MethodHandle" ∧ yL_sets.cls ≠ "java/lang/invoke/VarHandle" ∧ (parseMethodDescriptor yL_sets.desc).map (fun d => d.parameters.length) = some 3 := ⟨rfl, hy_L_sets⟩
theorem hy_L_firm : yL_firm.cls ≠ "java/lang/invoke/MethodHandle" ∧ yL_firm.cls ≠ "java/lang/invoke/VarHandle" ∧ (parseMethodDescriptor yL_firm.desc).map (fun d => d.parameters.length) = some 2 := by decide +kernel
theorem hv_L_firm : yL_firm.cls = RL ∧ yL_firm.cls ≠ "java/lang/invoke/MethodHandle" ∧ yL_firm.cls ≠ "java/lang/invoke/VarHandle" ∧ (parseMethodDescriptor yL_firm.desc).map (fun d => d.parameters.length) = some 2 := ⟨rfl, hy_L_firm⟩
theorem hy_L_hipX : yL_hipX.cls ≠ "java/lang/invoke/MethodHandle" ∧ yL_hipX.cls ≠ "java/lang/invoke/VarHandle" ∧ (parseMethodDescriptor yL_hipX.desc).map (fun d => d.parameters.length) = some 3 := by decide +kernel
theorem hv_L_hipX : yL_hipX.cls = RL ∧ yL_hipX.cls ≠ "java/lang/invoke/MethodHandle" ∧ yL_hipX.cls ≠ "java/lang/invoke/VarHandle" ∧ (parseMethodDescriptor yL_hipX.desc).map (fun d => d.parameters.length) = some 3 := ⟨rfl, hy_L_hipX⟩
theorem hy_L_hipY : yL_hipY.cls ≠ "java/lang/invoke/MethodHandle" ∧ yL_hipY.cls ≠ "java/lang/invoke/VarHandle" ∧ (parseMethodDescriptor yL_hipY.desc).map (fun d => d.parameters.length) = some 3 := by decide +kernel
theorem hv_L_hipY : yL_hipY.cls = RL ∧ yL_hipY.cls ≠ "java/lang/invoke/MethodHandle" ∧ yL_hipY.cls ≠ "java/lang/invoke/VarHandle" ∧ (parseMethodDescriptor yL_hipY.desc).map (fun d => d.parameters.length) = some 3 := ⟨rfl, hy_L_hipY⟩
theorem hy_L_isIn : yL_isIn.cls ≠ "java/lang/invoke/MethodHandle" ∧ yL_isIn.cls ≠ "java/lang/invoke/VarHandle" ∧ (parseMethodDescriptor yL_isIn.desc).map (fun d => d.parameters.length) = some 2 := by decide +kernel
theorem hv_L_isIn : yL_isIn.cls = RL ∧ yL_isIn.cls ≠ "java/lang/invoke/MethodHandle" ∧ yL_isIn.cls ≠ "java/lang/invoke/VarHandle" ∧ (parseMethodDescriptor yL_isIn.desc).map (fun d => d.parameters.length) = some 2 := ⟨rfl, hy_L_isIn⟩
theorem hy_L_isNear : yL_isNear.cls ≠ "java/lang/invoke/MethodHandle" ∧ yL_isNear.cls ≠ "java/lang/invoke/VarHandle" ∧ (parseMethodDescriptor yL_isNear.desc).map (fun d => d.parameters.length) = some 5 := by decide +kernel
theorem hv_L_isNear : yL_isNear.cls = RL ∧ yL_isNear.cls ≠ "java/lang/invoke/MethodHandle" ∧ yL_isNear.cls ≠ "java/lang/invoke/VarHandle" ∧ (parseMethodDescriptor yL_isNear.desc).map (fun d => d.parameters.length) = some 5 := ⟨rfl, hy_L_isNear⟩
theorem hy_L_far : yL_far.cls ≠ "java/lang/invoke/MethodHandle" ∧ yL_far.cls ≠ "java/lang/invoke/VarHandle" ∧ (parseMethodDescriptor yL_far.desc).map (fun d => d.parameters.length) = some 5 := by decide +kernel
theorem hv_L_far : yL_far.cls = RL ∧ yL_far.cls ≠ "java/lang/invoke/MethodHandle" ∧ yL_far.cls ≠ "java/lang/invoke/VarHandle" ∧ (parseMethodDescriptor yL_far.desc).map (fun d => d.parameters.length) = some 5 := ⟨rfl, hy_L_far⟩
theorem hy_L_isTaken : yL_isTaken.cls ≠ "java/lang/invoke/MethodHandle" ∧ yL_isTaken.cls ≠ "java/lang/invoke/VarHandle" ∧ (parseMethodDescriptor yL_isTaken.desc).map (fun d => d.parameters.length) = some 5 := by decide +kernel
theorem hv_L_isTaken : yL_isTaken.cls = RL ∧ yL_isTaken.cls ≠ "java/lang/invoke/MethodHandle" ∧ yL_isTaken.cls ≠ "java/lang/invoke/VarHandle" ∧ (parseMethodDescriptor yL_isTaken.desc).map (fun d => d.parameters.length) = some 5 := ⟨rfl, hy_L_isTaken⟩
theorem hy_L_holds : yL_holds.cls ≠ "java/lang/invoke/MethodHandle" ∧ yL_holds.cls ≠ "java/lang/invoke/VarHandle" ∧ (parseMethodDescriptor yL_holds.desc).map (fun d => d.parameters.length) = some 4 := by decide +kernel
theorem hv_L_holds : yL_holds.cls = RL ∧ yL_holds.cls ≠ "java/lang/invoke/MethodHandle" ∧ yL_holds.cls ≠ "java/lang/invoke/VarHandle" ∧ (parseMethodDescriptor yL_holds.desc).map (fun d => d.parameters.length) = some 4 := ⟨rfl, hy_L_holds⟩
theorem hy_L_many : yL_many.cls ≠ "java/lang/invoke/MethodHandle" ∧ yL_many.cls ≠ "java/lang/invoke/VarHandle" ∧ (parseMethodDescriptor yL_many.desc).map (fun d => d.parameters.length) = some 1 := by decide +kernel
theorem hv_L_many : yL_many.cls = RL ∧ yL_many.cls ≠ "java/lang/invoke/MethodHandle" ∧ yL_many.cls ≠ "java/lang/invoke/VarHandle" ∧ (parseMethodDescriptor yL_many.desc).map (fun d => d.parameters.length) = some 1 := ⟨rfl, hy_L_many⟩
theorem hy_L_pressure : yL_pressure.cls ≠ "java/lang/invoke/MethodHandle" ∧ yL_pressure.cls ≠ "java/lang/invoke/VarHandle" ∧ (parseMethodDescriptor yL_pressure.desc).map (fun d => d.parameters.length) = some 2 := by decide +kernel
theorem hv_L_pressure : yL_pressure.cls = RL ∧ yL_pressure.cls ≠ "java/lang/invoke/MethodHandle" ∧ yL_pressure.cls ≠ "java/lang/invoke/VarHandle" ∧ (parseMethodDescriptor yL_pressure.desc).map (fun d => d.parameters.length) = some 2 := ⟨rfl, hy_L_pressure⟩
theorem hy_L_level : yL_level.cls ≠ "java/lang/invoke/MethodHandle" ∧ yL_level.cls ≠ "java/lang/invoke/VarHandle" ∧ (parseMethodDescriptor yL_level.desc).map (fun d => d.parameters.length) = some 4 := by decide +kernel
theorem hv_L_level : yL_level.cls = RL ∧ yL_level.cls ≠ "java/lang/invoke/MethodHandle" ∧ yL_level.cls ≠ "java/lang/invoke/VarHandle" ∧ (parseMethodDescriptor yL_level.desc).map (fun d => d.parameters.length) = some 4 := ⟨rfl, hy_L_level⟩
theorem hy_L_breaks : yL_breaks.cls ≠ "java/lang/invoke/MethodHandle" ∧ yL_breaks.cls ≠ "java/lang/invoke/VarHandle" ∧ (parseMethodDescriptor yL_breaks.desc).map (fun d => d.parameters.length) = some 3 := by decide +kernel
theorem hv_L_breaks : yL_breaks.cls = RL ∧ yL_breaks.cls ≠ "java/lang/invoke/MethodHandle" ∧ yL_breaks.cls ≠ "java/lang/invoke/VarHandle" ∧ (parseMethodDescriptor yL_breaks.desc).map (fun d => d.parameters.length) = some 3 := ⟨rfl, hy_L_breaks⟩
theorem hy_L_sinking : yL_sinking.cls ≠ "java/lang/invoke/MethodHandle" ∧ yL_sinking.cls ≠ "java/lang/invoke/VarHandle" ∧ (parseMethodDescriptor yL_sinking.desc).map (fun d => d.parameters.length) = some 5 := by decide +kernel
theorem hv_L_sinking : yL_sinking.cls = RL ∧ yL_sinking.cls ≠ "java/lang/invoke/MethodHandle" ∧ yL_sinking.cls ≠ "java/lang/invoke/VarHandle" ∧ (parseMethodDescriptor yL_sinking.desc).map (fun d => d.parameters.length) = some 5 := ⟨rfl, hy_L_sinking⟩
theorem hy_L_settles : yL_settles.cls ≠ "java/lang/invoke/MethodHandle" ∧ yL_settles.cls ≠ "java/lang/invoke/VarHandle" ∧ (parseMethodDescriptor yL_settles.desc).map (fun d => d.parameters.length) = some 6 := by decide +kernel
theorem hv_L_settles : yL_settles.cls = RL ∧ yL_settles.cls ≠ "java/lang/invoke/MethodHandle" ∧ yL_settles.cls ≠ "java/lang/invoke/VarHandle" ∧ (parseMethodDescriptor yL_settles.desc).map (fun d => d.parameters.length) = some 6 := ⟨rfl, hy_L_settles⟩
theorem hy_L_comes : yL_comes.cls ≠ "java/lang/invoke/MethodHandle" ∧ yL_comes.cls ≠ "java/lang/invoke/VarHandle" ∧ (parseMethodDescriptor yL_comes.desc).map (fun d => d.parameters.length) = some 9 := by decide +kernel
theorem hv_L_comes : yL_comes.cls = RL ∧ yL_comes.cls ≠ "java/lang/invoke/MethodHandle" ∧ yL_comes.cls ≠ "java/lang/invoke/VarHandle" ∧ (parseMethodDescriptor yL_comes.desc).map (fun d => d.parameters.length) = some 9 := ⟨rfl, hy_L_comes⟩
theorem hy_L_lifts : yL_lifts.cls ≠ "java/lang/invoke/MethodHandle" ∧ yL_lifts.cls ≠ "java/lang/invoke/VarHandle" ∧ (parseMethodDescriptor yL_lifts.desc).map (fun d => d.parameters.length) = some 7 := by decide +kernel
theorem hv_L_lifts : yL_lifts.cls = RL ∧ yL_lifts.cls ≠ "java/lang/invoke/MethodHandle" ∧ yL_lifts.cls ≠ "java/lang/invoke/VarHandle" ∧ (parseMethodDescriptor yL_lifts.desc).map (fun d => d.parameters.length) = some 7 := ⟨rfl, hy_L_lifts⟩
theorem hy_L_places : yL_places.cls ≠ "java/lang/invoke/MethodHandle" ∧ yL_places.cls ≠ "java/lang/invoke/VarHandle" ∧ (parseMethodDescriptor yL_places.desc).map (fun d => d.parameters.length) = some 11 := by decide +kernel
theorem hv_L_places : yL_places.cls = RL ∧ yL_places.cls ≠ "java/lang/invoke/MethodHandle" ∧ yL_places.cls ≠ "java/lang/invoke/VarHandle" ∧ (parseMethodDescriptor yL_places.desc).map (fun d => d.parameters.length) = some 11 := ⟨rfl, hy_L_places⟩
theorem hy_L_canShift : yL_canShift.cls ≠ "java/lang/invoke/MethodHandle" ∧ yL_canShift.cls ≠ "java/lang/invoke/VarHandle" ∧ (parseMethodDescriptor yL_canShift.desc).map (fun d => d.parameters.length) = some 6 := by decide +kernel
theorem hv_L_canShift : yL_canShift.cls = RL ∧ yL_canShift.cls ≠ "java/lang/invoke/MethodHandle" ∧ yL_canShift.cls ≠ "java/lang/invoke/VarHandle" ∧ (parseMethodDescriptor yL_canShift.desc).map (fun d => d.parameters.length) = some 6 := ⟨rfl, hy_L_canShift⟩
theorem hy_L_shifts : yL_shifts.cls ≠ "java/lang/invoke/MethodHandle" ∧ yL_shifts.cls ≠ "java/lang/invoke/VarHandle" ∧ (parseMethodDescriptor yL_shifts.desc).map (fun d => d.parameters.length) = some 9 := by decide +kernel
theorem hv_L_shifts : yL_shifts.cls = RL ∧ yL_shifts.cls ≠ "java/lang/invoke/MethodHandle" ∧ yL_shifts.cls ≠ "java/lang/invoke/VarHandle" ∧ (parseMethodDescriptor yL_shifts.desc).map (fun d => d.parameters.length) = some 9 := ⟨rfl, hy_L_shifts⟩
theorem hy_L_nearest : yL_nearest.cls ≠ "java/lang/invoke/MethodHandle" ∧ yL_nearest.cls ≠ "java/lang/invoke/VarHandle" ∧ (parseMethodDescriptor yL_nearest.desc).map (fun d => d.parameters.length) = some 1 := by decide +kernel
theorem hv_L_nearest : yL_nearest.cls = RL ∧ yL_nearest.cls ≠ "java/lang/invoke/MethodHandle" ∧ yL_nearest.cls ≠ "java/lang/invoke/VarHandle" ∧ (parseMethodDescriptor yL_nearest.desc).map (fun d => d.parameters.length) = some 1 := ⟨rfl, hy_L_nearest⟩
theorem hy_L_bits : yL_bits.cls ≠ "java/lang/invoke/MethodHandle" ∧ yL_bits.cls ≠ "java/lang/invoke/VarHandle" ∧ (parseMethodDescriptor yL_bits.desc).map (fun d => d.parameters.length) = some 2 := by decide +kernel
theorem hv_L_bits : yL_bits.cls = RL ∧ yL_bits.cls ≠ "java/lang/invoke/MethodHandle" ∧ yL_bits.cls ≠ "java/lang/invoke/VarHandle" ∧ (parseMethodDescriptor yL_bits.desc).map (fun d => d.parameters.length) = some 2 := ⟨rfl, hy_L_bits⟩
theorem hy_L_isEdge : yL_isEdge.cls ≠ "java/lang/invoke/MethodHandle" ∧ yL_isEdge.cls ≠ "java/lang/invoke/VarHandle" ∧ (parseMethodDescriptor yL_isEdge.desc).map (fun d => d.parameters.length) = some 5 := by decide +kernel
theorem hv_L_isEdge : yL_isEdge.cls = RL ∧ yL_isEdge.cls ≠ "java/lang/invoke/MethodHandle" ∧ yL_isEdge.cls ≠ "java/lang/invoke/VarHandle" ∧ (parseMethodDescriptor yL_isEdge.desc).map (fun d => d.parameters.length) = some 5 := ⟨rfl, hy_L_isEdge⟩
theorem hy_L_isSo : yL_isSo.cls ≠ "java/lang/invoke/MethodHandle" ∧ yL_isSo.cls ≠ "java/lang/invoke/VarHandle" ∧ (parseMethodDescriptor yL_isSo.desc).map (fun d => d.parameters.length) = some 11 := by decide +kernel
theorem hv_L_isSo : yL_isSo.cls = RL ∧ yL_isSo.cls ≠ "java/lang/invoke/MethodHandle" ∧ yL_isSo.cls ≠ "java/lang/invoke/VarHandle" ∧ (parseMethodDescriptor yL_isSo.desc).map (fun d => d.parameters.length) = some 11 := ⟨rfl, hy_L_isSo⟩
theorem hy_L_isTold : yL_isTold.cls ≠ "java/lang/invoke/MethodHandle" ∧ yL_isTold.cls ≠ "java/lang/invoke/VarHandle" ∧ (parseMethodDescriptor yL_isTold.desc).map (fun d => d.parameters.length) = some 12 := by decide +kernel
theorem hv_L_isTold : yL_isTold.cls = RL ∧ yL_isTold.cls ≠ "java/lang/invoke/MethodHandle" ∧ yL_isTold.cls ≠ "java/lang/invoke/VarHandle" ∧ (parseMethodDescriptor yL_isTold.desc).map (fun d => d.parameters.length) = some 12 := ⟨rfl, hy_L_isTold⟩
theorem hy_L_isDone : yL_isDone.cls ≠ "java/lang/invoke/MethodHandle" ∧ yL_isDone.cls ≠ "java/lang/invoke/VarHandle" ∧ (parseMethodDescriptor yL_isDone.desc).map (fun d => d.parameters.length) = some 13 := by decide +kernel
theorem hv_L_isDone : yL_isDone.cls = RL ∧ yL_isDone.cls ≠ "java/lang/invoke/MethodHandle" ∧ yL_isDone.cls ≠ "java/lang/invoke/VarHandle" ∧ (parseMethodDescriptor yL_isDone.desc).map (fun d => d.parameters.length) = some 13 := ⟨rfl, hy_L_isDone⟩
theorem hy_L_law : yL_law.cls ≠ "java/lang/invoke/MethodHandle" ∧ yL_law.cls ≠ "java/lang/invoke/VarHandle" ∧ (parseMethodDescriptor yL_law.desc).map (fun d => d.parameters.length) = some 1 := by decide +kernel
theorem hv_L_law : yL_law.cls = RL ∧ yL_law.cls ≠ "java/lang/invoke/MethodHandle" ∧ yL_law.cls ≠ "java/lang/invoke/VarHandle" ∧ (parseMethodDescriptor yL_law.desc).map (fun d => d.parameters.length) = some 1 := ⟨rfl, hy_L_law⟩
theorem nst_X10_11 : (RX10, 11, yX4_init) ∈ jNest := List.mem_of_getElem? (i := 12) rfl
theorem nst_X10_14 : (RX10, 14, yX5_init) ∈ jNest := List.mem_of_getElem? (i := 13) rfl
theorem nst_X10_21 : (RX10, 21, yX2_init) ∈ jNest := List.mem_of_getElem? (i := 14) rfl
theorem nst_X10_40 : (RX10, 40, yX6_init) ∈ jNest := List.mem_of_getElem? (i := 15) rfl
theorem nst_X10_47 : (RX10, 47, yX0_init) ∈ jNest := List.mem_of_getElem? (i := 16) rfl
theorem nst_X10_54 : (RX10, 54, yX1_init) ∈ jNest := List.mem_of_getElem? (i := 17) rfl
theorem nst_X10_61 : (RX10, 61, yX3_init) ∈ jNest := List.mem_of_getElem? (i := 18) rfl
theorem nst_X4_55 : (RX4, 55, yX10_isWithin) ∈ jNest := List.mem_of_getElem? (i := 0) rfl
theorem nst_X5_49 : (RX5, 49, yX10_xOf) ∈ jNest := List.mem_of_getElem? (i := 1) rfl
theorem nst_X5_52 : (RX5, 52, yX10_yOf) ∈ jNest := List.mem_of_getElem? (i := 2) rfl
theorem nst_X5_55 : (RX5, 55, yX10_pointAt) ∈ jNest := List.mem_of_getElem? (i := 3) rfl
theorem nst_X6_31 : (RX6, 31, yX10_xOf) ∈ jNest := List.mem_of_getElem? (i := 4) rfl
theorem nst_X6_37 : (RX6, 37, yX10_yOf) ∈ jNest := List.mem_of_getElem? (i := 5) rfl
theorem nst_X7_35 : (RX7, 35, yX10_xOf) ∈ jNest := List.mem_of_getElem? (i := 6) rfl
theorem nst_X7_47 : (RX7, 47, yX10_yOf) ∈ jNest := List.mem_of_getElem? (i := 7) rfl
theorem nst_X9_138 : (RX9, 138, yX10_pointAt) ∈ jNest := List.mem_of_getElem? (i := 11) rfl
theorem nst_X9_55 : (RX9, 55, yX10_xOf) ∈ jNest := List.mem_of_getElem? (i := 8) rfl
theorem nst_X9_60 : (RX9, 60, yX10_yOf) ∈ jNest := List.mem_of_getElem? (i := 9) rfl
theorem nst_X9_89 : (RX9, 89, yX10_roundedUp) ∈ jNest := List.mem_of_getElem? (i := 10) rfl
theorem jfit : ∀ q ∈ jexc, Bundle.fit q.2 = true := by decide +kernel
theorem jgo_93 : ∀ w ∈ Cond.classLink RX10 89 "java/lang/IllegalArgumentException" :: Cond.initialized "java/lang/IllegalArgumentException" :: vx_atS RX10 93 "java/lang/IllegalArgumentException" jexcN, vx_ot w = true := by decide +kernel
theorem jgo_104 : ∀ w ∈ Cond.classLink RX10 100 "java/lang/IllegalStateException" :: Cond.initialized "java/lang/IllegalStateException" :: vx_atS RX10 104 "java/lang/IllegalStateException" jexcN, vx_ot w = true := by decide +kernel
theorem jgo_159 : ∀ w ∈ Cond.classLink RX10 155 "java/lang/IndexOutOfBoundsException" :: Cond.initialized "java/lang/IndexOutOfBoundsException" :: vx_atS RX10 159 "java/lang/IndexOutOfBoundsException" jexcN, vx_ot w = true := by decide +kernel
/-! the words of all methods, in one list: written by wip/p27/make.py -/
def jW_0 : List Cond := [Cond.arrayClass .int, Cond.fieldLink RX8 7 "Gaitwright$Row" "cells" "[I", Cond.code yJ7_fill_53178 cJ7_fill_53178 4 none, Cond.methodLink RX8 13 yJ7_fill_53178, Cond.static yJ7_fill_53178, Cond.initialized RJ7, Cond.methodLink RX8 1 objectInit, Cond.instanceMethod objectInit, Cond.code objectInit ⟨#[0xb1]⟩ 1 none, Cond.methodLink RX4 3 objectInit, Cond.classLink RX4 9 RX8, Cond.instantiable RX8 1, Cond.initialized RX8, Cond.code yX8_init cX8_init 3 none, Cond.methodLink RX4 11 yX8_init, Cond.instanceMethod yX8_init, Cond.fieldLink RX4 14 "Gaitwright$Hull" "corners" "LGaitwright$Row;", Cond.fieldLink RX4 20 "Gaitwright$Hull" "points" "LGaitwright$Row;", Cond.fieldLink RX4 23 "Gaitwright$Hull" "size" "I", Cond.methodLink RX5 3 objectInit, Cond.classLink RX5 9 RX8, Cond.methodLink RX5 11 yX8_init, Cond.fieldLink RX5 14 "Gaitwright$Land" "height" "LGaitwright$Row;", Cond.fieldLink RX5 20 "Gaitwright$Land" "firmness" "LGaitwright$Row;", Cond.fieldLink RX5 23 "Gaitwright$Land" "grip" "LGaitwright$Row;", Cond.fieldLink RX5 26 "Gaitwright$Land" "mapped" "LGaitwright$Row;", Cond.methodLink RX2 3 objectInit, Cond.classLink RX2 9 RX8, Cond.methodLink RX2 11 yX8_init, Cond.fieldLink RX2 14 "Gaitwright$Frame" "hipX" "LGaitwright$Row;", Cond.fieldLink RX2 20 "Gaitwright$Frame" "hipY" "LGaitwright$Row;", Cond.fieldLink RX2 23 "Gaitwright$Frame" "reach" "LGaitwright$Row;", Cond.fieldLink RX2 26 "Gaitwright$Frame" "legs" "I", Cond.fieldLink RX2 30 "Gaitwright$Frame" "loadWeight" "I", Cond.fieldLink RX2 33 "Gaitwright$Frame" "loadX" "I", Cond.fieldLink RX2 36 "Gaitwright$Frame" "loadY" "I", Cond.methodLink RX9 3 objectInit, Cond.classLink RX9 9 RX8, Cond.methodLink RX9 11 yX8_init, Cond.fieldLink RX9 14 "Gaitwright$Stance" "feet" "LGaitwright$Row;", Cond.fieldLink RX9 20 "Gaitwright$Stance" "bodyX" "I", Cond.fieldLink RX9 24 "Gaitwright$Stance" "bodyY" "I", Cond.fieldLink RX9 27 "Gaitwright$Stance" "land" "LGaitwright$Land;", Cond.fieldLink RX9 31 "Gaitwright$Stance" "frame" "LGaitwright$Frame;", Cond.fieldLink RX9 35 "Gaitwright$Stance" "hull" "LGaitwright$Hull;", Cond.methodLink RX6 3 objectInit, Cond.classLink RX6 9 RX8, Cond.methodLink RX6 11 yX8_init, Cond.fieldLink RX6 14 "Gaitwright$Pieces" "x" "LGaitwright$Row;", Cond.fieldLink RX6 20 "Gaitwright$Pieces" "y" "LGaitwright$Row;", Cond.fieldLink RX6 23 "Gaitwright$Pieces" "count" "I", Cond.methodLink RX0 3 objectInit, Cond.fieldLink RX0 9 "Gaitwright$Damage" "count" "I", Cond.fieldLink RX0 15 "Gaitwright$Damage" "firstWhat" "I", Cond.fieldLink RX0 18 "Gaitwright$Damage" "firstPoint" "I", Cond.fieldLink RX0 21 "Gaitwright$Damage" "firstOfAct" "I", Cond.methodLink RX1 3 objectInit, Cond.classLink RX1 9 RX8, Cond.methodLink RX1 11 yX8_init, Cond.fieldLink RX1 14 "Gaitwright$Falls" "direction" "LGaitwright$Row;"]
def jW_1 : List Cond := [Cond.fieldLink RX1 20 "Gaitwright$Falls" "what" "LGaitwright$Row;", Cond.fieldLink RX1 23 "Gaitwright$Falls" "point" "LGaitwright$Row;", Cond.fieldLink RX1 26 "Gaitwright$Falls" "count" "I", Cond.methodLink RX3 3 objectInit, Cond.classLink RX3 9 RX8, Cond.methodLink RX3 11 yX8_init, Cond.fieldLink RX3 14 "Gaitwright$Gait" "leg" "LGaitwright$Row;", Cond.fieldLink RX3 20 "Gaitwright$Gait" "footX" "LGaitwright$Row;", Cond.fieldLink RX3 23 "Gaitwright$Gait" "footY" "LGaitwright$Row;", Cond.fieldLink RX3 26 "Gaitwright$Gait" "bodyX" "LGaitwright$Row;", Cond.fieldLink RX3 29 "Gaitwright$Gait" "bodyY" "LGaitwright$Row;", Cond.fieldLink RX3 32 "Gaitwright$Gait" "count" "I", Cond.fieldLink RX3 36 "Gaitwright$Gait" "next" "I", Cond.fieldLink RX7 11 "Gaitwright$Planner" "behind" "[LGaitwright$Stance;", Cond.classLink RX7 9 RX9, Cond.instantiable RX9 6, Cond.initialized RX9, Cond.code yX9_init cX9_init 4 none, Cond.methodLink RX7 25 yX9_init, Cond.instanceMethod yX9_init, Cond.methodLink RX7 3 objectInit, Cond.fieldLink RX7 17 "Gaitwright$Planner" "goal" "I", Cond.fieldLink RX7 21 "Gaitwright$Planner" "frame" "LGaitwright$Frame;", Cond.methodLink RX10 3 objectInit, Cond.classLink RX10 9 RX4, Cond.instantiable RX4 3, Cond.initialized RX4, Cond.code yX4_init cX4_init 1 none, Cond.instanceMethod yX4_init, Cond.classLink RX10 12 RX5, Cond.instantiable RX5 4, Cond.initialized RX5, Cond.code yX5_init cX5_init 1 none, Cond.instanceMethod yX5_init, Cond.fieldLink RX10 15 "Gaitwright" "land" "LGaitwright$Land;", Cond.classLink RX10 19 RX2, Cond.instantiable RX2 7, Cond.initialized RX2, Cond.code yX2_init cX2_init 1 none, Cond.instanceMethod yX2_init, Cond.fieldLink RX10 22 "Gaitwright" "frame" "LGaitwright$Frame;", Cond.classLink RX10 26 RX9, Cond.methodLink RX10 28 yX9_init, Cond.fieldLink RX10 31 "Gaitwright" "stance" "LGaitwright$Stance;", Cond.fieldLink RX10 35 "Gaitwright" "trial" "LGaitwright$Stance;", Cond.classLink RX10 38 RX6, Cond.instantiable RX6 3, Cond.initialized RX6, Cond.code yX6_init cX6_init 1 none, Cond.instanceMethod yX6_init, Cond.fieldLink RX10 41 "Gaitwright" "pieces" "LGaitwright$Pieces;", Cond.classLink RX10 45 RX0, Cond.instantiable RX0 4, Cond.initialized RX0, Cond.code yX0_init cX0_init 1 none, Cond.instanceMethod yX0_init, Cond.fieldLink RX10 48 "Gaitwright" "damage" "LGaitwright$Damage;", Cond.classLink RX10 52 RX1, Cond.instantiable RX1 4, Cond.initialized RX1]
def jW_2 : List Cond := [Cond.code yX1_init cX1_init 1 none, Cond.instanceMethod yX1_init, Cond.fieldLink RX10 55 "Gaitwright" "falls" "LGaitwright$Falls;", Cond.classLink RX10 59 RX3, Cond.instantiable RX3 7, Cond.initialized RX3, Cond.code yX3_init cX3_init 1 none, Cond.instanceMethod yX3_init, Cond.fieldLink RX10 62 "Gaitwright" "gait" "LGaitwright$Gait;", Cond.classLink RX10 66 RX7, Cond.instantiable RX7 3, Cond.initialized RX7, Cond.code yX7_init cX7_init 5 none, Cond.methodLink RX10 68 yX7_init, Cond.instanceMethod yX7_init, Cond.fieldLink RX10 69 "Gaitwright" "planner" "LGaitwright$Planner;", Cond.fieldLink RX10 73 "Gaitwright" "stands" "Z", Cond.fieldLink RX10 77 "Gaitwright" "energy" "I", Cond.code yX8_at cX8_at 2 (some .int), Cond.methodLink RX9 48 yX8_at, Cond.instanceMethod yX8_at, Cond.selects RX8 yX8_at yX8_at, Cond.classLink RX10 89 "java/lang/IllegalArgumentException", Cond.initialized "java/lang/IllegalArgumentException", Cond.code yX10_pointAt cX10_pointAt 2 (some .int), Cond.methodLink RX10 81 yX10_pointAt, Cond.static yX10_pointAt, Cond.initialized RX10, Cond.code yX10_isWithin cX10_isWithin 3 (some .boolean), Cond.methodLink RX10 85 yX10_isWithin, Cond.static yX10_isWithin, Cond.code yX9_isTaken cX9_isTaken 4 (some .boolean), Cond.methodLink RX10 96 yX9_isTaken, Cond.instanceMethod yX9_isTaken, Cond.selects RX9 yX9_isTaken yX9_isTaken, Cond.fieldLink RX10 105 "Gaitwright$Land" "height" "LGaitwright$Row;", Cond.methodLink RX10 109 yX8_at, Cond.code yX8_put cX8_put 3 none, Cond.methodLink RX10 115 yX8_put, Cond.instanceMethod yX8_put, Cond.selects RX8 yX8_put yX8_put, Cond.fieldLink RX10 119 "Gaitwright$Land" "firmness" "LGaitwright$Row;", Cond.fieldLink RX10 122 "Gaitwright$Land" "grip" "LGaitwright$Row;", Cond.classLink RX10 100 "java/lang/IllegalStateException", Cond.initialized "java/lang/IllegalStateException", Cond.fieldLink RX10 127 "Gaitwright$Land" "mapped" "LGaitwright$Row;", Cond.methodLink RX2 39 yX8_put, Cond.code yX10_isAside cX10_isAside 1 (some .boolean), Cond.methodLink RX10 130 yX10_isAside, Cond.static yX10_isAside, Cond.fieldLink RX10 136 "Gaitwright$Frame" "legs" "I", Cond.code yX2_join cX2_join 5 (some .int), Cond.methodLink RX10 141 yX2_join, Cond.instanceMethod yX2_join, Cond.selects RX2 yX2_join yX2_join, Cond.methodLink RX10 147 Lib.Math.min.name, Cond.static Lib.Math.min.name, Cond.initialized "java/lang/Math", Cond.code Lib.Math.min.name Lib.Math.min.code 2 (some .int), Cond.methodLink RX3 39 yX8_put]
def jW_3 : List Cond := [Cond.code yX10_isLeg cX10_isLeg 2 (some .boolean), Cond.methodLink RX10 152 yX10_isLeg, Cond.instanceMethod yX10_isLeg, Cond.selects RX10 yX10_isLeg yX10_isLeg, Cond.fieldLink RX10 162 "Gaitwright$Gait" "count" "I", Cond.code yX3_add cX3_add 6 (some .int), Cond.methodLink RX10 167 yX3_add, Cond.instanceMethod yX3_add, Cond.selects RX3 yX3_add yX3_add, Cond.classLink RX10 155 "java/lang/IndexOutOfBoundsException", Cond.initialized "java/lang/IndexOutOfBoundsException", Cond.code yX3_clear cX3_clear 1 none, Cond.methodLink RX10 171 yX3_clear, Cond.instanceMethod yX3_clear, Cond.selects RX3 yX3_clear yX3_clear, Cond.methodLink RX4 31 yX8_put, Cond.methodLink RX4 27 yX8_at, Cond.code yX4_isFurtherOut cX4_isFurtherOut 8 (some .boolean), Cond.methodLink RX4 40 yX4_isFurtherOut, Cond.static yX4_isFurtherOut, Cond.methodLink RX4 34 Lib.Math.min.name, Cond.fieldLink RX9 108 "Gaitwright$Frame" "loadWeight" "I", Cond.fieldLink RX9 111 "Gaitwright$Frame" "loadX" "I", Cond.fieldLink RX9 114 "Gaitwright$Frame" "loadY" "I", Cond.code yX4_edgeByWay cX4_edgeByWay 5 (some .int), Cond.methodLink RX4 48 yX4_edgeByWay, Cond.static yX4_edgeByWay, Cond.methodLink RX4 52 Lib.Math.max.name, Cond.static Lib.Math.max.name, Cond.code Lib.Math.max.name Lib.Math.max.code 2 (some .int), Cond.constant RX4 46 (2147483647), Cond.constant RX4 47 (-2147483648), Cond.code yX4_wrap cX4_wrap 8 none, Cond.methodLink RX9 117 yX4_wrap, Cond.instanceMethod yX4_wrap, Cond.selects RX4 yX4_wrap yX4_wrap, Cond.code yX9_momentX cX9_momentX 1 (some .int), Cond.methodLink RX9 123 yX9_momentX, Cond.instanceMethod yX9_momentX, Cond.selects RX9 yX9_momentX yX9_momentX, Cond.code yX9_momentY cX9_momentY 1 (some .int), Cond.methodLink RX9 126 yX9_momentY, Cond.instanceMethod yX9_momentY, Cond.selects RX9 yX9_momentY yX9_momentY, Cond.code yX2_weight cX2_weight 1 (some .int), Cond.methodLink RX9 82 yX2_weight, Cond.instanceMethod yX2_weight, Cond.selects RX2 yX2_weight yX2_weight, Cond.code yX4_holds cX4_holds 10 (some .boolean), Cond.methodLink RX9 129 yX4_holds, Cond.instanceMethod yX4_holds, Cond.selects RX4 yX4_holds yX4_holds, Cond.code yX0_beginAct cX0_beginAct 1 none, Cond.methodLink RX10 340 yX0_beginAct, Cond.instanceMethod yX0_beginAct, Cond.selects RX0 yX0_beginAct yX0_beginAct, Cond.fieldLink RX10 222 "Gaitwright$Frame" "loadWeight" "I", Cond.fieldLink RX10 330 "Gaitwright$Frame" "loadX" "I", Cond.fieldLink RX10 333 "Gaitwright$Frame" "loadY" "I", Cond.code yX2_carry cX2_carry 4 none]
def jW_4 : List Cond := [Cond.methodLink RX10 336 yX2_carry, Cond.instanceMethod yX2_carry, Cond.selects RX2 yX2_carry yX2_carry, Cond.code yX9_holdsWithout cX9_holdsWithout 2 (some .boolean), Cond.methodLink RX10 244 yX9_holdsWithout, Cond.instanceMethod yX9_holdsWithout, Cond.selects RX9 yX9_holdsWithout yX9_holdsWithout, Cond.code yX9_down cX9_down 3 (some .int), Cond.methodLink RX9 86 yX9_down, Cond.instanceMethod yX9_down, Cond.selects RX9 yX9_down yX9_down, Cond.code yX10_roundedUp cX10_roundedUp 2 (some .int), Cond.static yX10_roundedUp, Cond.fieldLink RX9 95 "Gaitwright$Land" "firmness" "LGaitwright$Row;", Cond.code yX9_pressure cX9_pressure 1 (some .int), Cond.methodLink RX9 92 yX9_pressure, Cond.instanceMethod yX9_pressure, Cond.selects RX9 yX9_pressure yX9_pressure, Cond.methodLink RX5 29 yX8_at, Cond.methodLink RX5 33 yX8_put, Cond.methodLink RX5 36 Lib.Math.max.name, Cond.code yX5_learn cX5_learn 2 none, Cond.methodLink RX5 42 yX5_learn, Cond.instanceMethod yX5_learn, Cond.selects RX5 yX5_learn yX5_learn, Cond.fieldLink RX10 235 "Gaitwright$Stance" "feet" "LGaitwright$Row;", Cond.code yX5_sag cX5_sag 2 none, Cond.methodLink RX10 414 yX5_sag, Cond.instanceMethod yX5_sag, Cond.selects RX5 yX5_sag yX5_sag, Cond.code yX0_tell cX0_tell 3 none, Cond.methodLink RX10 393 yX0_tell, Cond.instanceMethod yX0_tell, Cond.selects RX0 yX0_tell yX0_tell, Cond.methodLink RX9 98 yX8_put, Cond.code yJ6_signum_0f7a4 cJ6_signum_0f7a4 1 (some .int), Cond.methodLink RX9 133 yJ6_signum_0f7a4, Cond.static yJ6_signum_0f7a4, Cond.initialized RJ6, Cond.code yX10_xOf cX10_xOf 1 (some .int), Cond.static yX10_xOf, Cond.code yX10_yOf cX10_yOf 1 (some .int), Cond.static yX10_yOf, Cond.methodLink RX1 36 yX8_put, Cond.code yX9_direction cX9_direction 6 (some .int), Cond.methodLink RX10 417 yX9_direction, Cond.instanceMethod yX9_direction, Cond.selects RX9 yX9_direction yX9_direction, Cond.fieldLink RX10 419 "Gaitwright$Damage" "firstWhat" "I", Cond.fieldLink RX10 422 "Gaitwright$Damage" "firstPoint" "I", Cond.code yX1_keep cX1_keep 4 none, Cond.methodLink RX10 425 yX1_keep, Cond.instanceMethod yX1_keep, Cond.selects RX1 yX1_keep yX1_keep, Cond.code yX8_fill cX8_fill 2 none, Cond.methodLink RX10 428 yX8_fill, Cond.instanceMethod yX8_fill, Cond.selects RX8 yX8_fill yX8_fill, Cond.fieldLink RX10 411 "Gaitwright$Damage" "firstOfAct" "I", Cond.code yX10_toppleOver cX10_toppleOver 1 none]
def jW_5 : List Cond := [Cond.methodLink RX10 408 yX10_toppleOver, Cond.instanceMethod yX10_toppleOver, Cond.selects RX10 yX10_toppleOver yX10_toppleOver, Cond.code yX10_breakGround cX10_breakGround 4 none, Cond.methodLink RX10 402 yX10_breakGround, Cond.instanceMethod yX10_breakGround, Cond.selects RX10 yX10_breakGround yX10_breakGround, Cond.code yX9_raise cX9_raise 3 none, Cond.methodLink RX10 405 yX9_raise, Cond.instanceMethod yX9_raise, Cond.selects RX9 yX9_raise yX9_raise, Cond.code yX9_sinking cX9_sinking 5 (some .int), Cond.methodLink RX10 399 yX9_sinking, Cond.instanceMethod yX9_sinking, Cond.selects RX9 yX9_sinking yX9_sinking, Cond.code yX10_takeLoad cX10_takeLoad 7 (some .boolean), Cond.methodLink RX10 176 yX10_takeLoad, Cond.instanceMethod yX10_takeLoad, Cond.selects RX10 yX10_takeLoad yX10_takeLoad, Cond.code yX10_settled cX10_settled 3 (some .int), Cond.methodLink RX10 181 yX10_settled, Cond.instanceMethod yX10_settled, Cond.selects RX10 yX10_settled yX10_settled, Cond.methodLink RX8 19 yX8_at, Cond.code yX8_copy cX8_copy 3 none, Cond.methodLink RX9 39 yX8_copy, Cond.instanceMethod yX8_copy, Cond.selects RX8 yX8_copy yX8_copy, Cond.fieldLink RX9 43 "Gaitwright$Frame" "hipX" "LGaitwright$Row;", Cond.fieldLink RX9 52 "Gaitwright$Frame" "hipY" "LGaitwright$Row;", Cond.code yX9_hipX cX9_hipX 2 (some .int), Cond.methodLink RX10 349 yX9_hipX, Cond.instanceMethod yX9_hipX, Cond.selects RX9 yX9_hipX yX9_hipX, Cond.code yX9_hipY cX9_hipY 2 (some .int), Cond.methodLink RX10 352 yX9_hipY, Cond.instanceMethod yX9_hipY, Cond.selects RX9 yX9_hipY yX9_hipY, Cond.methodLink RX10 386 Lib.Math.max.name, Cond.code yX9_copy cX9_copy 2 none, Cond.methodLink RX10 294 yX9_copy, Cond.instanceMethod yX9_copy, Cond.selects RX9 yX9_copy yX9_copy, Cond.code yX5_neighbour cX5_neighbour 4 (some .int), Cond.methodLink RX5 46 yX5_neighbour, Cond.static yX5_neighbour, Cond.methodLink RX9 58 yX9_hipX, Cond.methodLink RX9 63 yX9_hipY, Cond.fieldLink RX9 65 "Gaitwright$Frame" "reach" "LGaitwright$Row;", Cond.methodLink RX10 389 yX5_learn, Cond.code yX5_slipFrom cX5_slipFrom 6 (some .int), Cond.methodLink RX10 396 yX5_slipFrom, Cond.instanceMethod yX5_slipFrom, Cond.selects RX5 yX5_slipFrom yX5_slipFrom, Cond.code yX9_isInReach cX9_isInReach 6 (some .boolean), Cond.methodLink RX10 364 yX9_isInReach, Cond.instanceMethod yX9_isInReach, Cond.selects RX9 yX9_isInReach yX9_isInReach, Cond.methodLink RX10 361 Lib.Math.abs.name, Cond.static Lib.Math.abs.name]
def jW_6 : List Cond := [Cond.code Lib.Math.abs.name Lib.Math.abs.code 1 (some .int), Cond.code yX10_setFoot cX10_setFoot 5 none, Cond.methodLink RX10 355 yX10_setFoot, Cond.instanceMethod yX10_setFoot, Cond.selects RX10 yX10_setFoot yX10_setFoot, Cond.code yX10_hipsBear cX10_hipsBear 5 (some .boolean), Cond.methodLink RX10 343 yX10_hipsBear, Cond.instanceMethod yX10_hipsBear, Cond.selects RX10 yX10_hipsBear yX10_hipsBear, Cond.code yX0_forget cX0_forget 1 none, Cond.methodLink RX10 346 yX0_forget, Cond.instanceMethod yX0_forget, Cond.selects RX0 yX0_forget yX0_forget, Cond.code yX10_getUp cX10_getUp 3 (some .boolean), Cond.methodLink RX10 185 yX10_getUp, Cond.instanceMethod yX10_getUp, Cond.selects RX10 yX10_getUp yX10_getUp, Cond.methodLink RX10 189 yX9_down, Cond.code yX10_mayLift cX10_mayLift 2 (some .boolean), Cond.methodLink RX10 291 yX10_mayLift, Cond.instanceMethod yX10_mayLift, Cond.selects RX10 yX10_mayLift yX10_mayLift, Cond.code yX10_liftFoot cX10_liftFoot 2 (some .boolean), Cond.methodLink RX10 192 yX10_liftFoot, Cond.instanceMethod yX10_liftFoot, Cond.selects RX10 yX10_liftFoot yX10_liftFoot, Cond.methodLink RX9 68 Lib.Math.abs.name, Cond.fieldLink RX9 73 "Gaitwright$Land" "mapped" "LGaitwright$Row;", Cond.methodLink RX9 78 Lib.Math.max.name, Cond.code yX9_far cX9_far 3 (some .int), Cond.methodLink RX10 358 yX9_far, Cond.instanceMethod yX9_far, Cond.selects RX9 yX9_far yX9_far, Cond.code yX9_level cX9_level 5 (some .int), Cond.methodLink RX10 225 yX9_level, Cond.instanceMethod yX9_level, Cond.selects RX9 yX9_level yX9_level, Cond.code yX10_placeFoot cX10_placeFoot 5 (some .boolean), Cond.methodLink RX10 197 yX10_placeFoot, Cond.instanceMethod yX10_placeFoot, Cond.selects RX10 yX10_placeFoot yX10_placeFoot, Cond.methodLink RX9 145 yX9_holdsWithout, Cond.methodLink RX9 141 yX9_isInReach, Cond.methodLink RX10 253 yX2_weight, Cond.methodLink RX10 367 yX10_roundedUp, Cond.code yX9_moveBody cX9_moveBody 5 (some .boolean), Cond.methodLink RX10 370 yX9_moveBody, Cond.instanceMethod yX9_moveBody, Cond.selects RX9 yX9_moveBody yX9_moveBody, Cond.code yX10_shiftBody cX10_shiftBody 4 (some .boolean), Cond.methodLink RX10 200 yX10_shiftBody, Cond.instanceMethod yX10_shiftBody, Cond.selects RX10 yX10_shiftBody yX10_shiftBody, Cond.fieldLink RX10 373 "Gaitwright$Gait" "leg" "LGaitwright$Row;", Cond.methodLink RX10 238 yX10_xOf, Cond.fieldLink RX10 376 "Gaitwright$Gait" "footX" "LGaitwright$Row;", Cond.methodLink RX10 241 yX10_yOf, Cond.fieldLink RX10 379 "Gaitwright$Gait" "footY" "LGaitwright$Row;", Cond.fieldLink RX10 382 "Gaitwright$Gait" "bodyX" "LGaitwright$Row;", Cond.fieldLink RX10 384 "Gaitwright$Gait" "bodyY" "LGaitwright$Row;"]
def jW_7 : List Cond := [Cond.fieldLink RX10 207 "Gaitwright$Gait" "next" "I", Cond.code yX10_isPhaseDone cX10_isPhaseDone 7 (some .boolean), Cond.methodLink RX10 210 yX10_isPhaseDone, Cond.instanceMethod yX10_isPhaseDone, Cond.selects RX10 yX10_isPhaseDone yX10_isPhaseDone, Cond.code yX3_goOn cX3_goOn 1 none, Cond.methodLink RX10 213 yX3_goOn, Cond.instanceMethod yX3_goOn, Cond.selects RX3 yX3_goOn yX3_goOn, Cond.fieldLink RX10 216 "Gaitwright$Stance" "bodyX" "I", Cond.fieldLink RX10 219 "Gaitwright$Stance" "bodyY" "I", Cond.methodLink RX10 228 yX9_pressure, Cond.fieldLink RX10 231 "Gaitwright$Damage" "count" "I", Cond.fieldLink RX10 232 "Gaitwright$Falls" "count" "I", Cond.methodLink RX6 27 yX8_at, Cond.methodLink RX6 34 yX8_put, Cond.code yX6_turn cX6_turn 3 (some .int), Cond.methodLink RX6 48 yX6_turn, Cond.instanceMethod yX6_turn, Cond.selects RX6 yX6_turn yX6_turn, Cond.code yX6_isInTriangle cX6_isInTriangle 7 (some .boolean), Cond.methodLink RX6 44 yX6_isInTriangle, Cond.instanceMethod yX6_isInTriangle, Cond.selects RX6 yX6_isInTriangle yX6_isInTriangle, Cond.code yX6_isOnLine cX6_isOnLine 3 (some .boolean), Cond.methodLink RX6 40 yX6_isOnLine, Cond.instanceMethod yX6_isOnLine, Cond.selects RX6 yX6_isOnLine yX6_isOnLine, Cond.methodLink RX10 247 yX9_momentX, Cond.methodLink RX10 250 yX9_momentY, Cond.code yX6_gather cX6_gather 7 none, Cond.methodLink RX10 256 yX6_gather, Cond.instanceMethod yX6_gather, Cond.selects RX6 yX6_gather yX6_gather, Cond.code yX6_holdMoment cX6_holdMoment 4 (some .boolean), Cond.methodLink RX10 260 yX6_holdMoment, Cond.instanceMethod yX6_holdMoment, Cond.selects RX6 yX6_holdMoment yX6_holdMoment, Cond.code yX4_squareOfEdge cX4_squareOfEdge 4 (some .int), Cond.methodLink RX4 58 yX4_squareOfEdge, Cond.static yX4_squareOfEdge, Cond.constantFloat RX10 431 (1258291200), Cond.fieldLink RX10 264 "Gaitwright$Stance" "hull" "LGaitwright$Hull;", Cond.fieldLink RX10 268 "Gaitwright$Hull" "size" "I", Cond.code yX4_leastSquare cX4_leastSquare 13 (some .float), Cond.methodLink RX10 271 yX4_leastSquare, Cond.instanceMethod yX4_leastSquare, Cond.selects RX4 yX4_leastSquare yX4_leastSquare, Cond.code yX10_bitsOf cX10_bitsOf 4 (some .int), Cond.methodLink RX10 275 yX10_bitsOf, Cond.static yX10_bitsOf, Cond.constant RX10 263 (-1082130432), Cond.methodLink RX10 281 yX4_wrap, Cond.fieldLink RX10 285 "Gaitwright$Hull" "corners" "LGaitwright$Row;", Cond.methodLink RX9 156 yX9_isTaken, Cond.methodLink RX9 152 yX9_level, Cond.constant RX9 155 (2147483647), Cond.code yX9_bestPoint cX9_bestPoint 14 (some .int), Cond.methodLink RX10 288 yX9_bestPoint, Cond.instanceMethod yX9_bestPoint]
def jW_8 : List Cond := [Cond.selects RX9 yX9_bestPoint yX9_bestPoint, Cond.methodLink RX9 104 yX9_raise, Cond.methodLink RX9 101 yX9_sinking, Cond.code yX9_sinkAway cX9_sinkAway 4 (some .boolean), Cond.methodLink RX10 298 yX9_sinkAway, Cond.instanceMethod yX9_sinkAway, Cond.selects RX9 yX9_sinkAway yX9_sinkAway, Cond.methodLink RX7 28 yX9_copy, Cond.fieldLink RX7 32 "Gaitwright$Stance" "bodyX" "I", Cond.methodLink RX7 39 Lib.Math.abs.name, Cond.fieldLink RX7 44 "Gaitwright$Stance" "bodyY" "I", Cond.methodLink RX9 149 yX9_bestPoint, Cond.methodLink RX7 50 yX9_moveBody, Cond.fieldLink RX7 54 "Gaitwright$Frame" "legs" "I", Cond.code yX9_step cX9_step 3 (some .boolean), Cond.methodLink RX7 59 yX9_step, Cond.instanceMethod yX9_step, Cond.selects RX9 yX9_step yX9_step, Cond.code yX7_isMade cX7_isMade 4 (some .boolean), Cond.methodLink RX10 432 yX7_isMade, Cond.instanceMethod yX7_isMade, Cond.selects RX7 yX7_isMade yX7_isMade, Cond.code yX10_isReachedBy cX10_isReachedBy 5 (some .boolean), Cond.methodLink RX10 308 yX10_isReachedBy, Cond.static yX10_isReachedBy, Cond.code yX7_away cX7_away 2 (some .int), Cond.methodLink RX10 305 yX7_away, Cond.instanceMethod yX7_away, Cond.selects RX7 yX7_away yX7_away, Cond.code yX7_start cX7_start 3 none, Cond.methodLink RX10 301 yX7_start, Cond.instanceMethod yX7_start, Cond.selects RX7 yX7_start yX7_start, Cond.code yX10_shortestRow cX10_shortestRow 4 (some .int), Cond.methodLink RX10 312 yX10_shortestRow, Cond.static yX10_shortestRow, Cond.methodLink RX1 30 Lib.Math.min.name, Cond.code yX1_kept cX1_kept 1 (some .int), Cond.methodLink RX10 316 yX1_kept, Cond.instanceMethod yX1_kept, Cond.selects RX1 yX1_kept yX1_kept, Cond.fieldLink RX10 321 "Gaitwright$Falls" "direction" "LGaitwright$Row;", Cond.fieldLink RX10 324 "Gaitwright$Falls" "what" "LGaitwright$Row;", Cond.fieldLink RX10 327 "Gaitwright$Falls" "point" "LGaitwright$Row;", Cond.constant RL 7 (2147483647), Cond.classLink RL 60 "java/lang/IndexOutOfBoundsException", Cond.constant RL 62 (-3000000), Cond.classLink RL 63 "java/lang/IllegalArgumentException", Cond.constant RL 65 (-2000000), Cond.classLink RL 66 "java/lang/IllegalStateException", Cond.constant RL 68 (-1000000), Cond.code yX10_foot cX10_foot 4 (some .int), Cond.methodLink RL 57 yX10_foot, Cond.instanceMethod yX10_foot, Cond.selects RX10 yX10_foot yX10_foot, Cond.code yX10_point cX10_point 5 (some .int), Cond.methodLink RL 54 yX10_point, Cond.instanceMethod yX10_point, Cond.selects RX10 yX10_point yX10_point, Cond.code yX10_fall cX10_fall 3 (some .int)]
def jW_9 : List Cond := [Cond.methodLink RL 51 yX10_fall, Cond.instanceMethod yX10_fall, Cond.selects RX10 yX10_fall yX10_fall, Cond.code yX10_corner cX10_corner 2 (some .int), Cond.methodLink RL 48 yX10_corner, Cond.instanceMethod yX10_corner, Cond.selects RX10 yX10_corner yX10_corner, Cond.code yX10_walk cX10_walk 3 (some .int), Cond.methodLink RL 45 yX10_walk, Cond.instanceMethod yX10_walk, Cond.selects RX10 yX10_walk yX10_walk, Cond.code yX10_shift cX10_shift 3 (some .int), Cond.methodLink RL 41 yX10_shift, Cond.instanceMethod yX10_shift, Cond.selects RX10 yX10_shift yX10_shift, Cond.code yX10_place cX10_place 5 (some .int), Cond.methodLink RL 38 yX10_place, Cond.instanceMethod yX10_place, Cond.selects RX10 yX10_place yX10_place, Cond.code yX10_lift cX10_lift 2 (some .int), Cond.methodLink RL 35 yX10_lift, Cond.instanceMethod yX10_lift, Cond.selects RX10 yX10_lift yX10_lift, Cond.code yX10_rise cX10_rise 1 (some .int), Cond.methodLink RL 31 yX10_rise, Cond.instanceMethod yX10_rise, Cond.selects RX10 yX10_rise yX10_rise, Cond.code yX10_load cX10_load 4 (some .int), Cond.methodLink RL 28 yX10_load, Cond.instanceMethod yX10_load, Cond.selects RX10 yX10_load yX10_load, Cond.code yX10_phase cX10_phase 6 (some .int), Cond.methodLink RL 25 yX10_phase, Cond.instanceMethod yX10_phase, Cond.selects RX10 yX10_phase yX10_phase, Cond.code yX10_charge cX10_charge 2 (some .int), Cond.methodLink RL 21 yX10_charge, Cond.instanceMethod yX10_charge, Cond.selects RX10 yX10_charge yX10_charge, Cond.code yX10_leg cX10_leg 4 (some .int), Cond.methodLink RL 18 yX10_leg, Cond.instanceMethod yX10_leg, Cond.selects RX10 yX10_leg yX10_leg, Cond.code yX10_chart cX10_chart 6 (some .int), Cond.methodLink RL 14 yX10_chart, Cond.instanceMethod yX10_chart, Cond.selects RX10 yX10_chart yX10_chart, Cond.code yX10_ground cX10_ground 8 (some .int), Cond.methodLink RL 8 yX10_ground, Cond.instanceMethod yX10_ground, Cond.selects RX10 yX10_ground yX10_ground, Cond.constantLong RL 69 (15), Cond.constantLong RL 71 (-1), Cond.constantLong RL 73 (255), Cond.code yL_hipX cL_hipX 3 (some .int), Cond.methodLink RL 75 yL_hipX, Cond.static yL_hipX, Cond.initialized RL, Cond.code yL_hipY cL_hipY 3 (some .int), Cond.methodLink RL 81 yL_hipY]
def jW_10 : List Cond := [Cond.static yL_hipY, Cond.code yL_many cL_many 3 (some .int), Cond.methodLink RL 84 yL_many, Cond.static yL_many, Cond.code yL_four cL_four 2 (some .int), Cond.methodLink RL 87 yL_four, Cond.static yL_four, Cond.code yL_firm cL_firm 2 (some .int), Cond.methodLink RL 91 yL_firm, Cond.static yL_firm, Cond.code yL_pressure cL_pressure 3 (some .int), Cond.methodLink RL 94 yL_pressure, Cond.static yL_pressure, Cond.code yL_sets cL_sets 3 none, Cond.methodLink RL 102 yL_sets, Cond.static yL_sets, Cond.code yL_breaks cL_breaks 3 none, Cond.methodLink RL 106 yL_breaks, Cond.static yL_breaks, Cond.code yL_sinking cL_sinking 7 (some .int), Cond.methodLink RL 98 yL_sinking, Cond.static yL_sinking, Cond.code yL_holds cL_holds 22 (some .boolean), Cond.methodLink RL 110 yL_holds, Cond.static yL_holds, Cond.code yL_isNear cL_isNear 7 (some .boolean), Cond.methodLink RL 114 yL_isNear, Cond.static yL_isNear, Cond.code yL_isTaken cL_isTaken 7 (some .boolean), Cond.methodLink RL 118 yL_isTaken, Cond.static yL_isTaken, Cond.code yL_settles cL_settles 11 none, Cond.methodLink RL 121 yL_settles, Cond.static yL_settles, Cond.code yL_comes cL_comes 17 none, Cond.methodLink RL 133 yL_comes, Cond.static yL_comes, Cond.code yL_level cL_level 7 (some .int), Cond.methodLink RL 125 yL_level, Cond.static yL_level, Cond.code yL_far cL_far 7 (some .int), Cond.methodLink RL 129 yL_far, Cond.static yL_far, Cond.code yL_isIn cL_isIn 2 (some .boolean), Cond.methodLink RL 137 yL_isIn, Cond.static yL_isIn, Cond.code yL_canShift cL_canShift 8 (some .boolean), Cond.methodLink RL 141 yL_canShift, Cond.static yL_canShift, Cond.constantLong RL 147 (16777216), Cond.constantLong RL 149 (8388608), Cond.constantLong RL 145 (2), Cond.code yL_nearest cL_nearest 10 (some .long), Cond.methodLink RL 151 yL_nearest, Cond.static yL_nearest, Cond.constantLong RL 155 (4294967296), Cond.codeWith yL_does cL_does 8 (some .int) [(0, 225, 226, 60), (0, 225, 231, 63), (0, 225, 236, 66)], Cond.methodLink RL 190 yL_does, Cond.static yL_does, Cond.code yX10_fewestAnew cX10_fewestAnew 5 (some .int)]
def jW_11 : List Cond := [Cond.methodLink RL 187 yX10_fewestAnew, Cond.instanceMethod yX10_fewestAnew, Cond.selects RX10 yX10_fewestAnew yX10_fewestAnew, Cond.code yX10_fewest cX10_fewest 5 (some .int), Cond.methodLink RL 184 yX10_fewest, Cond.instanceMethod yX10_fewest, Cond.selects RX10 yX10_fewest yX10_fewest, Cond.code yX10_margin cX10_margin 2 (some .int), Cond.methodLink RL 180 yX10_margin, Cond.instanceMethod yX10_margin, Cond.selects RX10 yX10_margin yX10_margin, Cond.constant RL 183 (-1082130432), Cond.code yL_isEdge cL_isEdge 9 (some .boolean), Cond.methodLink RL 173 yL_isEdge, Cond.static yL_isEdge, Cond.code yL_bits cL_bits 19 (some .int), Cond.methodLink RL 176 yL_bits, Cond.static yL_bits, Cond.code yX10_wouldLift cX10_wouldLift 2 (some .int), Cond.methodLink RL 170 yX10_wouldLift, Cond.instanceMethod yX10_wouldLift, Cond.selects RX10 yX10_wouldLift yX10_wouldLift, Cond.code yX10_foothold cX10_foothold 2 (some .int), Cond.methodLink RL 167 yX10_foothold, Cond.instanceMethod yX10_foothold, Cond.selects RX10 yX10_foothold yX10_foothold, Cond.code yX10_isStable cX10_isStable 1 (some .boolean), Cond.methodLink RL 160 yX10_isStable, Cond.instanceMethod yX10_isStable, Cond.selects RX10 yX10_isStable yX10_isStable, Cond.code yX10_isStableAnew cX10_isStableAnew 1 (some .boolean), Cond.methodLink RL 164 yX10_isStableAnew, Cond.instanceMethod yX10_isStableAnew, Cond.selects RX10 yX10_isStableAnew yX10_isStableAnew, Cond.code yX10_machine cX10_machine 2 (some .int), Cond.methodLink RL 157 yX10_machine, Cond.instanceMethod yX10_machine, Cond.selects RX10 yX10_machine yX10_machine, Cond.code yX10_halt cX10_halt 2 (some .int), Cond.methodLink RL 194 yX10_halt, Cond.instanceMethod yX10_halt, Cond.selects RX10 yX10_halt yX10_halt, Cond.code yL_shifts cL_shifts 11 (some .boolean), Cond.methodLink RL 205 yL_shifts, Cond.static yL_shifts, Cond.code yL_places cL_places 14 (some .boolean), Cond.methodLink RL 201 yL_places, Cond.static yL_places, Cond.code yL_lifts cL_lifts 9 (some .boolean), Cond.methodLink RL 197 yL_lifts, Cond.static yL_lifts, Cond.code yL_isSo cL_isSo 30 (some .boolean), Cond.methodLink RL 227 yL_isSo, Cond.static yL_isSo, Cond.code yL_isDone cL_isDone 26 (some .boolean), Cond.methodLink RL 223 yL_isDone, Cond.static yL_isDone, Cond.code yL_isTold cL_isTold 25 (some .boolean), Cond.methodLink RL 219 yL_isTold, Cond.static yL_isTold]
def jW_12 : List Cond := [Cond.constant RL 218 (60000), Cond.code yL_part cL_part 4 (some .int), Cond.methodLink RL 214 yL_part, Cond.static yL_part, Cond.constantLong RL 210 (7161677110969590627), Cond.constantLong RL 212 (-7378697629483820647), Cond.classLink RL 9 RX10, Cond.instantiable RX10 11, Cond.code yX10_init cX10_init 2 none, Cond.methodLink RL 209 yX10_init, Cond.instanceMethod yX10_init, Cond.arrayClass .long]
def jW : List Cond := jW_0 ++ (jW_1 ++ (jW_2 ++ (jW_3 ++ (jW_4 ++ (jW_5 ++ (jW_6 ++ (jW_7 ++ (jW_8 ++ (jW_9 ++ (jW_10 ++ (jW_11 ++ (jW_12 ++ (u_ws RX0 TX0 4 ++ (u_ws RX1 TX1 4 ++ (u_ws RX2 TX2 7 ++ (u_ws RX3 TX3 7 ++ (u_ws RX4 TX4 3 ++ (u_ws RX5 TX5 4 ++ (u_ws RX6 TX6 3 ++ (u_ws RX7 TX7 3 ++ (u_ws RX8 TX8 1 ++ (u_ws RX9 TX9 6 ++ (u_ws RX10 TX10 11 ++ ((vx_atS RX10 93 "java/lang/IllegalArgumentException" ["java/lang/RuntimeException", "java/lang/Exception"]).filter goodWord ++ ((vx_atS RX10 104 "java/lang/IllegalStateException" ["java/lang/RuntimeException", "java/lang/Exception"]).filter goodWord ++ ((vx_atS RX10 159 "java/lang/IndexOutOfBoundsException" ["java/lang/RuntimeException", "java/lang/Exception"]).filter goodWord))))))))))))))))))))))))))
theorem jwc_0 : ∀ w ∈ jW_0, w ∈ jW := fun w h => List.mem_append_left _ h
theorem jwc_1 : ∀ w ∈ jW_1, w ∈ jW := fun w h => List.mem_append_right _ (List.mem_append_left _ h)
theorem jwc_2 : ∀ w ∈ jW_2, w ∈ jW := fun w h => List.mem_append_right _ (List.mem_append_right _ (List.mem_append_left _ h))
theorem jwc_3 : ∀ w ∈ jW_3, w ∈ jW := fun w h => List.mem_append_right _ (List.mem_append_right _ (List.mem_append_right _ (List.mem_append_left _ h)))
theorem jwc_4 : ∀ w ∈ jW_4, w ∈ jW := fun w h => List.mem_append_right _ (List.mem_append_right _ (List.mem_append_right _ (List.mem_append_right _ (List.mem_append_left _ h))))
theorem jwc_5 : ∀ w ∈ jW_5, w ∈ jW := fun w h => List.mem_append_right _ (List.mem_append_right _ (List.mem_append_right _ (List.mem_append_right _ (List.mem_append_right _ (List.mem_append_left _ h)))))
theorem jwc_6 : ∀ w ∈ jW_6, w ∈ jW := fun w h => List.mem_append_right _ (List.mem_append_right _ (List.mem_append_right _ (List.mem_append_right _ (List.mem_append_right _ (List.mem_append_right _ (List.mem_append_left _ h))))))
theorem jwc_7 : ∀ w ∈ jW_7, w ∈ jW := fun w h => List.mem_append_right _ (List.mem_append_right _ (List.mem_append_right _ (List.mem_append_right _ (List.mem_append_right _ (List.mem_append_right _ (List.mem_append_right _ (List.mem_append_left _ h)))))))
theorem jwc_8 : ∀ w ∈ jW_8, w ∈ jW := fun w h => List.mem_append_right _ (List.mem_append_right _ (List.mem_append_right _ (List.mem_append_right _ (List.mem_append_right _ (List.mem_append_right _ (List.mem_append_right _ (List.mem_append_right _ (List.mem_append_left _ h))))))))
theorem jwc_9 : ∀ w ∈ jW_9, w ∈ jW := fun w h => List.mem_append_right _ (List.mem_append_right _ (List.mem_append_right _ (List.mem_append_right _ (List.mem_append_right _ (List.mem_append_right _ (List.mem_append_right _ (List.mem_append_right _ (List.mem_append_right _ (List.mem_append_left _ h)))))))))
theorem jwc_10 : ∀ w ∈ jW_10, w ∈ jW := fun w h => List.mem_append_right _ (List.mem_append_right _ (List.mem_append_right _ (List.mem_append_right _ (List.mem_append_right _ (List.mem_append_right _ (List.mem_append_right _ (List.mem_append_right _ (List.mem_append_right _ (List.mem_append_right _ (List.mem_append_left _ h))))))))))
theorem jwc_11 : ∀ w ∈ jW_11, w ∈ jW := fun w h => List.mem_append_right _ (List.mem_append_right _ (List.mem_append_right _ (List.mem_append_right _ (List.mem_append_right _ (List.mem_append_right _ (List.mem_append_right _ (List.mem_append_right _ (List.mem_append_right _ (List.mem_append_right _ (List.mem_append_right _ (List.mem_append_left _ h)))))))))))
theorem jwc_12 : ∀ w ∈ jW_12, w ∈ jW := fun w h => List.mem_append_right _ (List.mem_append_right _ (List.mem_append_right _ (List.mem_append_right _ (List.mem_append_right _ (List.mem_append_right _ (List.mem_append_right _ (List.mem_append_right _ (List.mem_append_right _ (List.mem_append_right _ (List.mem_append_right _ (List.mem_append_right _ (List.mem_append_left _ h))))))))))))
theorem jwc_13 : ∀ w ∈ u_ws RX0 TX0 4, w ∈ jW := fun w h => List.mem_append_right _ (List.mem_append_right _ (List.mem_append_right _ (List.mem_append_right _ (List.mem_append_right _ (List.mem_append_right _ (List.mem_append_right _ (List.mem_append_right _ (List.mem_append_right _ (List.mem_append_right _ (List.mem_append_right _ (List.mem_append_right _ (List.mem_append_right _ (List.mem_append_left _ h)))))))))))))
theorem jwc_14 : ∀ w ∈ u_ws RX1 TX1 4, w ∈ jW := fun w h => List.mem_append_right _ (List.mem_append_right _ (List.mem_append_right _ (List.mem_append_right _ (List.mem_append_right _ (List.mem_append_right _ (List.mem_append_right _ (List.mem_append_right _ (List.mem_append_right _ (List.mem_append_right _ (List.mem_append_right _ (List.mem_append_right _ (List.mem_append_right _ (List.mem_append_right _ (List.mem_append_left _ h))))))))))))))
theorem jwc_15 : ∀ w ∈ u_ws RX2 TX2 7, w ∈ jW := fun w h => List.mem_append_right _ (List.mem_append_right _ (List.mem_append_right _ (List.mem_append_right _ (List.mem_append_right _ (List.mem_append_right _ (List.mem_append_right _ (List.mem_append_right _ (List.mem_append_right _ (List.mem_append_right _ (List.mem_append_right _ (List.mem_append_right _ (List.mem_append_right _ (List.mem_append_right _ (List.mem_append_right _ (List.mem_append_left _ h)))))))))))))))
theorem jwc_16 : ∀ w ∈ u_ws RX3 TX3 7, w ∈ jW := fun w h => List.mem_append_right _ (List.mem_append_right _ (List.mem_append_right _ (List.mem_append_right _ (List.mem_append_right _ (List.mem_append_right _ (List.mem_append_right _ (List.mem_append_right _ (List.mem_append_right _ (List.mem_append_right _ (List.mem_append_right _ (List.mem_append_right _ (List.mem_append_right _ (List.mem_append_right _ (List.mem_append_right _ (List.mem_append_right _ (List.mem_append_left _ h))))))))))))))))
theorem jwc_17 : ∀ w ∈ u_ws RX4 TX4 3, w ∈ jW := fun w h => List.mem_append_right _ (List.mem_append_right _ (List.mem_append_right _ (List.mem_append_right _ (List.mem_append_right _ (List.mem_append_right _ (List.mem_append_right _ (List.mem_append_right _ (List.mem_append_right _ (List.mem_append_right _ (List.mem_append_right _ (List.mem_append_right _ (List.mem_append_right _ (List.mem_append_right _ (List.mem_append_right _ (List.mem_append_right _ (List.mem_append_right _ (List.mem_append_left _ h)))))))))))))))))
theorem jwc_18 : ∀ w ∈ u_ws RX5 TX5 4, w ∈ jW := fun w h => List.mem_append_right _ (List.mem_append_right _ (List.mem_append_right _ (List.mem_append_right _ (List.mem_append_right _ (List.mem_append_right _ (List.mem_append_right _ (List.mem_append_right _ (List.mem_append_right _ (List.mem_append_right _ (List.mem_append_right _ (List.mem_append_right _ (List.mem_append_right _ (List.mem_append_right _ (List.mem_append_right _ (List.mem_append_right _ (List.mem_append_right _ (List.mem_append_right _ (List.mem_append_left _ h))))))))))))))))))
theorem jwc_19 : ∀ w ∈ u_ws RX6 TX6 3, w ∈ jW := fun w h => List.mem_append_right _ (List.mem_append_right _ (List.mem_append_right _ (List.mem_append_right _ (List.mem_append_right _ (List.mem_append_right _ (List.mem_append_right _ (List.mem_append_right _ (List.mem_append_right _ (List.mem_append_right _ (List.mem_append_right _ (List.mem_append_right _ (List.mem_append_right _ (List.mem_append_right _ (List.mem_append_right _ (List.mem_append_right _ (List.mem_append_right _ (List.mem_append_right _ (List.mem_append_right _ (List.mem_append_left _ h)))))))))))))))))))
theorem jwc_20 : ∀ w ∈ u_ws RX7 TX7 3, w ∈ jW := fun w h => List.mem_append_right _ (List.mem_append_right _ (List.mem_append_right _ (List.mem_append_right _ (List.mem_append_right _ (List.mem_append_right _ (List.mem_append_right _ (List.mem_append_right _ (List.mem_append_right _ (List.mem_append_right _ (List.mem_append_right _ (List.mem_append_right _ (List.mem_append_right _ (List.mem_append_right _ (List.mem_append_right _ (List.mem_append_right _ (List.mem_append_right _ (List.mem_append_right _ (List.mem_append_right _ (List.mem_append_right _ (List.mem_append_left _ h))))))))))))))))))))
theorem jwc_21 : ∀ w ∈ u_ws RX8 TX8 1, w ∈ jW := fun w h => List.mem_append_right _ (List.mem_append_right _ (List.mem_append_right _ (List.mem_append_right _ (List.mem_append_right _ (List.mem_append_right _ (List.mem_append_right _ (List.mem_append_right _ (List.mem_append_right _ (List.mem_append_right _ (List.mem_append_right _ (List.mem_append_right _ (List.mem_append_right _ (List.mem_append_right _ (List.mem_append_right _ (List.mem_append_right _ (List.mem_append_right _ (List.mem_append_right _ (List.mem_append_right _ (List.mem_append_right _ (List.mem_append_right _ (List.mem_append_left _ h)))))))))))))))))))))
theorem jwc_22 : ∀ w ∈ u_ws RX9 TX9 6, w ∈ jW := fun w h => List.mem_append_right _ (List.mem_append_right _ (List.mem_append_right _ (List.mem_append_right _ (List.mem_append_right _ (List.mem_append_right _ (List.mem_append_right _ (List.mem_append_right _ (List.mem_append_right _ (List.mem_append_right _ (List.mem_append_right _ (List.mem_append_right _ (List.mem_append_right _ (List.mem_append_right _ (List.mem_append_right _ (List.mem_append_right _ (List.mem_append_right _ (List.mem_append_right _ (List.mem_append_right _ (List.mem_append_right _ (List.mem_append_right _ (List.mem_append_right _ (List.mem_append_left _ h))))))))))))))))))))))
theorem jwc_23 : ∀ w ∈ u_ws RX10 TX10 11, w ∈ jW := fun w h => List.mem_append_right _ (List.mem_append_right _ (List.mem_append_right _ (List.mem_append_right _ (List.mem_append_right _ (List.mem_append_right _ (List.mem_append_right _ (List.mem_append_right _ (List.mem_append_right _ (List.mem_append_right _ (List.mem_append_right _ (List.mem_append_right _ (List.mem_append_right _ (List.mem_append_right _ (List.mem_append_right _ (List.mem_append_right _ (List.mem_append_right _ (List.mem_append_right _ (List.mem_append_right _ (List.mem_append_right _ (List.mem_append_right _ (List.mem_append_right _ (List.mem_append_right _ (List.mem_append_left _ h)))))))))))))))))))))))
theorem jwc_24 : ∀ w ∈ (vx_atS RX10 93 "java/lang/IllegalArgumentException" ["java/lang/RuntimeException", "java/lang/Exception"]).filter goodWord, w ∈ jW := fun w h => List.mem_append_right _ (List.mem_append_right _ (List.mem_append_right _ (List.mem_append_right _ (List.mem_append_right _ (List.mem_append_right _ (List.mem_append_right _ (List.mem_append_right _ (List.mem_append_right _ (List.mem_append_right _ (List.mem_append_right _ (List.mem_append_right _ (List.mem_append_right _ (List.mem_append_right _ (List.mem_append_right _ (List.mem_append_right _ (List.mem_append_right _ (List.mem_append_right _ (List.mem_append_right _ (List.mem_append_right _ (List.mem_append_right _ (List.mem_append_right _ (List.mem_append_right _ (List.mem_append_right _ (List.mem_append_left _ h))))))))))))))))))))))))
theorem jwc_25 : ∀ w ∈ (vx_atS RX10 104 "java/lang/IllegalStateException" ["java/lang/RuntimeException", "java/lang/Exception"]).filter goodWord, w ∈ jW := fun w h => List.mem_append_right _ (List.mem_append_right _ (List.mem_append_right _ (List.mem_append_right _ (List.mem_append_right _ (List.mem_append_right _ (List.mem_append_right _ (List.mem_append_right _ (List.mem_append_right _ (List.mem_append_right _ (List.mem_append_right _ (List.mem_append_right _ (List.mem_append_right _ (List.mem_append_right _ (List.mem_append_right _ (List.mem_append_right _ (List.mem_append_right _ (List.mem_append_right _ (List.mem_append_right _ (List.mem_append_right _ (List.mem_append_right _ (List.mem_append_right _ (List.mem_append_right _ (List.mem_append_right _ (List.mem_append_right _ (List.mem_append_left _ h)))))))))))))))))))))))))
theorem jwc_26 : ∀ w ∈ (vx_atS RX10 159 "java/lang/IndexOutOfBoundsException" ["java/lang/RuntimeException", "java/lang/Exception"]).filter goodWord, w ∈ jW := fun w h => List.mem_append_right _ (List.mem_append_right _ (List.mem_append_right _ (List.mem_append_right _ (List.mem_append_right _ (List.mem_append_right _ (List.mem_append_right _ (List.mem_append_right _ (List.mem_append_right _ (List.mem_append_right _ (List.mem_append_right _ (List.mem_append_right _ (List.mem_append_right _ (List.mem_append_right _ (List.mem_append_right _ (List.mem_append_right _ (List.mem_append_right _ (List.mem_append_right _ (List.mem_append_right _ (List.mem_append_right _ (List.mem_append_right _ (List.mem_append_right _ (List.mem_append_right _ (List.mem_append_right _ (List.mem_append_right _ (List.mem_append_right _ (h))))))))))))))))))))))))))
theorem jwg_0 : jW_0.all goodWord = true := by decide +kernel
theorem jwg_1 : jW_1.all goodWord = true := by decide +kernel
theorem jwg_2 : jW_2.all goodWord = true := by decide +kernel
theorem jwg_3 : jW_3.all goodWord = true := by decide +kernel
theorem jwg_4 : jW_4.all goodWord = true := by decide +kernel
theorem jwg_5 : jW_5.all goodWord = true := by decide +kernel
theorem jwg_6 : jW_6.all goodWord = true := by decide +kernel
theorem jwg_7 : jW_7.all goodWord = true := by decide +kernel
theorem jwg_8 : jW_8.all goodWord = true := by decide +kernel
theorem jwg_9 : jW_9.all goodWord = true := by decide +kernel
theorem jwg_10 : jW_10.all goodWord = true := by decide +kernel
theorem jwg_11 : jW_11.all goodWord = true := by decide +kernel
theorem jwg_12 : jW_12.all goodWord = true := by decide +kernel
theorem hw_X0 : ∀ w ∈ u_ws RX0 TX0 4, w ∈ jW := jwc_13
theorem jwh_X0 : (u_ws RX0 TX0 4).all goodWord = true := by decide +kernel
theorem hw_X1 : ∀ w ∈ u_ws RX1 TX1 4, w ∈ jW := jwc_14
theorem jwh_X1 : (u_ws RX1 TX1 4).all goodWord = true := by decide +kernel
theorem hw_X2 : ∀ w ∈ u_ws RX2 TX2 7, w ∈ jW := jwc_15
theorem jwh_X2 : (u_ws RX2 TX2 7).all goodWord = true := by decide +kernel
theorem hw_X3 : ∀ w ∈ u_ws RX3 TX3 7, w ∈ jW := jwc_16
theorem jwh_X3 : (u_ws RX3 TX3 7).all goodWord = true := by decide +kernel
theorem hw_X4 : ∀ w ∈ u_ws RX4 TX4 3, w ∈ jW := jwc_17
theorem jwh_X4 : (u_ws RX4 TX4 3).all goodWord = true := by decide +kernel
theorem hw_X5 : ∀ w ∈ u_ws RX5 TX5 4, w ∈ jW := jwc_18
theorem jwh_X5 : (u_ws RX5 TX5 4).all goodWord = true := by decide +kernel
theorem hw_X6 : ∀ w ∈ u_ws RX6 TX6 3, w ∈ jW := jwc_19
theorem jwh_X6 : (u_ws RX6 TX6 3).all goodWord = true := by decide +kernel
theorem hw_X7 : ∀ w ∈ u_ws RX7 TX7 3, w ∈ jW := jwc_20
theorem jwh_X7 : (u_ws RX7 TX7 3).all goodWord = true := by decide +kernel
theorem hw_X8 : ∀ w ∈ u_ws RX8 TX8 1, w ∈ jW := jwc_21
theorem jwh_X8 : (u_ws RX8 TX8 1).all goodWord = true := by decide +kernel
theorem hw_X9 : ∀ w ∈ u_ws RX9 TX9 6, w ∈ jW := jwc_22
theorem jwh_X9 : (u_ws RX9 TX9 6).all goodWord = true := by decide +kernel
theorem hw_X10 : ∀ w ∈ u_ws RX10 TX10 11, w ∈ jW := jwc_23
theorem jwh_X10 : (u_ws RX10 TX10 11).all goodWord = true := by decide +kernel
theorem hwx_93 : ∀ w ∈ (vx_atS RX10 93 "java/lang/IllegalArgumentException" ["java/lang/RuntimeException", "java/lang/Exception"]).filter goodWord, w ∈ jW := jwc_24
theorem hwx_104 : ∀ w ∈ (vx_atS RX10 104 "java/lang/IllegalStateException" ["java/lang/RuntimeException", "java/lang/Exception"]).filter goodWord, w ∈ jW := jwc_25
theorem hwx_159 : ∀ w ∈ (vx_atS RX10 159 "java/lang/IndexOutOfBoundsException" ["java/lang/RuntimeException", "java/lang/Exception"]).filter goodWord, w ∈ jW := jwc_26
theorem jW_good : ∀ w ∈ jW, goodWord w = true := List.forall_mem_append.mpr ⟨fun w h => List.all_eq_true.mp jwg_0 w h, List.forall_mem_append.mpr ⟨fun w h => List.all_eq_true.mp jwg_1 w h, List.forall_mem_append.mpr ⟨fun w h => List.all_eq_true.mp jwg_2 w h, List.forall_mem_append.mpr ⟨fun w h => List.all_eq_true.mp jwg_3 w h, List.forall_mem_append.mpr ⟨fun w h => List.all_eq_true.mp jwg_4 w h, List.forall_mem_append.mpr ⟨fun w h => List.all_eq_true.mp jwg_5 w h, List.forall_mem_append.mpr ⟨fun w h => List.all_eq_true.mp jwg_6 w h, List.forall_mem_append.mpr ⟨fun w h => List.all_eq_true.mp jwg_7 w h, List.forall_mem_append.mpr ⟨fun w h => List.all_eq_true.mp jwg_8 w h, List.forall_mem_append.mpr ⟨fun w h => List.all_eq_true.mp jwg_9 w h, List.forall_mem_append.mpr ⟨fun w h => List.all_eq_true.mp jwg_10 w h, List.forall_mem_append.mpr ⟨fun w h => List.all_eq_true.mp jwg_11 w h, List.forall_mem_append.mpr ⟨fun w h => List.all_eq_true.mp jwg_12 w h, List.forall_mem_append.mpr ⟨fun w h => List.all_eq_true.mp jwh_X0 w h, List.forall_mem_append.mpr ⟨fun w h => List.all_eq_true.mp jwh_X1 w h, List.forall_mem_append.mpr ⟨fun w h => List.all_eq_true.mp jwh_X2 w h, List.forall_mem_append.mpr ⟨fun w h => List.all_eq_true.mp jwh_X3 w h, List.forall_mem_append.mpr ⟨fun w h => List.all_eq_true.mp jwh_X4 w h, List.forall_mem_append.mpr ⟨fun w h => List.all_eq_true.mp jwh_X5 w h, List.forall_mem_append.mpr ⟨fun w h => List.all_eq_true.mp jwh_X6 w h, List.forall_mem_append.mpr ⟨fun w h => List.all_eq_true.mp jwh_X7 w h, List.forall_mem_append.mpr ⟨fun w h => List.all_eq_true.mp jwh_X8 w h, List.forall_mem_append.mpr ⟨fun w h => List.all_eq_true.mp jwh_X9 w h, List.forall_mem_append.mpr ⟨fun w h => List.all_eq_true.mp jwh_X10 w h, List.forall_mem_append.mpr ⟨fun w h => (List.mem_filter.mp h).2, List.forall_mem_append.mpr ⟨fun w h => (List.mem_filter.mp h).2, fun w h => (List.mem_filter.mp h).2⟩⟩⟩⟩⟩⟩⟩⟩⟩⟩⟩⟩⟩⟩⟩⟩⟩⟩⟩⟩⟩⟩⟩⟩⟩⟩
theorem lw_0 : Cond.arrayClass .int ∈ jW := jwc_0 _ (List.mem_of_getElem? (i := 0) rfl)
theorem lw_1 : Cond.fieldLink RX8 7 "Gaitwright$Row" "cells" "[I" ∈ jW := jwc_0 _ (List.mem_of_getElem? (i := 1) rfl)
theorem lw_2 : Cond.code yJ7_fill_53178 cJ7_fill_53178 4 none ∈ jW := jwc_0 _ (List.mem_of_getElem? (i := 2) rfl)
theorem lw_3 : Cond.methodLink RX8 13 yJ7_fill_53178 ∈ jW := jwc_0 _ (List.mem_of_getElem? (i := 3) rfl)
theorem lw_4 : Cond.static yJ7_fill_53178 ∈ jW := jwc_0 _ (List.mem_of_getElem? (i := 4) rfl)
theorem lw_5 : Cond.initialized RJ7 ∈ jW := jwc_0 _ (List.mem_of_getElem? (i := 5) rfl)
theorem lw_6 : Cond.methodLink RX8 1 objectInit ∈ jW := jwc_0 _ (List.mem_of_getElem? (i := 6) rfl)
theorem lw_7 : Cond.instanceMethod objectInit ∈ jW := jwc_0 _ (List.mem_of_getElem? (i := 7) rfl)
theorem lw_8 : Cond.code objectInit ⟨#[0xb1]⟩ 1 none ∈ jW := jwc_0 _ (List.mem_of_getElem? (i := 8) rfl)
theorem lw_9 : Cond.methodLink RX4 3 objectInit ∈ jW := jwc_0 _ (List.mem_of_getElem? (i := 9) rfl)
theorem lw_10 : Cond.classLink RX4 9 RX8 ∈ jW := jwc_0 _ (List.mem_of_getElem? (i := 10) rfl)
theorem lw_11 : Cond.instantiable RX8 1 ∈ jW := jwc_0 _ (List.mem_of_getElem? (i := 11) rfl)
theorem lw_12 : Cond.initialized RX8 ∈ jW := jwc_0 _ (List.mem_of_getElem? (i := 12) rfl)
theorem lw_13 : Cond.code yX8_init cX8_init 3 none ∈ jW := jwc_0 _ (List.mem_of_getElem? (i := 13) rfl)
theorem lw_14 : Cond.methodLink RX4 11 yX8_init ∈ jW := jwc_0 _ (List.mem_of_getElem? (i := 14) rfl)
theorem lw_15 : Cond.instanceMethod yX8_init ∈ jW := jwc_0 _ (List.mem_of_getElem? (i := 15) rfl)
theorem lw_16 : Cond.fieldLink RX4 14 "Gaitwright$Hull" "corners" "LGaitwright$Row;" ∈ jW := jwc_0 _ (List.mem_of_getElem? (i := 16) rfl)
theorem lw_17 : Cond.fieldLink RX4 20 "Gaitwright$Hull" "points" "LGaitwright$Row;" ∈ jW := jwc_0 _ (List.mem_of_getElem? (i := 17) rfl)
theorem lw_18 : Cond.fieldLink RX4 23 "Gaitwright$Hull" "size" "I" ∈ jW := jwc_0 _ (List.mem_of_getElem? (i := 18) rfl)
theorem lw_19 : Cond.methodLink RX5 3 objectInit ∈ jW := jwc_0 _ (List.mem_of_getElem? (i := 19) rfl)
theorem lw_20 : Cond.classLink RX5 9 RX8 ∈ jW := jwc_0 _ (List.mem_of_getElem? (i := 20) rfl)
theorem lw_21 : Cond.methodLink RX5 11 yX8_init ∈ jW := jwc_0 _ (List.mem_of_getElem? (i := 21) rfl)
theorem lw_22 : Cond.fieldLink RX5 14 "Gaitwright$Land" "height" "LGaitwright$Row;" ∈ jW := jwc_0 _ (List.mem_of_getElem? (i := 22) rfl)
theorem lw_23 : Cond.fieldLink RX5 20 "Gaitwright$Land" "firmness" "LGaitwright$Row;" ∈ jW := jwc_0 _ (List.mem_of_getElem? (i := 23) rfl)
theorem lw_24 : Cond.fieldLink RX5 23 "Gaitwright$Land" "grip" "LGaitwright$Row;" ∈ jW := jwc_0 _ (List.mem_of_getElem? (i := 24) rfl)
theorem lw_25 : Cond.fieldLink RX5 26 "Gaitwright$Land" "mapped" "LGaitwright$Row;" ∈ jW := jwc_0 _ (List.mem_of_getElem? (i := 25) rfl)
theorem lw_26 : Cond.methodLink RX2 3 objectInit ∈ jW := jwc_0 _ (List.mem_of_getElem? (i := 26) rfl)
theorem lw_27 : Cond.classLink RX2 9 RX8 ∈ jW := jwc_0 _ (List.mem_of_getElem? (i := 27) rfl)
theorem lw_28 : Cond.methodLink RX2 11 yX8_init ∈ jW := jwc_0 _ (List.mem_of_getElem? (i := 28) rfl)
theorem lw_29 : Cond.fieldLink RX2 14 "Gaitwright$Frame" "hipX" "LGaitwright$Row;" ∈ jW := jwc_0 _ (List.mem_of_getElem? (i := 29) rfl)
theorem lw_30 : Cond.fieldLink RX2 20 "Gaitwright$Frame" "hipY" "LGaitwright$Row;" ∈ jW := jwc_0 _ (List.mem_of_getElem? (i := 30) rfl)
theorem lw_31 : Cond.fieldLink RX2 23 "Gaitwright$Frame" "reach" "LGaitwright$Row;" ∈ jW := jwc_0 _ (List.mem_of_getElem? (i := 31) rfl)
theorem lw_32 : Cond.fieldLink RX2 26 "Gaitwright$Frame" "legs" "I" ∈ jW := jwc_0 _ (List.mem_of_getElem? (i := 32) rfl)
theorem lw_33 : Cond.fieldLink RX2 30 "Gaitwright$Frame" "loadWeight" "I" ∈ jW := jwc_0 _ (List.mem_of_getElem? (i := 33) rfl)
theorem lw_34 : Cond.fieldLink RX2 33 "Gaitwright$Frame" "loadX" "I" ∈ jW := jwc_0 _ (List.mem_of_getElem? (i := 34) rfl)
theorem lw_35 : Cond.fieldLink RX2 36 "Gaitwright$Frame" "loadY" "I" ∈ jW := jwc_0 _ (List.mem_of_getElem? (i := 35) rfl)
theorem lw_36 : Cond.methodLink RX9 3 objectInit ∈ jW := jwc_0 _ (List.mem_of_getElem? (i := 36) rfl)
theorem lw_37 : Cond.classLink RX9 9 RX8 ∈ jW := jwc_0 _ (List.mem_of_getElem? (i := 37) rfl)
theorem lw_38 : Cond.methodLink RX9 11 yX8_init ∈ jW := jwc_0 _ (List.mem_of_getElem? (i := 38) rfl)
theorem lw_39 : Cond.fieldLink RX9 14 "Gaitwright$Stance" "feet" "LGaitwright$Row;" ∈ jW := jwc_0 _ (List.mem_of_getElem? (i := 39) rfl)
theorem lw_40 : Cond.fieldLink RX9 20 "Gaitwright$Stance" "bodyX" "I" ∈ jW := jwc_0 _ (List.mem_of_getElem? (i := 40) rfl)
theorem lw_41 : Cond.fieldLink RX9 24 "Gaitwright$Stance" "bodyY" "I" ∈ jW := jwc_0 _ (List.mem_of_getElem? (i := 41) rfl)
theorem lw_42 : Cond.fieldLink RX9 27 "Gaitwright$Stance" "land" "LGaitwright$Land;" ∈ jW := jwc_0 _ (List.mem_of_getElem? (i := 42) rfl)
theorem lw_43 : Cond.fieldLink RX9 31 "Gaitwright$Stance" "frame" "LGaitwright$Frame;" ∈ jW := jwc_0 _ (List.mem_of_getElem? (i := 43) rfl)
theorem lw_44 : Cond.fieldLink RX9 35 "Gaitwright$Stance" "hull" "LGaitwright$Hull;" ∈ jW := jwc_0 _ (List.mem_of_getElem? (i := 44) rfl)
theorem lw_45 : Cond.methodLink RX6 3 objectInit ∈ jW := jwc_0 _ (List.mem_of_getElem? (i := 45) rfl)
theorem lw_46 : Cond.classLink RX6 9 RX8 ∈ jW := jwc_0 _ (List.mem_of_getElem? (i := 46) rfl)
theorem lw_47 : Cond.methodLink RX6 11 yX8_init ∈ jW := jwc_0 _ (List.mem_of_getElem? (i := 47) rfl)
theorem lw_48 : Cond.fieldLink RX6 14 "Gaitwright$Pieces" "x" "LGaitwright$Row;" ∈ jW := jwc_0 _ (List.mem_of_getElem? (i := 48) rfl)
theorem lw_49 : Cond.fieldLink RX6 20 "Gaitwright$Pieces" "y" "LGaitwright$Row;" ∈ jW := jwc_0 _ (List.mem_of_getElem? (i := 49) rfl)
theorem lw_50 : Cond.fieldLink RX6 23 "Gaitwright$Pieces" "count" "I" ∈ jW := jwc_0 _ (List.mem_of_getElem? (i := 50) rfl)
theorem lw_51 : Cond.methodLink RX0 3 objectInit ∈ jW := jwc_0 _ (List.mem_of_getElem? (i := 51) rfl)
theorem lw_52 : Cond.fieldLink RX0 9 "Gaitwright$Damage" "count" "I" ∈ jW := jwc_0 _ (List.mem_of_getElem? (i := 52) rfl)
theorem lw_53 : Cond.fieldLink RX0 15 "Gaitwright$Damage" "firstWhat" "I" ∈ jW := jwc_0 _ (List.mem_of_getElem? (i := 53) rfl)
theorem lw_54 : Cond.fieldLink RX0 18 "Gaitwright$Damage" "firstPoint" "I" ∈ jW := jwc_0 _ (List.mem_of_getElem? (i := 54) rfl)
theorem lw_55 : Cond.fieldLink RX0 21 "Gaitwright$Damage" "firstOfAct" "I" ∈ jW := jwc_0 _ (List.mem_of_getElem? (i := 55) rfl)
theorem lw_56 : Cond.methodLink RX1 3 objectInit ∈ jW := jwc_0 _ (List.mem_of_getElem? (i := 56) rfl)
theorem lw_57 : Cond.classLink RX1 9 RX8 ∈ jW := jwc_0 _ (List.mem_of_getElem? (i := 57) rfl)
theorem lw_58 : Cond.methodLink RX1 11 yX8_init ∈ jW := jwc_0 _ (List.mem_of_getElem? (i := 58) rfl)
theorem lw_59 : Cond.fieldLink RX1 14 "Gaitwright$Falls" "direction" "LGaitwright$Row;" ∈ jW := jwc_0 _ (List.mem_of_getElem? (i := 59) rfl)
theorem lw_60 : Cond.fieldLink RX1 20 "Gaitwright$Falls" "what" "LGaitwright$Row;" ∈ jW := jwc_1 _ (List.mem_of_getElem? (i := 0) rfl)
theorem lw_61 : Cond.fieldLink RX1 23 "Gaitwright$Falls" "point" "LGaitwright$Row;" ∈ jW := jwc_1 _ (List.mem_of_getElem? (i := 1) rfl)
theorem lw_62 : Cond.fieldLink RX1 26 "Gaitwright$Falls" "count" "I" ∈ jW := jwc_1 _ (List.mem_of_getElem? (i := 2) rfl)
theorem lw_63 : Cond.methodLink RX3 3 objectInit ∈ jW := jwc_1 _ (List.mem_of_getElem? (i := 3) rfl)
theorem lw_64 : Cond.classLink RX3 9 RX8 ∈ jW := jwc_1 _ (List.mem_of_getElem? (i := 4) rfl)
theorem lw_65 : Cond.methodLink RX3 11 yX8_init ∈ jW := jwc_1 _ (List.mem_of_getElem? (i := 5) rfl)
theorem lw_66 : Cond.fieldLink RX3 14 "Gaitwright$Gait" "leg" "LGaitwright$Row;" ∈ jW := jwc_1 _ (List.mem_of_getElem? (i := 6) rfl)
theorem lw_67 : Cond.fieldLink RX3 20 "Gaitwright$Gait" "footX" "LGaitwright$Row;" ∈ jW := jwc_1 _ (List.mem_of_getElem? (i := 7) rfl)
theorem lw_68 : Cond.fieldLink RX3 23 "Gaitwright$Gait" "footY" "LGaitwright$Row;" ∈ jW := jwc_1 _ (List.mem_of_getElem? (i := 8) rfl)
theorem lw_69 : Cond.fieldLink RX3 26 "Gaitwright$Gait" "bodyX" "LGaitwright$Row;" ∈ jW := jwc_1 _ (List.mem_of_getElem? (i := 9) rfl)
theorem lw_70 : Cond.fieldLink RX3 29 "Gaitwright$Gait" "bodyY" "LGaitwright$Row;" ∈ jW := jwc_1 _ (List.mem_of_getElem? (i := 10) rfl)
theorem lw_71 : Cond.fieldLink RX3 32 "Gaitwright$Gait" "count" "I" ∈ jW := jwc_1 _ (List.mem_of_getElem? (i := 11) rfl)
theorem lw_72 : Cond.fieldLink RX3 36 "Gaitwright$Gait" "next" "I" ∈ jW := jwc_1 _ (List.mem_of_getElem? (i := 12) rfl)
theorem lw_73 : Cond.fieldLink RX7 11 "Gaitwright$Planner" "behind" "[LGaitwright$Stance;" ∈ jW := jwc_1 _ (List.mem_of_getElem? (i := 13) rfl)
theorem lw_74 : Cond.classLink RX7 9 RX9 ∈ jW := jwc_1 _ (List.mem_of_getElem? (i := 14) rfl)
theorem lw_75 : Cond.instantiable RX9 6 ∈ jW := jwc_1 _ (List.mem_of_getElem? (i := 15) rfl)
theorem lw_76 : Cond.initialized RX9 ∈ jW := jwc_1 _ (List.mem_of_getElem? (i := 16) rfl)
theorem lw_77 : Cond.code yX9_init cX9_init 4 none ∈ jW := jwc_1 _ (List.mem_of_getElem? (i := 17) rfl)
theorem lw_78 : Cond.methodLink RX7 25 yX9_init ∈ jW := jwc_1 _ (List.mem_of_getElem? (i := 18) rfl)
theorem lw_79 : Cond.instanceMethod yX9_init ∈ jW := jwc_1 _ (List.mem_of_getElem? (i := 19) rfl)
theorem lw_80 : Cond.methodLink RX7 3 objectInit ∈ jW := jwc_1 _ (List.mem_of_getElem? (i := 20) rfl)
theorem lw_81 : Cond.fieldLink RX7 17 "Gaitwright$Planner" "goal" "I" ∈ jW := jwc_1 _ (List.mem_of_getElem? (i := 21) rfl)
theorem lw_82 : Cond.fieldLink RX7 21 "Gaitwright$Planner" "frame" "LGaitwright$Frame;" ∈ jW := jwc_1 _ (List.mem_of_getElem? (i := 22) rfl)
theorem lw_83 : Cond.methodLink RX10 3 objectInit ∈ jW := jwc_1 _ (List.mem_of_getElem? (i := 23) rfl)
theorem lw_84 : Cond.classLink RX10 9 RX4 ∈ jW := jwc_1 _ (List.mem_of_getElem? (i := 24) rfl)
theorem lw_85 : Cond.instantiable RX4 3 ∈ jW := jwc_1 _ (List.mem_of_getElem? (i := 25) rfl)
theorem lw_86 : Cond.initialized RX4 ∈ jW := jwc_1 _ (List.mem_of_getElem? (i := 26) rfl)
theorem lw_87 : Cond.code yX4_init cX4_init 1 none ∈ jW := jwc_1 _ (List.mem_of_getElem? (i := 27) rfl)
theorem lw_88 : Cond.instanceMethod yX4_init ∈ jW := jwc_1 _ (List.mem_of_getElem? (i := 28) rfl)
theorem lw_89 : Cond.classLink RX10 12 RX5 ∈ jW := jwc_1 _ (List.mem_of_getElem? (i := 29) rfl)
theorem lw_90 : Cond.instantiable RX5 4 ∈ jW := jwc_1 _ (List.mem_of_getElem? (i := 30) rfl)
theorem lw_91 : Cond.initialized RX5 ∈ jW := jwc_1 _ (List.mem_of_getElem? (i := 31) rfl)
theorem lw_92 : Cond.code yX5_init cX5_init 1 none ∈ jW := jwc_1 _ (List.mem_of_getElem? (i := 32) rfl)
theorem lw_93 : Cond.instanceMethod yX5_init ∈ jW := jwc_1 _ (List.mem_of_getElem? (i := 33) rfl)
theorem lw_94 : Cond.fieldLink RX10 15 "Gaitwright" "land" "LGaitwright$Land;" ∈ jW := jwc_1 _ (List.mem_of_getElem? (i := 34) rfl)
theorem lw_95 : Cond.classLink RX10 19 RX2 ∈ jW := jwc_1 _ (List.mem_of_getElem? (i := 35) rfl)
theorem lw_96 : Cond.instantiable RX2 7 ∈ jW := jwc_1 _ (List.mem_of_getElem? (i := 36) rfl)
theorem lw_97 : Cond.initialized RX2 ∈ jW := jwc_1 _ (List.mem_of_getElem? (i := 37) rfl)
theorem lw_98 : Cond.code yX2_init cX2_init 1 none ∈ jW := jwc_1 _ (List.mem_of_getElem? (i := 38) rfl)
theorem lw_99 : Cond.instanceMethod yX2_init ∈ jW := jwc_1 _ (List.mem_of_getElem? (i := 39) rfl)
theorem lw_100 : Cond.fieldLink RX10 22 "Gaitwright" "frame" "LGaitwright$Frame;" ∈ jW := jwc_1 _ (List.mem_of_getElem? (i := 40) rfl)
theorem lw_101 : Cond.classLink RX10 26 RX9 ∈ jW := jwc_1 _ (List.mem_of_getElem? (i := 41) rfl)
theorem lw_102 : Cond.methodLink RX10 28 yX9_init ∈ jW := jwc_1 _ (List.mem_of_getElem? (i := 42) rfl)
theorem lw_103 : Cond.fieldLink RX10 31 "Gaitwright" "stance" "LGaitwright$Stance;" ∈ jW := jwc_1 _ (List.mem_of_getElem? (i := 43) rfl)
theorem lw_104 : Cond.fieldLink RX10 35 "Gaitwright" "trial" "LGaitwright$Stance;" ∈ jW := jwc_1 _ (List.mem_of_getElem? (i := 44) rfl)
theorem lw_105 : Cond.classLink RX10 38 RX6 ∈ jW := jwc_1 _ (List.mem_of_getElem? (i := 45) rfl)
theorem lw_106 : Cond.instantiable RX6 3 ∈ jW := jwc_1 _ (List.mem_of_getElem? (i := 46) rfl)
theorem lw_107 : Cond.initialized RX6 ∈ jW := jwc_1 _ (List.mem_of_getElem? (i := 47) rfl)
theorem lw_108 : Cond.code yX6_init cX6_init 1 none ∈ jW := jwc_1 _ (List.mem_of_getElem? (i := 48) rfl)
theorem lw_109 : Cond.instanceMethod yX6_init ∈ jW := jwc_1 _ (List.mem_of_getElem? (i := 49) rfl)
theorem lw_110 : Cond.fieldLink RX10 41 "Gaitwright" "pieces" "LGaitwright$Pieces;" ∈ jW := jwc_1 _ (List.mem_of_getElem? (i := 50) rfl)
theorem lw_111 : Cond.classLink RX10 45 RX0 ∈ jW := jwc_1 _ (List.mem_of_getElem? (i := 51) rfl)
theorem lw_112 : Cond.instantiable RX0 4 ∈ jW := jwc_1 _ (List.mem_of_getElem? (i := 52) rfl)
theorem lw_113 : Cond.initialized RX0 ∈ jW := jwc_1 _ (List.mem_of_getElem? (i := 53) rfl)
theorem lw_114 : Cond.code yX0_init cX0_init 1 none ∈ jW := jwc_1 _ (List.mem_of_getElem? (i := 54) rfl)
theorem lw_115 : Cond.instanceMethod yX0_init ∈ jW := jwc_1 _ (List.mem_of_getElem? (i := 55) rfl)
theorem lw_116 : Cond.fieldLink RX10 48 "Gaitwright" "damage" "LGaitwright$Damage;" ∈ jW := jwc_1 _ (List.mem_of_getElem? (i := 56) rfl)
theorem lw_117 : Cond.classLink RX10 52 RX1 ∈ jW := jwc_1 _ (List.mem_of_getElem? (i := 57) rfl)
theorem lw_118 : Cond.instantiable RX1 4 ∈ jW := jwc_1 _ (List.mem_of_getElem? (i := 58) rfl)
theorem lw_119 : Cond.initialized RX1 ∈ jW := jwc_1 _ (List.mem_of_getElem? (i := 59) rfl)
theorem lw_120 : Cond.code yX1_init cX1_init 1 none ∈ jW := jwc_2 _ (List.mem_of_getElem? (i := 0) rfl)
theorem lw_121 : Cond.instanceMethod yX1_init ∈ jW := jwc_2 _ (List.mem_of_getElem? (i := 1) rfl)
theorem lw_122 : Cond.fieldLink RX10 55 "Gaitwright" "falls" "LGaitwright$Falls;" ∈ jW := jwc_2 _ (List.mem_of_getElem? (i := 2) rfl)
theorem lw_123 : Cond.classLink RX10 59 RX3 ∈ jW := jwc_2 _ (List.mem_of_getElem? (i := 3) rfl)
theorem lw_124 : Cond.instantiable RX3 7 ∈ jW := jwc_2 _ (List.mem_of_getElem? (i := 4) rfl)
theorem lw_125 : Cond.initialized RX3 ∈ jW := jwc_2 _ (List.mem_of_getElem? (i := 5) rfl)
theorem lw_126 : Cond.code yX3_init cX3_init 1 none ∈ jW := jwc_2 _ (List.mem_of_getElem? (i := 6) rfl)
theorem lw_127 : Cond.instanceMethod yX3_init ∈ jW := jwc_2 _ (List.mem_of_getElem? (i := 7) rfl)
theorem lw_128 : Cond.fieldLink RX10 62 "Gaitwright" "gait" "LGaitwright$Gait;" ∈ jW := jwc_2 _ (List.mem_of_getElem? (i := 8) rfl)
theorem lw_129 : Cond.classLink RX10 66 RX7 ∈ jW := jwc_2 _ (List.mem_of_getElem? (i := 9) rfl)
theorem lw_130 : Cond.instantiable RX7 3 ∈ jW := jwc_2 _ (List.mem_of_getElem? (i := 10) rfl)
theorem lw_131 : Cond.initialized RX7 ∈ jW := jwc_2 _ (List.mem_of_getElem? (i := 11) rfl)
theorem lw_132 : Cond.code yX7_init cX7_init 5 none ∈ jW := jwc_2 _ (List.mem_of_getElem? (i := 12) rfl)
theorem lw_133 : Cond.methodLink RX10 68 yX7_init ∈ jW := jwc_2 _ (List.mem_of_getElem? (i := 13) rfl)
theorem lw_134 : Cond.instanceMethod yX7_init ∈ jW := jwc_2 _ (List.mem_of_getElem? (i := 14) rfl)
theorem lw_135 : Cond.fieldLink RX10 69 "Gaitwright" "planner" "LGaitwright$Planner;" ∈ jW := jwc_2 _ (List.mem_of_getElem? (i := 15) rfl)
theorem lw_136 : Cond.fieldLink RX10 73 "Gaitwright" "stands" "Z" ∈ jW := jwc_2 _ (List.mem_of_getElem? (i := 16) rfl)
theorem lw_137 : Cond.fieldLink RX10 77 "Gaitwright" "energy" "I" ∈ jW := jwc_2 _ (List.mem_of_getElem? (i := 17) rfl)
theorem lw_138 : Cond.code yX8_at cX8_at 2 (some .int) ∈ jW := jwc_2 _ (List.mem_of_getElem? (i := 18) rfl)
theorem lw_139 : Cond.methodLink RX9 48 yX8_at ∈ jW := jwc_2 _ (List.mem_of_getElem? (i := 19) rfl)
theorem lw_140 : Cond.instanceMethod yX8_at ∈ jW := jwc_2 _ (List.mem_of_getElem? (i := 20) rfl)
theorem lw_141 : Cond.selects RX8 yX8_at yX8_at ∈ jW := jwc_2 _ (List.mem_of_getElem? (i := 21) rfl)
theorem lw_142 : Cond.classLink RX10 89 "java/lang/IllegalArgumentException" ∈ jW := jwc_2 _ (List.mem_of_getElem? (i := 22) rfl)
theorem lw_143 : Cond.initialized "java/lang/IllegalArgumentException" ∈ jW := jwc_2 _ (List.mem_of_getElem? (i := 23) rfl)
theorem lw_144 : Cond.code yX10_pointAt cX10_pointAt 2 (some .int) ∈ jW := jwc_2 _ (List.mem_of_getElem? (i := 24) rfl)
theorem lw_145 : Cond.methodLink RX10 81 yX10_pointAt ∈ jW := jwc_2 _ (List.mem_of_getElem? (i := 25) rfl)
theorem lw_146 : Cond.static yX10_pointAt ∈ jW := jwc_2 _ (List.mem_of_getElem? (i := 26) rfl)
theorem lw_147 : Cond.initialized RX10 ∈ jW := jwc_2 _ (List.mem_of_getElem? (i := 27) rfl)
theorem lw_148 : Cond.code yX10_isWithin cX10_isWithin 3 (some .boolean) ∈ jW := jwc_2 _ (List.mem_of_getElem? (i := 28) rfl)
theorem lw_149 : Cond.methodLink RX10 85 yX10_isWithin ∈ jW := jwc_2 _ (List.mem_of_getElem? (i := 29) rfl)
theorem lw_150 : Cond.static yX10_isWithin ∈ jW := jwc_2 _ (List.mem_of_getElem? (i := 30) rfl)
theorem lw_151 : Cond.code yX9_isTaken cX9_isTaken 4 (some .boolean) ∈ jW := jwc_2 _ (List.mem_of_getElem? (i := 31) rfl)
theorem lw_152 : Cond.methodLink RX10 96 yX9_isTaken ∈ jW := jwc_2 _ (List.mem_of_getElem? (i := 32) rfl)
theorem lw_153 : Cond.instanceMethod yX9_isTaken ∈ jW := jwc_2 _ (List.mem_of_getElem? (i := 33) rfl)
theorem lw_154 : Cond.selects RX9 yX9_isTaken yX9_isTaken ∈ jW := jwc_2 _ (List.mem_of_getElem? (i := 34) rfl)
theorem lw_155 : Cond.fieldLink RX10 105 "Gaitwright$Land" "height" "LGaitwright$Row;" ∈ jW := jwc_2 _ (List.mem_of_getElem? (i := 35) rfl)
theorem lw_156 : Cond.methodLink RX10 109 yX8_at ∈ jW := jwc_2 _ (List.mem_of_getElem? (i := 36) rfl)
theorem lw_157 : Cond.code yX8_put cX8_put 3 none ∈ jW := jwc_2 _ (List.mem_of_getElem? (i := 37) rfl)
theorem lw_158 : Cond.methodLink RX10 115 yX8_put ∈ jW := jwc_2 _ (List.mem_of_getElem? (i := 38) rfl)
theorem lw_159 : Cond.instanceMethod yX8_put ∈ jW := jwc_2 _ (List.mem_of_getElem? (i := 39) rfl)
theorem lw_160 : Cond.selects RX8 yX8_put yX8_put ∈ jW := jwc_2 _ (List.mem_of_getElem? (i := 40) rfl)
theorem lw_161 : Cond.fieldLink RX10 119 "Gaitwright$Land" "firmness" "LGaitwright$Row;" ∈ jW := jwc_2 _ (List.mem_of_getElem? (i := 41) rfl)
theorem lw_162 : Cond.fieldLink RX10 122 "Gaitwright$Land" "grip" "LGaitwright$Row;" ∈ jW := jwc_2 _ (List.mem_of_getElem? (i := 42) rfl)
theorem lw_163 : Cond.classLink RX10 100 "java/lang/IllegalStateException" ∈ jW := jwc_2 _ (List.mem_of_getElem? (i := 43) rfl)
theorem lw_164 : Cond.initialized "java/lang/IllegalStateException" ∈ jW := jwc_2 _ (List.mem_of_getElem? (i := 44) rfl)
theorem lw_165 : Cond.fieldLink RX10 127 "Gaitwright$Land" "mapped" "LGaitwright$Row;" ∈ jW := jwc_2 _ (List.mem_of_getElem? (i := 45) rfl)
theorem lw_166 : Cond.methodLink RX2 39 yX8_put ∈ jW := jwc_2 _ (List.mem_of_getElem? (i := 46) rfl)
theorem lw_167 : Cond.code yX10_isAside cX10_isAside 1 (some .boolean) ∈ jW := jwc_2 _ (List.mem_of_getElem? (i := 47) rfl)
theorem lw_168 : Cond.methodLink RX10 130 yX10_isAside ∈ jW := jwc_2 _ (List.mem_of_getElem? (i := 48) rfl)
theorem lw_169 : Cond.static yX10_isAside ∈ jW := jwc_2 _ (List.mem_of_getElem? (i := 49) rfl)
theorem lw_170 : Cond.fieldLink RX10 136 "Gaitwright$Frame" "legs" "I" ∈ jW := jwc_2 _ (List.mem_of_getElem? (i := 50) rfl)
theorem lw_171 : Cond.code yX2_join cX2_join 5 (some .int) ∈ jW := jwc_2 _ (List.mem_of_getElem? (i := 51) rfl)
theorem lw_172 : Cond.methodLink RX10 141 yX2_join ∈ jW := jwc_2 _ (List.mem_of_getElem? (i := 52) rfl)
theorem lw_173 : Cond.instanceMethod yX2_join ∈ jW := jwc_2 _ (List.mem_of_getElem? (i := 53) rfl)
theorem lw_174 : Cond.selects RX2 yX2_join yX2_join ∈ jW := jwc_2 _ (List.mem_of_getElem? (i := 54) rfl)
theorem lw_175 : Cond.methodLink RX10 147 Lib.Math.min.name ∈ jW := jwc_2 _ (List.mem_of_getElem? (i := 55) rfl)
theorem lw_176 : Cond.static Lib.Math.min.name ∈ jW := jwc_2 _ (List.mem_of_getElem? (i := 56) rfl)
theorem lw_177 : Cond.initialized "java/lang/Math" ∈ jW := jwc_2 _ (List.mem_of_getElem? (i := 57) rfl)
theorem lw_178 : Cond.code Lib.Math.min.name Lib.Math.min.code 2 (some .int) ∈ jW := jwc_2 _ (List.mem_of_getElem? (i := 58) rfl)
theorem lw_179 : Cond.methodLink RX3 39 yX8_put ∈ jW := jwc_2 _ (List.mem_of_getElem? (i := 59) rfl)
theorem lw_180 : Cond.code yX10_isLeg cX10_isLeg 2 (some .boolean) ∈ jW := jwc_3 _ (List.mem_of_getElem? (i := 0) rfl)
theorem lw_181 : Cond.methodLink RX10 152 yX10_isLeg ∈ jW := jwc_3 _ (List.mem_of_getElem? (i := 1) rfl)
theorem lw_182 : Cond.instanceMethod yX10_isLeg ∈ jW := jwc_3 _ (List.mem_of_getElem? (i := 2) rfl)
theorem lw_183 : Cond.selects RX10 yX10_isLeg yX10_isLeg ∈ jW := jwc_3 _ (List.mem_of_getElem? (i := 3) rfl)
theorem lw_184 : Cond.fieldLink RX10 162 "Gaitwright$Gait" "count" "I" ∈ jW := jwc_3 _ (List.mem_of_getElem? (i := 4) rfl)
theorem lw_185 : Cond.code yX3_add cX3_add 6 (some .int) ∈ jW := jwc_3 _ (List.mem_of_getElem? (i := 5) rfl)
theorem lw_186 : Cond.methodLink RX10 167 yX3_add ∈ jW := jwc_3 _ (List.mem_of_getElem? (i := 6) rfl)
theorem lw_187 : Cond.instanceMethod yX3_add ∈ jW := jwc_3 _ (List.mem_of_getElem? (i := 7) rfl)
theorem lw_188 : Cond.selects RX3 yX3_add yX3_add ∈ jW := jwc_3 _ (List.mem_of_getElem? (i := 8) rfl)
theorem lw_189 : Cond.classLink RX10 155 "java/lang/IndexOutOfBoundsException" ∈ jW := jwc_3 _ (List.mem_of_getElem? (i := 9) rfl)
theorem lw_190 : Cond.initialized "java/lang/IndexOutOfBoundsException" ∈ jW := jwc_3 _ (List.mem_of_getElem? (i := 10) rfl)
theorem lw_191 : Cond.code yX3_clear cX3_clear 1 none ∈ jW := jwc_3 _ (List.mem_of_getElem? (i := 11) rfl)
theorem lw_192 : Cond.methodLink RX10 171 yX3_clear ∈ jW := jwc_3 _ (List.mem_of_getElem? (i := 12) rfl)
theorem lw_193 : Cond.instanceMethod yX3_clear ∈ jW := jwc_3 _ (List.mem_of_getElem? (i := 13) rfl)
theorem lw_194 : Cond.selects RX3 yX3_clear yX3_clear ∈ jW := jwc_3 _ (List.mem_of_getElem? (i := 14) rfl)
theorem lw_195 : Cond.methodLink RX4 31 yX8_put ∈ jW := jwc_3 _ (List.mem_of_getElem? (i := 15) rfl)
theorem lw_196 : Cond.methodLink RX4 27 yX8_at ∈ jW := jwc_3 _ (List.mem_of_getElem? (i := 16) rfl)
theorem lw_197 : Cond.code yX4_isFurtherOut cX4_isFurtherOut 8 (some .boolean) ∈ jW := jwc_3 _ (List.mem_of_getElem? (i := 17) rfl)
theorem lw_198 : Cond.methodLink RX4 40 yX4_isFurtherOut ∈ jW := jwc_3 _ (List.mem_of_getElem? (i := 18) rfl)
theorem lw_199 : Cond.static yX4_isFurtherOut ∈ jW := jwc_3 _ (List.mem_of_getElem? (i := 19) rfl)
theorem lw_200 : Cond.methodLink RX4 34 Lib.Math.min.name ∈ jW := jwc_3 _ (List.mem_of_getElem? (i := 20) rfl)
theorem lw_201 : Cond.fieldLink RX9 108 "Gaitwright$Frame" "loadWeight" "I" ∈ jW := jwc_3 _ (List.mem_of_getElem? (i := 21) rfl)
theorem lw_202 : Cond.fieldLink RX9 111 "Gaitwright$Frame" "loadX" "I" ∈ jW := jwc_3 _ (List.mem_of_getElem? (i := 22) rfl)
theorem lw_203 : Cond.fieldLink RX9 114 "Gaitwright$Frame" "loadY" "I" ∈ jW := jwc_3 _ (List.mem_of_getElem? (i := 23) rfl)
theorem lw_204 : Cond.code yX4_edgeByWay cX4_edgeByWay 5 (some .int) ∈ jW := jwc_3 _ (List.mem_of_getElem? (i := 24) rfl)
theorem lw_205 : Cond.methodLink RX4 48 yX4_edgeByWay ∈ jW := jwc_3 _ (List.mem_of_getElem? (i := 25) rfl)
theorem lw_206 : Cond.static yX4_edgeByWay ∈ jW := jwc_3 _ (List.mem_of_getElem? (i := 26) rfl)
theorem lw_207 : Cond.methodLink RX4 52 Lib.Math.max.name ∈ jW := jwc_3 _ (List.mem_of_getElem? (i := 27) rfl)
theorem lw_208 : Cond.static Lib.Math.max.name ∈ jW := jwc_3 _ (List.mem_of_getElem? (i := 28) rfl)
theorem lw_209 : Cond.code Lib.Math.max.name Lib.Math.max.code 2 (some .int) ∈ jW := jwc_3 _ (List.mem_of_getElem? (i := 29) rfl)
theorem lw_210 : Cond.constant RX4 46 (2147483647) ∈ jW := jwc_3 _ (List.mem_of_getElem? (i := 30) rfl)
theorem lw_211 : Cond.constant RX4 47 (-2147483648) ∈ jW := jwc_3 _ (List.mem_of_getElem? (i := 31) rfl)
theorem lw_212 : Cond.code yX4_wrap cX4_wrap 8 none ∈ jW := jwc_3 _ (List.mem_of_getElem? (i := 32) rfl)
theorem lw_213 : Cond.methodLink RX9 117 yX4_wrap ∈ jW := jwc_3 _ (List.mem_of_getElem? (i := 33) rfl)
theorem lw_214 : Cond.instanceMethod yX4_wrap ∈ jW := jwc_3 _ (List.mem_of_getElem? (i := 34) rfl)
theorem lw_215 : Cond.selects RX4 yX4_wrap yX4_wrap ∈ jW := jwc_3 _ (List.mem_of_getElem? (i := 35) rfl)
theorem lw_216 : Cond.code yX9_momentX cX9_momentX 1 (some .int) ∈ jW := jwc_3 _ (List.mem_of_getElem? (i := 36) rfl)
theorem lw_217 : Cond.methodLink RX9 123 yX9_momentX ∈ jW := jwc_3 _ (List.mem_of_getElem? (i := 37) rfl)
theorem lw_218 : Cond.instanceMethod yX9_momentX ∈ jW := jwc_3 _ (List.mem_of_getElem? (i := 38) rfl)
theorem lw_219 : Cond.selects RX9 yX9_momentX yX9_momentX ∈ jW := jwc_3 _ (List.mem_of_getElem? (i := 39) rfl)
theorem lw_220 : Cond.code yX9_momentY cX9_momentY 1 (some .int) ∈ jW := jwc_3 _ (List.mem_of_getElem? (i := 40) rfl)
theorem lw_221 : Cond.methodLink RX9 126 yX9_momentY ∈ jW := jwc_3 _ (List.mem_of_getElem? (i := 41) rfl)
theorem lw_222 : Cond.instanceMethod yX9_momentY ∈ jW := jwc_3 _ (List.mem_of_getElem? (i := 42) rfl)
theorem lw_223 : Cond.selects RX9 yX9_momentY yX9_momentY ∈ jW := jwc_3 _ (List.mem_of_getElem? (i := 43) rfl)
theorem lw_224 : Cond.code yX2_weight cX2_weight 1 (some .int) ∈ jW := jwc_3 _ (List.mem_of_getElem? (i := 44) rfl)
theorem lw_225 : Cond.methodLink RX9 82 yX2_weight ∈ jW := jwc_3 _ (List.mem_of_getElem? (i := 45) rfl)
theorem lw_226 : Cond.instanceMethod yX2_weight ∈ jW := jwc_3 _ (List.mem_of_getElem? (i := 46) rfl)
theorem lw_227 : Cond.selects RX2 yX2_weight yX2_weight ∈ jW := jwc_3 _ (List.mem_of_getElem? (i := 47) rfl)
theorem lw_228 : Cond.code yX4_holds cX4_holds 10 (some .boolean) ∈ jW := jwc_3 _ (List.mem_of_getElem? (i := 48) rfl)
theorem lw_229 : Cond.methodLink RX9 129 yX4_holds ∈ jW := jwc_3 _ (List.mem_of_getElem? (i := 49) rfl)
theorem lw_230 : Cond.instanceMethod yX4_holds ∈ jW := jwc_3 _ (List.mem_of_getElem? (i := 50) rfl)
theorem lw_231 : Cond.selects RX4 yX4_holds yX4_holds ∈ jW := jwc_3 _ (List.mem_of_getElem? (i := 51) rfl)
theorem lw_232 : Cond.code yX0_beginAct cX0_beginAct 1 none ∈ jW := jwc_3 _ (List.mem_of_getElem? (i := 52) rfl)
theorem lw_233 : Cond.methodLink RX10 340 yX0_beginAct ∈ jW := jwc_3 _ (List.mem_of_getElem? (i := 53) rfl)
theorem lw_234 : Cond.instanceMethod yX0_beginAct ∈ jW := jwc_3 _ (List.mem_of_getElem? (i := 54) rfl)
theorem lw_235 : Cond.selects RX0 yX0_beginAct yX0_beginAct ∈ jW := jwc_3 _ (List.mem_of_getElem? (i := 55) rfl)
theorem lw_236 : Cond.fieldLink RX10 222 "Gaitwright$Frame" "loadWeight" "I" ∈ jW := jwc_3 _ (List.mem_of_getElem? (i := 56) rfl)
theorem lw_237 : Cond.fieldLink RX10 330 "Gaitwright$Frame" "loadX" "I" ∈ jW := jwc_3 _ (List.mem_of_getElem? (i := 57) rfl)
theorem lw_238 : Cond.fieldLink RX10 333 "Gaitwright$Frame" "loadY" "I" ∈ jW := jwc_3 _ (List.mem_of_getElem? (i := 58) rfl)
theorem lw_239 : Cond.code yX2_carry cX2_carry 4 none ∈ jW := jwc_3 _ (List.mem_of_getElem? (i := 59) rfl)
theorem lw_240 : Cond.methodLink RX10 336 yX2_carry ∈ jW := jwc_4 _ (List.mem_of_getElem? (i := 0) rfl)
theorem lw_241 : Cond.instanceMethod yX2_carry ∈ jW := jwc_4 _ (List.mem_of_getElem? (i := 1) rfl)
theorem lw_242 : Cond.selects RX2 yX2_carry yX2_carry ∈ jW := jwc_4 _ (List.mem_of_getElem? (i := 2) rfl)
theorem lw_243 : Cond.code yX9_holdsWithout cX9_holdsWithout 2 (some .boolean) ∈ jW := jwc_4 _ (List.mem_of_getElem? (i := 3) rfl)
theorem lw_244 : Cond.methodLink RX10 244 yX9_holdsWithout ∈ jW := jwc_4 _ (List.mem_of_getElem? (i := 4) rfl)
theorem lw_245 : Cond.instanceMethod yX9_holdsWithout ∈ jW := jwc_4 _ (List.mem_of_getElem? (i := 5) rfl)
theorem lw_246 : Cond.selects RX9 yX9_holdsWithout yX9_holdsWithout ∈ jW := jwc_4 _ (List.mem_of_getElem? (i := 6) rfl)
theorem lw_247 : Cond.code yX9_down cX9_down 3 (some .int) ∈ jW := jwc_4 _ (List.mem_of_getElem? (i := 7) rfl)
theorem lw_248 : Cond.methodLink RX9 86 yX9_down ∈ jW := jwc_4 _ (List.mem_of_getElem? (i := 8) rfl)
theorem lw_249 : Cond.instanceMethod yX9_down ∈ jW := jwc_4 _ (List.mem_of_getElem? (i := 9) rfl)
theorem lw_250 : Cond.selects RX9 yX9_down yX9_down ∈ jW := jwc_4 _ (List.mem_of_getElem? (i := 10) rfl)
theorem lw_251 : Cond.code yX10_roundedUp cX10_roundedUp 2 (some .int) ∈ jW := jwc_4 _ (List.mem_of_getElem? (i := 11) rfl)
theorem lw_252 : Cond.static yX10_roundedUp ∈ jW := jwc_4 _ (List.mem_of_getElem? (i := 12) rfl)
theorem lw_253 : Cond.fieldLink RX9 95 "Gaitwright$Land" "firmness" "LGaitwright$Row;" ∈ jW := jwc_4 _ (List.mem_of_getElem? (i := 13) rfl)
theorem lw_254 : Cond.code yX9_pressure cX9_pressure 1 (some .int) ∈ jW := jwc_4 _ (List.mem_of_getElem? (i := 14) rfl)
theorem lw_255 : Cond.methodLink RX9 92 yX9_pressure ∈ jW := jwc_4 _ (List.mem_of_getElem? (i := 15) rfl)
theorem lw_256 : Cond.instanceMethod yX9_pressure ∈ jW := jwc_4 _ (List.mem_of_getElem? (i := 16) rfl)
theorem lw_257 : Cond.selects RX9 yX9_pressure yX9_pressure ∈ jW := jwc_4 _ (List.mem_of_getElem? (i := 17) rfl)
theorem lw_258 : Cond.methodLink RX5 29 yX8_at ∈ jW := jwc_4 _ (List.mem_of_getElem? (i := 18) rfl)
theorem lw_259 : Cond.methodLink RX5 33 yX8_put ∈ jW := jwc_4 _ (List.mem_of_getElem? (i := 19) rfl)
theorem lw_260 : Cond.methodLink RX5 36 Lib.Math.max.name ∈ jW := jwc_4 _ (List.mem_of_getElem? (i := 20) rfl)
theorem lw_261 : Cond.code yX5_learn cX5_learn 2 none ∈ jW := jwc_4 _ (List.mem_of_getElem? (i := 21) rfl)
theorem lw_262 : Cond.methodLink RX5 42 yX5_learn ∈ jW := jwc_4 _ (List.mem_of_getElem? (i := 22) rfl)
theorem lw_263 : Cond.instanceMethod yX5_learn ∈ jW := jwc_4 _ (List.mem_of_getElem? (i := 23) rfl)
theorem lw_264 : Cond.selects RX5 yX5_learn yX5_learn ∈ jW := jwc_4 _ (List.mem_of_getElem? (i := 24) rfl)
theorem lw_265 : Cond.fieldLink RX10 235 "Gaitwright$Stance" "feet" "LGaitwright$Row;" ∈ jW := jwc_4 _ (List.mem_of_getElem? (i := 25) rfl)
theorem lw_266 : Cond.code yX5_sag cX5_sag 2 none ∈ jW := jwc_4 _ (List.mem_of_getElem? (i := 26) rfl)
theorem lw_267 : Cond.methodLink RX10 414 yX5_sag ∈ jW := jwc_4 _ (List.mem_of_getElem? (i := 27) rfl)
theorem lw_268 : Cond.instanceMethod yX5_sag ∈ jW := jwc_4 _ (List.mem_of_getElem? (i := 28) rfl)
theorem lw_269 : Cond.selects RX5 yX5_sag yX5_sag ∈ jW := jwc_4 _ (List.mem_of_getElem? (i := 29) rfl)
theorem lw_270 : Cond.code yX0_tell cX0_tell 3 none ∈ jW := jwc_4 _ (List.mem_of_getElem? (i := 30) rfl)
theorem lw_271 : Cond.methodLink RX10 393 yX0_tell ∈ jW := jwc_4 _ (List.mem_of_getElem? (i := 31) rfl)
theorem lw_272 : Cond.instanceMethod yX0_tell ∈ jW := jwc_4 _ (List.mem_of_getElem? (i := 32) rfl)
theorem lw_273 : Cond.selects RX0 yX0_tell yX0_tell ∈ jW := jwc_4 _ (List.mem_of_getElem? (i := 33) rfl)
theorem lw_274 : Cond.methodLink RX9 98 yX8_put ∈ jW := jwc_4 _ (List.mem_of_getElem? (i := 34) rfl)
theorem lw_275 : Cond.code yJ6_signum_0f7a4 cJ6_signum_0f7a4 1 (some .int) ∈ jW := jwc_4 _ (List.mem_of_getElem? (i := 35) rfl)
theorem lw_276 : Cond.methodLink RX9 133 yJ6_signum_0f7a4 ∈ jW := jwc_4 _ (List.mem_of_getElem? (i := 36) rfl)
theorem lw_277 : Cond.static yJ6_signum_0f7a4 ∈ jW := jwc_4 _ (List.mem_of_getElem? (i := 37) rfl)
theorem lw_278 : Cond.initialized RJ6 ∈ jW := jwc_4 _ (List.mem_of_getElem? (i := 38) rfl)
theorem lw_279 : Cond.code yX10_xOf cX10_xOf 1 (some .int) ∈ jW := jwc_4 _ (List.mem_of_getElem? (i := 39) rfl)
theorem lw_280 : Cond.static yX10_xOf ∈ jW := jwc_4 _ (List.mem_of_getElem? (i := 40) rfl)
theorem lw_281 : Cond.code yX10_yOf cX10_yOf 1 (some .int) ∈ jW := jwc_4 _ (List.mem_of_getElem? (i := 41) rfl)
theorem lw_282 : Cond.static yX10_yOf ∈ jW := jwc_4 _ (List.mem_of_getElem? (i := 42) rfl)
theorem lw_283 : Cond.methodLink RX1 36 yX8_put ∈ jW := jwc_4 _ (List.mem_of_getElem? (i := 43) rfl)
theorem lw_284 : Cond.code yX9_direction cX9_direction 6 (some .int) ∈ jW := jwc_4 _ (List.mem_of_getElem? (i := 44) rfl)
theorem lw_285 : Cond.methodLink RX10 417 yX9_direction ∈ jW := jwc_4 _ (List.mem_of_getElem? (i := 45) rfl)
theorem lw_286 : Cond.instanceMethod yX9_direction ∈ jW := jwc_4 _ (List.mem_of_getElem? (i := 46) rfl)
theorem lw_287 : Cond.selects RX9 yX9_direction yX9_direction ∈ jW := jwc_4 _ (List.mem_of_getElem? (i := 47) rfl)
theorem lw_288 : Cond.fieldLink RX10 419 "Gaitwright$Damage" "firstWhat" "I" ∈ jW := jwc_4 _ (List.mem_of_getElem? (i := 48) rfl)
theorem lw_289 : Cond.fieldLink RX10 422 "Gaitwright$Damage" "firstPoint" "I" ∈ jW := jwc_4 _ (List.mem_of_getElem? (i := 49) rfl)
theorem lw_290 : Cond.code yX1_keep cX1_keep 4 none ∈ jW := jwc_4 _ (List.mem_of_getElem? (i := 50) rfl)
theorem lw_291 : Cond.methodLink RX10 425 yX1_keep ∈ jW := jwc_4 _ (List.mem_of_getElem? (i := 51) rfl)
theorem lw_292 : Cond.instanceMethod yX1_keep ∈ jW := jwc_4 _ (List.mem_of_getElem? (i := 52) rfl)
theorem lw_293 : Cond.selects RX1 yX1_keep yX1_keep ∈ jW := jwc_4 _ (List.mem_of_getElem? (i := 53) rfl)
theorem lw_294 : Cond.code yX8_fill cX8_fill 2 none ∈ jW := jwc_4 _ (List.mem_of_getElem? (i := 54) rfl)
theorem lw_295 : Cond.methodLink RX10 428 yX8_fill ∈ jW := jwc_4 _ (List.mem_of_getElem? (i := 55) rfl)
theorem lw_296 : Cond.instanceMethod yX8_fill ∈ jW := jwc_4 _ (List.mem_of_getElem? (i := 56) rfl)
theorem lw_297 : Cond.selects RX8 yX8_fill yX8_fill ∈ jW := jwc_4 _ (List.mem_of_getElem? (i := 57) rfl)
theorem lw_298 : Cond.fieldLink RX10 411 "Gaitwright$Damage" "firstOfAct" "I" ∈ jW := jwc_4 _ (List.mem_of_getElem? (i := 58) rfl)
theorem lw_299 : Cond.code yX10_toppleOver cX10_toppleOver 1 none ∈ jW := jwc_4 _ (List.mem_of_getElem? (i := 59) rfl)
theorem lw_300 : Cond.methodLink RX10 408 yX10_toppleOver ∈ jW := jwc_5 _ (List.mem_of_getElem? (i := 0) rfl)
theorem lw_301 : Cond.instanceMethod yX10_toppleOver ∈ jW := jwc_5 _ (List.mem_of_getElem? (i := 1) rfl)
theorem lw_302 : Cond.selects RX10 yX10_toppleOver yX10_toppleOver ∈ jW := jwc_5 _ (List.mem_of_getElem? (i := 2) rfl)
theorem lw_303 : Cond.code yX10_breakGround cX10_breakGround 4 none ∈ jW := jwc_5 _ (List.mem_of_getElem? (i := 3) rfl)
theorem lw_304 : Cond.methodLink RX10 402 yX10_breakGround ∈ jW := jwc_5 _ (List.mem_of_getElem? (i := 4) rfl)
theorem lw_305 : Cond.instanceMethod yX10_breakGround ∈ jW := jwc_5 _ (List.mem_of_getElem? (i := 5) rfl)
theorem lw_306 : Cond.selects RX10 yX10_breakGround yX10_breakGround ∈ jW := jwc_5 _ (List.mem_of_getElem? (i := 6) rfl)
theorem lw_307 : Cond.code yX9_raise cX9_raise 3 none ∈ jW := jwc_5 _ (List.mem_of_getElem? (i := 7) rfl)
theorem lw_308 : Cond.methodLink RX10 405 yX9_raise ∈ jW := jwc_5 _ (List.mem_of_getElem? (i := 8) rfl)
theorem lw_309 : Cond.instanceMethod yX9_raise ∈ jW := jwc_5 _ (List.mem_of_getElem? (i := 9) rfl)
theorem lw_310 : Cond.selects RX9 yX9_raise yX9_raise ∈ jW := jwc_5 _ (List.mem_of_getElem? (i := 10) rfl)
theorem lw_311 : Cond.code yX9_sinking cX9_sinking 5 (some .int) ∈ jW := jwc_5 _ (List.mem_of_getElem? (i := 11) rfl)
theorem lw_312 : Cond.methodLink RX10 399 yX9_sinking ∈ jW := jwc_5 _ (List.mem_of_getElem? (i := 12) rfl)
theorem lw_313 : Cond.instanceMethod yX9_sinking ∈ jW := jwc_5 _ (List.mem_of_getElem? (i := 13) rfl)
theorem lw_314 : Cond.selects RX9 yX9_sinking yX9_sinking ∈ jW := jwc_5 _ (List.mem_of_getElem? (i := 14) rfl)
theorem lw_315 : Cond.code yX10_takeLoad cX10_takeLoad 7 (some .boolean) ∈ jW := jwc_5 _ (List.mem_of_getElem? (i := 15) rfl)
theorem lw_316 : Cond.methodLink RX10 176 yX10_takeLoad ∈ jW := jwc_5 _ (List.mem_of_getElem? (i := 16) rfl)
theorem lw_317 : Cond.instanceMethod yX10_takeLoad ∈ jW := jwc_5 _ (List.mem_of_getElem? (i := 17) rfl)
theorem lw_318 : Cond.selects RX10 yX10_takeLoad yX10_takeLoad ∈ jW := jwc_5 _ (List.mem_of_getElem? (i := 18) rfl)
theorem lw_319 : Cond.code yX10_settled cX10_settled 3 (some .int) ∈ jW := jwc_5 _ (List.mem_of_getElem? (i := 19) rfl)
theorem lw_320 : Cond.methodLink RX10 181 yX10_settled ∈ jW := jwc_5 _ (List.mem_of_getElem? (i := 20) rfl)
theorem lw_321 : Cond.instanceMethod yX10_settled ∈ jW := jwc_5 _ (List.mem_of_getElem? (i := 21) rfl)
theorem lw_322 : Cond.selects RX10 yX10_settled yX10_settled ∈ jW := jwc_5 _ (List.mem_of_getElem? (i := 22) rfl)
theorem lw_323 : Cond.methodLink RX8 19 yX8_at ∈ jW := jwc_5 _ (List.mem_of_getElem? (i := 23) rfl)
theorem lw_324 : Cond.code yX8_copy cX8_copy 3 none ∈ jW := jwc_5 _ (List.mem_of_getElem? (i := 24) rfl)
theorem lw_325 : Cond.methodLink RX9 39 yX8_copy ∈ jW := jwc_5 _ (List.mem_of_getElem? (i := 25) rfl)
theorem lw_326 : Cond.instanceMethod yX8_copy ∈ jW := jwc_5 _ (List.mem_of_getElem? (i := 26) rfl)
theorem lw_327 : Cond.selects RX8 yX8_copy yX8_copy ∈ jW := jwc_5 _ (List.mem_of_getElem? (i := 27) rfl)
theorem lw_328 : Cond.fieldLink RX9 43 "Gaitwright$Frame" "hipX" "LGaitwright$Row;" ∈ jW := jwc_5 _ (List.mem_of_getElem? (i := 28) rfl)
theorem lw_329 : Cond.fieldLink RX9 52 "Gaitwright$Frame" "hipY" "LGaitwright$Row;" ∈ jW := jwc_5 _ (List.mem_of_getElem? (i := 29) rfl)
theorem lw_330 : Cond.code yX9_hipX cX9_hipX 2 (some .int) ∈ jW := jwc_5 _ (List.mem_of_getElem? (i := 30) rfl)
theorem lw_331 : Cond.methodLink RX10 349 yX9_hipX ∈ jW := jwc_5 _ (List.mem_of_getElem? (i := 31) rfl)
theorem lw_332 : Cond.instanceMethod yX9_hipX ∈ jW := jwc_5 _ (List.mem_of_getElem? (i := 32) rfl)
theorem lw_333 : Cond.selects RX9 yX9_hipX yX9_hipX ∈ jW := jwc_5 _ (List.mem_of_getElem? (i := 33) rfl)
theorem lw_334 : Cond.code yX9_hipY cX9_hipY 2 (some .int) ∈ jW := jwc_5 _ (List.mem_of_getElem? (i := 34) rfl)
theorem lw_335 : Cond.methodLink RX10 352 yX9_hipY ∈ jW := jwc_5 _ (List.mem_of_getElem? (i := 35) rfl)
theorem lw_336 : Cond.instanceMethod yX9_hipY ∈ jW := jwc_5 _ (List.mem_of_getElem? (i := 36) rfl)
theorem lw_337 : Cond.selects RX9 yX9_hipY yX9_hipY ∈ jW := jwc_5 _ (List.mem_of_getElem? (i := 37) rfl)
theorem lw_338 : Cond.methodLink RX10 386 Lib.Math.max.name ∈ jW := jwc_5 _ (List.mem_of_getElem? (i := 38) rfl)
theorem lw_339 : Cond.code yX9_copy cX9_copy 2 none ∈ jW := jwc_5 _ (List.mem_of_getElem? (i := 39) rfl)
theorem lw_340 : Cond.methodLink RX10 294 yX9_copy ∈ jW := jwc_5 _ (List.mem_of_getElem? (i := 40) rfl)
theorem lw_341 : Cond.instanceMethod yX9_copy ∈ jW := jwc_5 _ (List.mem_of_getElem? (i := 41) rfl)
theorem lw_342 : Cond.selects RX9 yX9_copy yX9_copy ∈ jW := jwc_5 _ (List.mem_of_getElem? (i := 42) rfl)
theorem lw_343 : Cond.code yX5_neighbour cX5_neighbour 4 (some .int) ∈ jW := jwc_5 _ (List.mem_of_getElem? (i := 43) rfl)
theorem lw_344 : Cond.methodLink RX5 46 yX5_neighbour ∈ jW := jwc_5 _ (List.mem_of_getElem? (i := 44) rfl)
theorem lw_345 : Cond.static yX5_neighbour ∈ jW := jwc_5 _ (List.mem_of_getElem? (i := 45) rfl)
theorem lw_346 : Cond.methodLink RX9 58 yX9_hipX ∈ jW := jwc_5 _ (List.mem_of_getElem? (i := 46) rfl)
theorem lw_347 : Cond.methodLink RX9 63 yX9_hipY ∈ jW := jwc_5 _ (List.mem_of_getElem? (i := 47) rfl)
theorem lw_348 : Cond.fieldLink RX9 65 "Gaitwright$Frame" "reach" "LGaitwright$Row;" ∈ jW := jwc_5 _ (List.mem_of_getElem? (i := 48) rfl)
theorem lw_349 : Cond.methodLink RX10 389 yX5_learn ∈ jW := jwc_5 _ (List.mem_of_getElem? (i := 49) rfl)
theorem lw_350 : Cond.code yX5_slipFrom cX5_slipFrom 6 (some .int) ∈ jW := jwc_5 _ (List.mem_of_getElem? (i := 50) rfl)
theorem lw_351 : Cond.methodLink RX10 396 yX5_slipFrom ∈ jW := jwc_5 _ (List.mem_of_getElem? (i := 51) rfl)
theorem lw_352 : Cond.instanceMethod yX5_slipFrom ∈ jW := jwc_5 _ (List.mem_of_getElem? (i := 52) rfl)
theorem lw_353 : Cond.selects RX5 yX5_slipFrom yX5_slipFrom ∈ jW := jwc_5 _ (List.mem_of_getElem? (i := 53) rfl)
theorem lw_354 : Cond.code yX9_isInReach cX9_isInReach 6 (some .boolean) ∈ jW := jwc_5 _ (List.mem_of_getElem? (i := 54) rfl)
theorem lw_355 : Cond.methodLink RX10 364 yX9_isInReach ∈ jW := jwc_5 _ (List.mem_of_getElem? (i := 55) rfl)
theorem lw_356 : Cond.instanceMethod yX9_isInReach ∈ jW := jwc_5 _ (List.mem_of_getElem? (i := 56) rfl)
theorem lw_357 : Cond.selects RX9 yX9_isInReach yX9_isInReach ∈ jW := jwc_5 _ (List.mem_of_getElem? (i := 57) rfl)
theorem lw_358 : Cond.methodLink RX10 361 Lib.Math.abs.name ∈ jW := jwc_5 _ (List.mem_of_getElem? (i := 58) rfl)
theorem lw_359 : Cond.static Lib.Math.abs.name ∈ jW := jwc_5 _ (List.mem_of_getElem? (i := 59) rfl)
theorem lw_360 : Cond.code Lib.Math.abs.name Lib.Math.abs.code 1 (some .int) ∈ jW := jwc_6 _ (List.mem_of_getElem? (i := 0) rfl)
theorem lw_361 : Cond.code yX10_setFoot cX10_setFoot 5 none ∈ jW := jwc_6 _ (List.mem_of_getElem? (i := 1) rfl)
theorem lw_362 : Cond.methodLink RX10 355 yX10_setFoot ∈ jW := jwc_6 _ (List.mem_of_getElem? (i := 2) rfl)
theorem lw_363 : Cond.instanceMethod yX10_setFoot ∈ jW := jwc_6 _ (List.mem_of_getElem? (i := 3) rfl)
theorem lw_364 : Cond.selects RX10 yX10_setFoot yX10_setFoot ∈ jW := jwc_6 _ (List.mem_of_getElem? (i := 4) rfl)
theorem lw_365 : Cond.code yX10_hipsBear cX10_hipsBear 5 (some .boolean) ∈ jW := jwc_6 _ (List.mem_of_getElem? (i := 5) rfl)
theorem lw_366 : Cond.methodLink RX10 343 yX10_hipsBear ∈ jW := jwc_6 _ (List.mem_of_getElem? (i := 6) rfl)
theorem lw_367 : Cond.instanceMethod yX10_hipsBear ∈ jW := jwc_6 _ (List.mem_of_getElem? (i := 7) rfl)
theorem lw_368 : Cond.selects RX10 yX10_hipsBear yX10_hipsBear ∈ jW := jwc_6 _ (List.mem_of_getElem? (i := 8) rfl)
theorem lw_369 : Cond.code yX0_forget cX0_forget 1 none ∈ jW := jwc_6 _ (List.mem_of_getElem? (i := 9) rfl)
theorem lw_370 : Cond.methodLink RX10 346 yX0_forget ∈ jW := jwc_6 _ (List.mem_of_getElem? (i := 10) rfl)
theorem lw_371 : Cond.instanceMethod yX0_forget ∈ jW := jwc_6 _ (List.mem_of_getElem? (i := 11) rfl)
theorem lw_372 : Cond.selects RX0 yX0_forget yX0_forget ∈ jW := jwc_6 _ (List.mem_of_getElem? (i := 12) rfl)
theorem lw_373 : Cond.code yX10_getUp cX10_getUp 3 (some .boolean) ∈ jW := jwc_6 _ (List.mem_of_getElem? (i := 13) rfl)
theorem lw_374 : Cond.methodLink RX10 185 yX10_getUp ∈ jW := jwc_6 _ (List.mem_of_getElem? (i := 14) rfl)
theorem lw_375 : Cond.instanceMethod yX10_getUp ∈ jW := jwc_6 _ (List.mem_of_getElem? (i := 15) rfl)
theorem lw_376 : Cond.selects RX10 yX10_getUp yX10_getUp ∈ jW := jwc_6 _ (List.mem_of_getElem? (i := 16) rfl)
theorem lw_377 : Cond.methodLink RX10 189 yX9_down ∈ jW := jwc_6 _ (List.mem_of_getElem? (i := 17) rfl)
theorem lw_378 : Cond.code yX10_mayLift cX10_mayLift 2 (some .boolean) ∈ jW := jwc_6 _ (List.mem_of_getElem? (i := 18) rfl)
theorem lw_379 : Cond.methodLink RX10 291 yX10_mayLift ∈ jW := jwc_6 _ (List.mem_of_getElem? (i := 19) rfl)
theorem lw_380 : Cond.instanceMethod yX10_mayLift ∈ jW := jwc_6 _ (List.mem_of_getElem? (i := 20) rfl)
theorem lw_381 : Cond.selects RX10 yX10_mayLift yX10_mayLift ∈ jW := jwc_6 _ (List.mem_of_getElem? (i := 21) rfl)
theorem lw_382 : Cond.code yX10_liftFoot cX10_liftFoot 2 (some .boolean) ∈ jW := jwc_6 _ (List.mem_of_getElem? (i := 22) rfl)
theorem lw_383 : Cond.methodLink RX10 192 yX10_liftFoot ∈ jW := jwc_6 _ (List.mem_of_getElem? (i := 23) rfl)
theorem lw_384 : Cond.instanceMethod yX10_liftFoot ∈ jW := jwc_6 _ (List.mem_of_getElem? (i := 24) rfl)
theorem lw_385 : Cond.selects RX10 yX10_liftFoot yX10_liftFoot ∈ jW := jwc_6 _ (List.mem_of_getElem? (i := 25) rfl)
theorem lw_386 : Cond.methodLink RX9 68 Lib.Math.abs.name ∈ jW := jwc_6 _ (List.mem_of_getElem? (i := 26) rfl)
theorem lw_387 : Cond.fieldLink RX9 73 "Gaitwright$Land" "mapped" "LGaitwright$Row;" ∈ jW := jwc_6 _ (List.mem_of_getElem? (i := 27) rfl)
theorem lw_388 : Cond.methodLink RX9 78 Lib.Math.max.name ∈ jW := jwc_6 _ (List.mem_of_getElem? (i := 28) rfl)
theorem lw_389 : Cond.code yX9_far cX9_far 3 (some .int) ∈ jW := jwc_6 _ (List.mem_of_getElem? (i := 29) rfl)
theorem lw_390 : Cond.methodLink RX10 358 yX9_far ∈ jW := jwc_6 _ (List.mem_of_getElem? (i := 30) rfl)
theorem lw_391 : Cond.instanceMethod yX9_far ∈ jW := jwc_6 _ (List.mem_of_getElem? (i := 31) rfl)
theorem lw_392 : Cond.selects RX9 yX9_far yX9_far ∈ jW := jwc_6 _ (List.mem_of_getElem? (i := 32) rfl)
theorem lw_393 : Cond.code yX9_level cX9_level 5 (some .int) ∈ jW := jwc_6 _ (List.mem_of_getElem? (i := 33) rfl)
theorem lw_394 : Cond.methodLink RX10 225 yX9_level ∈ jW := jwc_6 _ (List.mem_of_getElem? (i := 34) rfl)
theorem lw_395 : Cond.instanceMethod yX9_level ∈ jW := jwc_6 _ (List.mem_of_getElem? (i := 35) rfl)
theorem lw_396 : Cond.selects RX9 yX9_level yX9_level ∈ jW := jwc_6 _ (List.mem_of_getElem? (i := 36) rfl)
theorem lw_397 : Cond.code yX10_placeFoot cX10_placeFoot 5 (some .boolean) ∈ jW := jwc_6 _ (List.mem_of_getElem? (i := 37) rfl)
theorem lw_398 : Cond.methodLink RX10 197 yX10_placeFoot ∈ jW := jwc_6 _ (List.mem_of_getElem? (i := 38) rfl)
theorem lw_399 : Cond.instanceMethod yX10_placeFoot ∈ jW := jwc_6 _ (List.mem_of_getElem? (i := 39) rfl)
theorem lw_400 : Cond.selects RX10 yX10_placeFoot yX10_placeFoot ∈ jW := jwc_6 _ (List.mem_of_getElem? (i := 40) rfl)
theorem lw_401 : Cond.methodLink RX9 145 yX9_holdsWithout ∈ jW := jwc_6 _ (List.mem_of_getElem? (i := 41) rfl)
theorem lw_402 : Cond.methodLink RX9 141 yX9_isInReach ∈ jW := jwc_6 _ (List.mem_of_getElem? (i := 42) rfl)
theorem lw_403 : Cond.methodLink RX10 253 yX2_weight ∈ jW := jwc_6 _ (List.mem_of_getElem? (i := 43) rfl)
theorem lw_404 : Cond.methodLink RX10 367 yX10_roundedUp ∈ jW := jwc_6 _ (List.mem_of_getElem? (i := 44) rfl)
theorem lw_405 : Cond.code yX9_moveBody cX9_moveBody 5 (some .boolean) ∈ jW := jwc_6 _ (List.mem_of_getElem? (i := 45) rfl)
theorem lw_406 : Cond.methodLink RX10 370 yX9_moveBody ∈ jW := jwc_6 _ (List.mem_of_getElem? (i := 46) rfl)
theorem lw_407 : Cond.instanceMethod yX9_moveBody ∈ jW := jwc_6 _ (List.mem_of_getElem? (i := 47) rfl)
theorem lw_408 : Cond.selects RX9 yX9_moveBody yX9_moveBody ∈ jW := jwc_6 _ (List.mem_of_getElem? (i := 48) rfl)
theorem lw_409 : Cond.code yX10_shiftBody cX10_shiftBody 4 (some .boolean) ∈ jW := jwc_6 _ (List.mem_of_getElem? (i := 49) rfl)
theorem lw_410 : Cond.methodLink RX10 200 yX10_shiftBody ∈ jW := jwc_6 _ (List.mem_of_getElem? (i := 50) rfl)
theorem lw_411 : Cond.instanceMethod yX10_shiftBody ∈ jW := jwc_6 _ (List.mem_of_getElem? (i := 51) rfl)
theorem lw_412 : Cond.selects RX10 yX10_shiftBody yX10_shiftBody ∈ jW := jwc_6 _ (List.mem_of_getElem? (i := 52) rfl)
theorem lw_413 : Cond.fieldLink RX10 373 "Gaitwright$Gait" "leg" "LGaitwright$Row;" ∈ jW := jwc_6 _ (List.mem_of_getElem? (i := 53) rfl)
theorem lw_414 : Cond.methodLink RX10 238 yX10_xOf ∈ jW := jwc_6 _ (List.mem_of_getElem? (i := 54) rfl)
theorem lw_415 : Cond.fieldLink RX10 376 "Gaitwright$Gait" "footX" "LGaitwright$Row;" ∈ jW := jwc_6 _ (List.mem_of_getElem? (i := 55) rfl)
theorem lw_416 : Cond.methodLink RX10 241 yX10_yOf ∈ jW := jwc_6 _ (List.mem_of_getElem? (i := 56) rfl)
theorem lw_417 : Cond.fieldLink RX10 379 "Gaitwright$Gait" "footY" "LGaitwright$Row;" ∈ jW := jwc_6 _ (List.mem_of_getElem? (i := 57) rfl)
theorem lw_418 : Cond.fieldLink RX10 382 "Gaitwright$Gait" "bodyX" "LGaitwright$Row;" ∈ jW := jwc_6 _ (List.mem_of_getElem? (i := 58) rfl)
theorem lw_419 : Cond.fieldLink RX10 384 "Gaitwright$Gait" "bodyY" "LGaitwright$Row;" ∈ jW := jwc_6 _ (List.mem_of_getElem? (i := 59) rfl)
theorem lw_420 : Cond.fieldLink RX10 207 "Gaitwright$Gait" "next" "I" ∈ jW := jwc_7 _ (List.mem_of_getElem? (i := 0) rfl)
theorem lw_421 : Cond.code yX10_isPhaseDone cX10_isPhaseDone 7 (some .boolean) ∈ jW := jwc_7 _ (List.mem_of_getElem? (i := 1) rfl)
theorem lw_422 : Cond.methodLink RX10 210 yX10_isPhaseDone ∈ jW := jwc_7 _ (List.mem_of_getElem? (i := 2) rfl)
theorem lw_423 : Cond.instanceMethod yX10_isPhaseDone ∈ jW := jwc_7 _ (List.mem_of_getElem? (i := 3) rfl)
theorem lw_424 : Cond.selects RX10 yX10_isPhaseDone yX10_isPhaseDone ∈ jW := jwc_7 _ (List.mem_of_getElem? (i := 4) rfl)
theorem lw_425 : Cond.code yX3_goOn cX3_goOn 1 none ∈ jW := jwc_7 _ (List.mem_of_getElem? (i := 5) rfl)
theorem lw_426 : Cond.methodLink RX10 213 yX3_goOn ∈ jW := jwc_7 _ (List.mem_of_getElem? (i := 6) rfl)
theorem lw_427 : Cond.instanceMethod yX3_goOn ∈ jW := jwc_7 _ (List.mem_of_getElem? (i := 7) rfl)
theorem lw_428 : Cond.selects RX3 yX3_goOn yX3_goOn ∈ jW := jwc_7 _ (List.mem_of_getElem? (i := 8) rfl)
theorem lw_429 : Cond.fieldLink RX10 216 "Gaitwright$Stance" "bodyX" "I" ∈ jW := jwc_7 _ (List.mem_of_getElem? (i := 9) rfl)
theorem lw_430 : Cond.fieldLink RX10 219 "Gaitwright$Stance" "bodyY" "I" ∈ jW := jwc_7 _ (List.mem_of_getElem? (i := 10) rfl)
theorem lw_431 : Cond.methodLink RX10 228 yX9_pressure ∈ jW := jwc_7 _ (List.mem_of_getElem? (i := 11) rfl)
theorem lw_432 : Cond.fieldLink RX10 231 "Gaitwright$Damage" "count" "I" ∈ jW := jwc_7 _ (List.mem_of_getElem? (i := 12) rfl)
theorem lw_433 : Cond.fieldLink RX10 232 "Gaitwright$Falls" "count" "I" ∈ jW := jwc_7 _ (List.mem_of_getElem? (i := 13) rfl)
theorem lw_434 : Cond.methodLink RX6 27 yX8_at ∈ jW := jwc_7 _ (List.mem_of_getElem? (i := 14) rfl)
theorem lw_435 : Cond.methodLink RX6 34 yX8_put ∈ jW := jwc_7 _ (List.mem_of_getElem? (i := 15) rfl)
theorem lw_436 : Cond.code yX6_turn cX6_turn 3 (some .int) ∈ jW := jwc_7 _ (List.mem_of_getElem? (i := 16) rfl)
theorem lw_437 : Cond.methodLink RX6 48 yX6_turn ∈ jW := jwc_7 _ (List.mem_of_getElem? (i := 17) rfl)
theorem lw_438 : Cond.instanceMethod yX6_turn ∈ jW := jwc_7 _ (List.mem_of_getElem? (i := 18) rfl)
theorem lw_439 : Cond.selects RX6 yX6_turn yX6_turn ∈ jW := jwc_7 _ (List.mem_of_getElem? (i := 19) rfl)
theorem lw_440 : Cond.code yX6_isInTriangle cX6_isInTriangle 7 (some .boolean) ∈ jW := jwc_7 _ (List.mem_of_getElem? (i := 20) rfl)
theorem lw_441 : Cond.methodLink RX6 44 yX6_isInTriangle ∈ jW := jwc_7 _ (List.mem_of_getElem? (i := 21) rfl)
theorem lw_442 : Cond.instanceMethod yX6_isInTriangle ∈ jW := jwc_7 _ (List.mem_of_getElem? (i := 22) rfl)
theorem lw_443 : Cond.selects RX6 yX6_isInTriangle yX6_isInTriangle ∈ jW := jwc_7 _ (List.mem_of_getElem? (i := 23) rfl)
theorem lw_444 : Cond.code yX6_isOnLine cX6_isOnLine 3 (some .boolean) ∈ jW := jwc_7 _ (List.mem_of_getElem? (i := 24) rfl)
theorem lw_445 : Cond.methodLink RX6 40 yX6_isOnLine ∈ jW := jwc_7 _ (List.mem_of_getElem? (i := 25) rfl)
theorem lw_446 : Cond.instanceMethod yX6_isOnLine ∈ jW := jwc_7 _ (List.mem_of_getElem? (i := 26) rfl)
theorem lw_447 : Cond.selects RX6 yX6_isOnLine yX6_isOnLine ∈ jW := jwc_7 _ (List.mem_of_getElem? (i := 27) rfl)
theorem lw_448 : Cond.methodLink RX10 247 yX9_momentX ∈ jW := jwc_7 _ (List.mem_of_getElem? (i := 28) rfl)
theorem lw_449 : Cond.methodLink RX10 250 yX9_momentY ∈ jW := jwc_7 _ (List.mem_of_getElem? (i := 29) rfl)
theorem lw_450 : Cond.code yX6_gather cX6_gather 7 none ∈ jW := jwc_7 _ (List.mem_of_getElem? (i := 30) rfl)
theorem lw_451 : Cond.methodLink RX10 256 yX6_gather ∈ jW := jwc_7 _ (List.mem_of_getElem? (i := 31) rfl)
theorem lw_452 : Cond.instanceMethod yX6_gather ∈ jW := jwc_7 _ (List.mem_of_getElem? (i := 32) rfl)
theorem lw_453 : Cond.selects RX6 yX6_gather yX6_gather ∈ jW := jwc_7 _ (List.mem_of_getElem? (i := 33) rfl)
theorem lw_454 : Cond.code yX6_holdMoment cX6_holdMoment 4 (some .boolean) ∈ jW := jwc_7 _ (List.mem_of_getElem? (i := 34) rfl)
theorem lw_455 : Cond.methodLink RX10 260 yX6_holdMoment ∈ jW := jwc_7 _ (List.mem_of_getElem? (i := 35) rfl)
theorem lw_456 : Cond.instanceMethod yX6_holdMoment ∈ jW := jwc_7 _ (List.mem_of_getElem? (i := 36) rfl)
theorem lw_457 : Cond.selects RX6 yX6_holdMoment yX6_holdMoment ∈ jW := jwc_7 _ (List.mem_of_getElem? (i := 37) rfl)
theorem lw_458 : Cond.code yX4_squareOfEdge cX4_squareOfEdge 4 (some .int) ∈ jW := jwc_7 _ (List.mem_of_getElem? (i := 38) rfl)
theorem lw_459 : Cond.methodLink RX4 58 yX4_squareOfEdge ∈ jW := jwc_7 _ (List.mem_of_getElem? (i := 39) rfl)
theorem lw_460 : Cond.static yX4_squareOfEdge ∈ jW := jwc_7 _ (List.mem_of_getElem? (i := 40) rfl)
theorem lw_461 : Cond.constantFloat RX10 431 (1258291200) ∈ jW := jwc_7 _ (List.mem_of_getElem? (i := 41) rfl)
theorem lw_462 : Cond.fieldLink RX10 264 "Gaitwright$Stance" "hull" "LGaitwright$Hull;" ∈ jW := jwc_7 _ (List.mem_of_getElem? (i := 42) rfl)
theorem lw_463 : Cond.fieldLink RX10 268 "Gaitwright$Hull" "size" "I" ∈ jW := jwc_7 _ (List.mem_of_getElem? (i := 43) rfl)
theorem lw_464 : Cond.code yX4_leastSquare cX4_leastSquare 13 (some .float) ∈ jW := jwc_7 _ (List.mem_of_getElem? (i := 44) rfl)
theorem lw_465 : Cond.methodLink RX10 271 yX4_leastSquare ∈ jW := jwc_7 _ (List.mem_of_getElem? (i := 45) rfl)
theorem lw_466 : Cond.instanceMethod yX4_leastSquare ∈ jW := jwc_7 _ (List.mem_of_getElem? (i := 46) rfl)
theorem lw_467 : Cond.selects RX4 yX4_leastSquare yX4_leastSquare ∈ jW := jwc_7 _ (List.mem_of_getElem? (i := 47) rfl)
theorem lw_468 : Cond.code yX10_bitsOf cX10_bitsOf 4 (some .int) ∈ jW := jwc_7 _ (List.mem_of_getElem? (i := 48) rfl)
theorem lw_469 : Cond.methodLink RX10 275 yX10_bitsOf ∈ jW := jwc_7 _ (List.mem_of_getElem? (i := 49) rfl)
theorem lw_470 : Cond.static yX10_bitsOf ∈ jW := jwc_7 _ (List.mem_of_getElem? (i := 50) rfl)
theorem lw_471 : Cond.constant RX10 263 (-1082130432) ∈ jW := jwc_7 _ (List.mem_of_getElem? (i := 51) rfl)
theorem lw_472 : Cond.methodLink RX10 281 yX4_wrap ∈ jW := jwc_7 _ (List.mem_of_getElem? (i := 52) rfl)
theorem lw_473 : Cond.fieldLink RX10 285 "Gaitwright$Hull" "corners" "LGaitwright$Row;" ∈ jW := jwc_7 _ (List.mem_of_getElem? (i := 53) rfl)
theorem lw_474 : Cond.methodLink RX9 156 yX9_isTaken ∈ jW := jwc_7 _ (List.mem_of_getElem? (i := 54) rfl)
theorem lw_475 : Cond.methodLink RX9 152 yX9_level ∈ jW := jwc_7 _ (List.mem_of_getElem? (i := 55) rfl)
theorem lw_476 : Cond.constant RX9 155 (2147483647) ∈ jW := jwc_7 _ (List.mem_of_getElem? (i := 56) rfl)
theorem lw_477 : Cond.code yX9_bestPoint cX9_bestPoint 14 (some .int) ∈ jW := jwc_7 _ (List.mem_of_getElem? (i := 57) rfl)
theorem lw_478 : Cond.methodLink RX10 288 yX9_bestPoint ∈ jW := jwc_7 _ (List.mem_of_getElem? (i := 58) rfl)
theorem lw_479 : Cond.instanceMethod yX9_bestPoint ∈ jW := jwc_7 _ (List.mem_of_getElem? (i := 59) rfl)
theorem lw_480 : Cond.selects RX9 yX9_bestPoint yX9_bestPoint ∈ jW := jwc_8 _ (List.mem_of_getElem? (i := 0) rfl)
theorem lw_481 : Cond.methodLink RX9 104 yX9_raise ∈ jW := jwc_8 _ (List.mem_of_getElem? (i := 1) rfl)
theorem lw_482 : Cond.methodLink RX9 101 yX9_sinking ∈ jW := jwc_8 _ (List.mem_of_getElem? (i := 2) rfl)
theorem lw_483 : Cond.code yX9_sinkAway cX9_sinkAway 4 (some .boolean) ∈ jW := jwc_8 _ (List.mem_of_getElem? (i := 3) rfl)
theorem lw_484 : Cond.methodLink RX10 298 yX9_sinkAway ∈ jW := jwc_8 _ (List.mem_of_getElem? (i := 4) rfl)
theorem lw_485 : Cond.instanceMethod yX9_sinkAway ∈ jW := jwc_8 _ (List.mem_of_getElem? (i := 5) rfl)
theorem lw_486 : Cond.selects RX9 yX9_sinkAway yX9_sinkAway ∈ jW := jwc_8 _ (List.mem_of_getElem? (i := 6) rfl)
theorem lw_487 : Cond.methodLink RX7 28 yX9_copy ∈ jW := jwc_8 _ (List.mem_of_getElem? (i := 7) rfl)
theorem lw_488 : Cond.fieldLink RX7 32 "Gaitwright$Stance" "bodyX" "I" ∈ jW := jwc_8 _ (List.mem_of_getElem? (i := 8) rfl)
theorem lw_489 : Cond.methodLink RX7 39 Lib.Math.abs.name ∈ jW := jwc_8 _ (List.mem_of_getElem? (i := 9) rfl)
theorem lw_490 : Cond.fieldLink RX7 44 "Gaitwright$Stance" "bodyY" "I" ∈ jW := jwc_8 _ (List.mem_of_getElem? (i := 10) rfl)
theorem lw_491 : Cond.methodLink RX9 149 yX9_bestPoint ∈ jW := jwc_8 _ (List.mem_of_getElem? (i := 11) rfl)
theorem lw_492 : Cond.methodLink RX7 50 yX9_moveBody ∈ jW := jwc_8 _ (List.mem_of_getElem? (i := 12) rfl)
theorem lw_493 : Cond.fieldLink RX7 54 "Gaitwright$Frame" "legs" "I" ∈ jW := jwc_8 _ (List.mem_of_getElem? (i := 13) rfl)
theorem lw_494 : Cond.code yX9_step cX9_step 3 (some .boolean) ∈ jW := jwc_8 _ (List.mem_of_getElem? (i := 14) rfl)
theorem lw_495 : Cond.methodLink RX7 59 yX9_step ∈ jW := jwc_8 _ (List.mem_of_getElem? (i := 15) rfl)
theorem lw_496 : Cond.instanceMethod yX9_step ∈ jW := jwc_8 _ (List.mem_of_getElem? (i := 16) rfl)
theorem lw_497 : Cond.selects RX9 yX9_step yX9_step ∈ jW := jwc_8 _ (List.mem_of_getElem? (i := 17) rfl)
theorem lw_498 : Cond.code yX7_isMade cX7_isMade 4 (some .boolean) ∈ jW := jwc_8 _ (List.mem_of_getElem? (i := 18) rfl)
theorem lw_499 : Cond.methodLink RX10 432 yX7_isMade ∈ jW := jwc_8 _ (List.mem_of_getElem? (i := 19) rfl)
theorem lw_500 : Cond.instanceMethod yX7_isMade ∈ jW := jwc_8 _ (List.mem_of_getElem? (i := 20) rfl)
theorem lw_501 : Cond.selects RX7 yX7_isMade yX7_isMade ∈ jW := jwc_8 _ (List.mem_of_getElem? (i := 21) rfl)
theorem lw_502 : Cond.code yX10_isReachedBy cX10_isReachedBy 5 (some .boolean) ∈ jW := jwc_8 _ (List.mem_of_getElem? (i := 22) rfl)
theorem lw_503 : Cond.methodLink RX10 308 yX10_isReachedBy ∈ jW := jwc_8 _ (List.mem_of_getElem? (i := 23) rfl)
theorem lw_504 : Cond.static yX10_isReachedBy ∈ jW := jwc_8 _ (List.mem_of_getElem? (i := 24) rfl)
theorem lw_505 : Cond.code yX7_away cX7_away 2 (some .int) ∈ jW := jwc_8 _ (List.mem_of_getElem? (i := 25) rfl)
theorem lw_506 : Cond.methodLink RX10 305 yX7_away ∈ jW := jwc_8 _ (List.mem_of_getElem? (i := 26) rfl)
theorem lw_507 : Cond.instanceMethod yX7_away ∈ jW := jwc_8 _ (List.mem_of_getElem? (i := 27) rfl)
theorem lw_508 : Cond.selects RX7 yX7_away yX7_away ∈ jW := jwc_8 _ (List.mem_of_getElem? (i := 28) rfl)
theorem lw_509 : Cond.code yX7_start cX7_start 3 none ∈ jW := jwc_8 _ (List.mem_of_getElem? (i := 29) rfl)
theorem lw_510 : Cond.methodLink RX10 301 yX7_start ∈ jW := jwc_8 _ (List.mem_of_getElem? (i := 30) rfl)
theorem lw_511 : Cond.instanceMethod yX7_start ∈ jW := jwc_8 _ (List.mem_of_getElem? (i := 31) rfl)
theorem lw_512 : Cond.selects RX7 yX7_start yX7_start ∈ jW := jwc_8 _ (List.mem_of_getElem? (i := 32) rfl)
theorem lw_513 : Cond.code yX10_shortestRow cX10_shortestRow 4 (some .int) ∈ jW := jwc_8 _ (List.mem_of_getElem? (i := 33) rfl)
theorem lw_514 : Cond.methodLink RX10 312 yX10_shortestRow ∈ jW := jwc_8 _ (List.mem_of_getElem? (i := 34) rfl)
theorem lw_515 : Cond.static yX10_shortestRow ∈ jW := jwc_8 _ (List.mem_of_getElem? (i := 35) rfl)
theorem lw_516 : Cond.methodLink RX1 30 Lib.Math.min.name ∈ jW := jwc_8 _ (List.mem_of_getElem? (i := 36) rfl)
theorem lw_517 : Cond.code yX1_kept cX1_kept 1 (some .int) ∈ jW := jwc_8 _ (List.mem_of_getElem? (i := 37) rfl)
theorem lw_518 : Cond.methodLink RX10 316 yX1_kept ∈ jW := jwc_8 _ (List.mem_of_getElem? (i := 38) rfl)
theorem lw_519 : Cond.instanceMethod yX1_kept ∈ jW := jwc_8 _ (List.mem_of_getElem? (i := 39) rfl)
theorem lw_520 : Cond.selects RX1 yX1_kept yX1_kept ∈ jW := jwc_8 _ (List.mem_of_getElem? (i := 40) rfl)
theorem lw_521 : Cond.fieldLink RX10 321 "Gaitwright$Falls" "direction" "LGaitwright$Row;" ∈ jW := jwc_8 _ (List.mem_of_getElem? (i := 41) rfl)
theorem lw_522 : Cond.fieldLink RX10 324 "Gaitwright$Falls" "what" "LGaitwright$Row;" ∈ jW := jwc_8 _ (List.mem_of_getElem? (i := 42) rfl)
theorem lw_523 : Cond.fieldLink RX10 327 "Gaitwright$Falls" "point" "LGaitwright$Row;" ∈ jW := jwc_8 _ (List.mem_of_getElem? (i := 43) rfl)
theorem lw_524 : Cond.constant RL 7 (2147483647) ∈ jW := jwc_8 _ (List.mem_of_getElem? (i := 44) rfl)
theorem lw_525 : Cond.classLink RL 60 "java/lang/IndexOutOfBoundsException" ∈ jW := jwc_8 _ (List.mem_of_getElem? (i := 45) rfl)
theorem lw_526 : Cond.constant RL 62 (-3000000) ∈ jW := jwc_8 _ (List.mem_of_getElem? (i := 46) rfl)
theorem lw_527 : Cond.classLink RL 63 "java/lang/IllegalArgumentException" ∈ jW := jwc_8 _ (List.mem_of_getElem? (i := 47) rfl)
theorem lw_528 : Cond.constant RL 65 (-2000000) ∈ jW := jwc_8 _ (List.mem_of_getElem? (i := 48) rfl)
theorem lw_529 : Cond.classLink RL 66 "java/lang/IllegalStateException" ∈ jW := jwc_8 _ (List.mem_of_getElem? (i := 49) rfl)
theorem lw_530 : Cond.constant RL 68 (-1000000) ∈ jW := jwc_8 _ (List.mem_of_getElem? (i := 50) rfl)
theorem lw_531 : Cond.code yX10_foot cX10_foot 4 (some .int) ∈ jW := jwc_8 _ (List.mem_of_getElem? (i := 51) rfl)
theorem lw_532 : Cond.methodLink RL 57 yX10_foot ∈ jW := jwc_8 _ (List.mem_of_getElem? (i := 52) rfl)
theorem lw_533 : Cond.instanceMethod yX10_foot ∈ jW := jwc_8 _ (List.mem_of_getElem? (i := 53) rfl)
theorem lw_534 : Cond.selects RX10 yX10_foot yX10_foot ∈ jW := jwc_8 _ (List.mem_of_getElem? (i := 54) rfl)
theorem lw_535 : Cond.code yX10_point cX10_point 5 (some .int) ∈ jW := jwc_8 _ (List.mem_of_getElem? (i := 55) rfl)
theorem lw_536 : Cond.methodLink RL 54 yX10_point ∈ jW := jwc_8 _ (List.mem_of_getElem? (i := 56) rfl)
theorem lw_537 : Cond.instanceMethod yX10_point ∈ jW := jwc_8 _ (List.mem_of_getElem? (i := 57) rfl)
theorem lw_538 : Cond.selects RX10 yX10_point yX10_point ∈ jW := jwc_8 _ (List.mem_of_getElem? (i := 58) rfl)
theorem lw_539 : Cond.code yX10_fall cX10_fall 3 (some .int) ∈ jW := jwc_8 _ (List.mem_of_getElem? (i := 59) rfl)
theorem lw_540 : Cond.methodLink RL 51 yX10_fall ∈ jW := jwc_9 _ (List.mem_of_getElem? (i := 0) rfl)
theorem lw_541 : Cond.instanceMethod yX10_fall ∈ jW := jwc_9 _ (List.mem_of_getElem? (i := 1) rfl)
theorem lw_542 : Cond.selects RX10 yX10_fall yX10_fall ∈ jW := jwc_9 _ (List.mem_of_getElem? (i := 2) rfl)
theorem lw_543 : Cond.code yX10_corner cX10_corner 2 (some .int) ∈ jW := jwc_9 _ (List.mem_of_getElem? (i := 3) rfl)
theorem lw_544 : Cond.methodLink RL 48 yX10_corner ∈ jW := jwc_9 _ (List.mem_of_getElem? (i := 4) rfl)
theorem lw_545 : Cond.instanceMethod yX10_corner ∈ jW := jwc_9 _ (List.mem_of_getElem? (i := 5) rfl)
theorem lw_546 : Cond.selects RX10 yX10_corner yX10_corner ∈ jW := jwc_9 _ (List.mem_of_getElem? (i := 6) rfl)
theorem lw_547 : Cond.code yX10_walk cX10_walk 3 (some .int) ∈ jW := jwc_9 _ (List.mem_of_getElem? (i := 7) rfl)
theorem lw_548 : Cond.methodLink RL 45 yX10_walk ∈ jW := jwc_9 _ (List.mem_of_getElem? (i := 8) rfl)
theorem lw_549 : Cond.instanceMethod yX10_walk ∈ jW := jwc_9 _ (List.mem_of_getElem? (i := 9) rfl)
theorem lw_550 : Cond.selects RX10 yX10_walk yX10_walk ∈ jW := jwc_9 _ (List.mem_of_getElem? (i := 10) rfl)
theorem lw_551 : Cond.code yX10_shift cX10_shift 3 (some .int) ∈ jW := jwc_9 _ (List.mem_of_getElem? (i := 11) rfl)
theorem lw_552 : Cond.methodLink RL 41 yX10_shift ∈ jW := jwc_9 _ (List.mem_of_getElem? (i := 12) rfl)
theorem lw_553 : Cond.instanceMethod yX10_shift ∈ jW := jwc_9 _ (List.mem_of_getElem? (i := 13) rfl)
theorem lw_554 : Cond.selects RX10 yX10_shift yX10_shift ∈ jW := jwc_9 _ (List.mem_of_getElem? (i := 14) rfl)
theorem lw_555 : Cond.code yX10_place cX10_place 5 (some .int) ∈ jW := jwc_9 _ (List.mem_of_getElem? (i := 15) rfl)
theorem lw_556 : Cond.methodLink RL 38 yX10_place ∈ jW := jwc_9 _ (List.mem_of_getElem? (i := 16) rfl)
theorem lw_557 : Cond.instanceMethod yX10_place ∈ jW := jwc_9 _ (List.mem_of_getElem? (i := 17) rfl)
theorem lw_558 : Cond.selects RX10 yX10_place yX10_place ∈ jW := jwc_9 _ (List.mem_of_getElem? (i := 18) rfl)
theorem lw_559 : Cond.code yX10_lift cX10_lift 2 (some .int) ∈ jW := jwc_9 _ (List.mem_of_getElem? (i := 19) rfl)
theorem lw_560 : Cond.methodLink RL 35 yX10_lift ∈ jW := jwc_9 _ (List.mem_of_getElem? (i := 20) rfl)
theorem lw_561 : Cond.instanceMethod yX10_lift ∈ jW := jwc_9 _ (List.mem_of_getElem? (i := 21) rfl)
theorem lw_562 : Cond.selects RX10 yX10_lift yX10_lift ∈ jW := jwc_9 _ (List.mem_of_getElem? (i := 22) rfl)
theorem lw_563 : Cond.code yX10_rise cX10_rise 1 (some .int) ∈ jW := jwc_9 _ (List.mem_of_getElem? (i := 23) rfl)
theorem lw_564 : Cond.methodLink RL 31 yX10_rise ∈ jW := jwc_9 _ (List.mem_of_getElem? (i := 24) rfl)
theorem lw_565 : Cond.instanceMethod yX10_rise ∈ jW := jwc_9 _ (List.mem_of_getElem? (i := 25) rfl)
theorem lw_566 : Cond.selects RX10 yX10_rise yX10_rise ∈ jW := jwc_9 _ (List.mem_of_getElem? (i := 26) rfl)
theorem lw_567 : Cond.code yX10_load cX10_load 4 (some .int) ∈ jW := jwc_9 _ (List.mem_of_getElem? (i := 27) rfl)
theorem lw_568 : Cond.methodLink RL 28 yX10_load ∈ jW := jwc_9 _ (List.mem_of_getElem? (i := 28) rfl)
theorem lw_569 : Cond.instanceMethod yX10_load ∈ jW := jwc_9 _ (List.mem_of_getElem? (i := 29) rfl)
theorem lw_570 : Cond.selects RX10 yX10_load yX10_load ∈ jW := jwc_9 _ (List.mem_of_getElem? (i := 30) rfl)
theorem lw_571 : Cond.code yX10_phase cX10_phase 6 (some .int) ∈ jW := jwc_9 _ (List.mem_of_getElem? (i := 31) rfl)
theorem lw_572 : Cond.methodLink RL 25 yX10_phase ∈ jW := jwc_9 _ (List.mem_of_getElem? (i := 32) rfl)
theorem lw_573 : Cond.instanceMethod yX10_phase ∈ jW := jwc_9 _ (List.mem_of_getElem? (i := 33) rfl)
theorem lw_574 : Cond.selects RX10 yX10_phase yX10_phase ∈ jW := jwc_9 _ (List.mem_of_getElem? (i := 34) rfl)
theorem lw_575 : Cond.code yX10_charge cX10_charge 2 (some .int) ∈ jW := jwc_9 _ (List.mem_of_getElem? (i := 35) rfl)
theorem lw_576 : Cond.methodLink RL 21 yX10_charge ∈ jW := jwc_9 _ (List.mem_of_getElem? (i := 36) rfl)
theorem lw_577 : Cond.instanceMethod yX10_charge ∈ jW := jwc_9 _ (List.mem_of_getElem? (i := 37) rfl)
theorem lw_578 : Cond.selects RX10 yX10_charge yX10_charge ∈ jW := jwc_9 _ (List.mem_of_getElem? (i := 38) rfl)
theorem lw_579 : Cond.code yX10_leg cX10_leg 4 (some .int) ∈ jW := jwc_9 _ (List.mem_of_getElem? (i := 39) rfl)
theorem lw_580 : Cond.methodLink RL 18 yX10_leg ∈ jW := jwc_9 _ (List.mem_of_getElem? (i := 40) rfl)
theorem lw_581 : Cond.instanceMethod yX10_leg ∈ jW := jwc_9 _ (List.mem_of_getElem? (i := 41) rfl)
theorem lw_582 : Cond.selects RX10 yX10_leg yX10_leg ∈ jW := jwc_9 _ (List.mem_of_getElem? (i := 42) rfl)
theorem lw_583 : Cond.code yX10_chart cX10_chart 6 (some .int) ∈ jW := jwc_9 _ (List.mem_of_getElem? (i := 43) rfl)
theorem lw_584 : Cond.methodLink RL 14 yX10_chart ∈ jW := jwc_9 _ (List.mem_of_getElem? (i := 44) rfl)
theorem lw_585 : Cond.instanceMethod yX10_chart ∈ jW := jwc_9 _ (List.mem_of_getElem? (i := 45) rfl)
theorem lw_586 : Cond.selects RX10 yX10_chart yX10_chart ∈ jW := jwc_9 _ (List.mem_of_getElem? (i := 46) rfl)
theorem lw_587 : Cond.code yX10_ground cX10_ground 8 (some .int) ∈ jW := jwc_9 _ (List.mem_of_getElem? (i := 47) rfl)
theorem lw_588 : Cond.methodLink RL 8 yX10_ground ∈ jW := jwc_9 _ (List.mem_of_getElem? (i := 48) rfl)
theorem lw_589 : Cond.instanceMethod yX10_ground ∈ jW := jwc_9 _ (List.mem_of_getElem? (i := 49) rfl)
theorem lw_590 : Cond.selects RX10 yX10_ground yX10_ground ∈ jW := jwc_9 _ (List.mem_of_getElem? (i := 50) rfl)
theorem lw_591 : Cond.constantLong RL 69 (15) ∈ jW := jwc_9 _ (List.mem_of_getElem? (i := 51) rfl)
theorem lw_592 : Cond.constantLong RL 71 (-1) ∈ jW := jwc_9 _ (List.mem_of_getElem? (i := 52) rfl)
theorem lw_593 : Cond.constantLong RL 73 (255) ∈ jW := jwc_9 _ (List.mem_of_getElem? (i := 53) rfl)
theorem lw_594 : Cond.code yL_hipX cL_hipX 3 (some .int) ∈ jW := jwc_9 _ (List.mem_of_getElem? (i := 54) rfl)
theorem lw_595 : Cond.methodLink RL 75 yL_hipX ∈ jW := jwc_9 _ (List.mem_of_getElem? (i := 55) rfl)
theorem lw_596 : Cond.static yL_hipX ∈ jW := jwc_9 _ (List.mem_of_getElem? (i := 56) rfl)
theorem lw_597 : Cond.initialized RL ∈ jW := jwc_9 _ (List.mem_of_getElem? (i := 57) rfl)
theorem lw_598 : Cond.code yL_hipY cL_hipY 3 (some .int) ∈ jW := jwc_9 _ (List.mem_of_getElem? (i := 58) rfl)
theorem lw_599 : Cond.methodLink RL 81 yL_hipY ∈ jW := jwc_9 _ (List.mem_of_getElem? (i := 59) rfl)
theorem lw_600 : Cond.static yL_hipY ∈ jW := jwc_10 _ (List.mem_of_getElem? (i := 0) rfl)
theorem lw_601 : Cond.code yL_many cL_many 3 (some .int) ∈ jW := jwc_10 _ (List.mem_of_getElem? (i := 1) rfl)
theorem lw_602 : Cond.methodLink RL 84 yL_many ∈ jW := jwc_10 _ (List.mem_of_getElem? (i := 2) rfl)
theorem lw_603 : Cond.static yL_many ∈ jW := jwc_10 _ (List.mem_of_getElem? (i := 3) rfl)
theorem lw_604 : Cond.code yL_four cL_four 2 (some .int) ∈ jW := jwc_10 _ (List.mem_of_getElem? (i := 4) rfl)
theorem lw_605 : Cond.methodLink RL 87 yL_four ∈ jW := jwc_10 _ (List.mem_of_getElem? (i := 5) rfl)
theorem lw_606 : Cond.static yL_four ∈ jW := jwc_10 _ (List.mem_of_getElem? (i := 6) rfl)
theorem lw_607 : Cond.code yL_firm cL_firm 2 (some .int) ∈ jW := jwc_10 _ (List.mem_of_getElem? (i := 7) rfl)
theorem lw_608 : Cond.methodLink RL 91 yL_firm ∈ jW := jwc_10 _ (List.mem_of_getElem? (i := 8) rfl)
theorem lw_609 : Cond.static yL_firm ∈ jW := jwc_10 _ (List.mem_of_getElem? (i := 9) rfl)
theorem lw_610 : Cond.code yL_pressure cL_pressure 3 (some .int) ∈ jW := jwc_10 _ (List.mem_of_getElem? (i := 10) rfl)
theorem lw_611 : Cond.methodLink RL 94 yL_pressure ∈ jW := jwc_10 _ (List.mem_of_getElem? (i := 11) rfl)
theorem lw_612 : Cond.static yL_pressure ∈ jW := jwc_10 _ (List.mem_of_getElem? (i := 12) rfl)
theorem lw_613 : Cond.code yL_sets cL_sets 3 none ∈ jW := jwc_10 _ (List.mem_of_getElem? (i := 13) rfl)
theorem lw_614 : Cond.methodLink RL 102 yL_sets ∈ jW := jwc_10 _ (List.mem_of_getElem? (i := 14) rfl)
theorem lw_615 : Cond.static yL_sets ∈ jW := jwc_10 _ (List.mem_of_getElem? (i := 15) rfl)
theorem lw_616 : Cond.code yL_breaks cL_breaks 3 none ∈ jW := jwc_10 _ (List.mem_of_getElem? (i := 16) rfl)
theorem lw_617 : Cond.methodLink RL 106 yL_breaks ∈ jW := jwc_10 _ (List.mem_of_getElem? (i := 17) rfl)
theorem lw_618 : Cond.static yL_breaks ∈ jW := jwc_10 _ (List.mem_of_getElem? (i := 18) rfl)
theorem lw_619 : Cond.code yL_sinking cL_sinking 7 (some .int) ∈ jW := jwc_10 _ (List.mem_of_getElem? (i := 19) rfl)
theorem lw_620 : Cond.methodLink RL 98 yL_sinking ∈ jW := jwc_10 _ (List.mem_of_getElem? (i := 20) rfl)
theorem lw_621 : Cond.static yL_sinking ∈ jW := jwc_10 _ (List.mem_of_getElem? (i := 21) rfl)
theorem lw_622 : Cond.code yL_holds cL_holds 22 (some .boolean) ∈ jW := jwc_10 _ (List.mem_of_getElem? (i := 22) rfl)
theorem lw_623 : Cond.methodLink RL 110 yL_holds ∈ jW := jwc_10 _ (List.mem_of_getElem? (i := 23) rfl)
theorem lw_624 : Cond.static yL_holds ∈ jW := jwc_10 _ (List.mem_of_getElem? (i := 24) rfl)
theorem lw_625 : Cond.code yL_isNear cL_isNear 7 (some .boolean) ∈ jW := jwc_10 _ (List.mem_of_getElem? (i := 25) rfl)
theorem lw_626 : Cond.methodLink RL 114 yL_isNear ∈ jW := jwc_10 _ (List.mem_of_getElem? (i := 26) rfl)
theorem lw_627 : Cond.static yL_isNear ∈ jW := jwc_10 _ (List.mem_of_getElem? (i := 27) rfl)
theorem lw_628 : Cond.code yL_isTaken cL_isTaken 7 (some .boolean) ∈ jW := jwc_10 _ (List.mem_of_getElem? (i := 28) rfl)
theorem lw_629 : Cond.methodLink RL 118 yL_isTaken ∈ jW := jwc_10 _ (List.mem_of_getElem? (i := 29) rfl)
theorem lw_630 : Cond.static yL_isTaken ∈ jW := jwc_10 _ (List.mem_of_getElem? (i := 30) rfl)
theorem lw_631 : Cond.code yL_settles cL_settles 11 none ∈ jW := jwc_10 _ (List.mem_of_getElem? (i := 31) rfl)
theorem lw_632 : Cond.methodLink RL 121 yL_settles ∈ jW := jwc_10 _ (List.mem_of_getElem? (i := 32) rfl)
theorem lw_633 : Cond.static yL_settles ∈ jW := jwc_10 _ (List.mem_of_getElem? (i := 33) rfl)
theorem lw_634 : Cond.code yL_comes cL_comes 17 none ∈ jW := jwc_10 _ (List.mem_of_getElem? (i := 34) rfl)
theorem lw_635 : Cond.methodLink RL 133 yL_comes ∈ jW := jwc_10 _ (List.mem_of_getElem? (i := 35) rfl)
theorem lw_636 : Cond.static yL_comes ∈ jW := jwc_10 _ (List.mem_of_getElem? (i := 36) rfl)
theorem lw_637 : Cond.code yL_level cL_level 7 (some .int) ∈ jW := jwc_10 _ (List.mem_of_getElem? (i := 37) rfl)
theorem lw_638 : Cond.methodLink RL 125 yL_level ∈ jW := jwc_10 _ (List.mem_of_getElem? (i := 38) rfl)
theorem lw_639 : Cond.static yL_level ∈ jW := jwc_10 _ (List.mem_of_getElem? (i := 39) rfl)
theorem lw_640 : Cond.code yL_far cL_far 7 (some .int) ∈ jW := jwc_10 _ (List.mem_of_getElem? (i := 40) rfl)
theorem lw_641 : Cond.methodLink RL 129 yL_far ∈ jW := jwc_10 _ (List.mem_of_getElem? (i := 41) rfl)
theorem lw_642 : Cond.static yL_far ∈ jW := jwc_10 _ (List.mem_of_getElem? (i := 42) rfl)
theorem lw_643 : Cond.code yL_isIn cL_isIn 2 (some .boolean) ∈ jW := jwc_10 _ (List.mem_of_getElem? (i := 43) rfl)
theorem lw_644 : Cond.methodLink RL 137 yL_isIn ∈ jW := jwc_10 _ (List.mem_of_getElem? (i := 44) rfl)
theorem lw_645 : Cond.static yL_isIn ∈ jW := jwc_10 _ (List.mem_of_getElem? (i := 45) rfl)
theorem lw_646 : Cond.code yL_canShift cL_canShift 8 (some .boolean) ∈ jW := jwc_10 _ (List.mem_of_getElem? (i := 46) rfl)
theorem lw_647 : Cond.methodLink RL 141 yL_canShift ∈ jW := jwc_10 _ (List.mem_of_getElem? (i := 47) rfl)
theorem lw_648 : Cond.static yL_canShift ∈ jW := jwc_10 _ (List.mem_of_getElem? (i := 48) rfl)
theorem lw_649 : Cond.constantLong RL 147 (16777216) ∈ jW := jwc_10 _ (List.mem_of_getElem? (i := 49) rfl)
theorem lw_650 : Cond.constantLong RL 149 (8388608) ∈ jW := jwc_10 _ (List.mem_of_getElem? (i := 50) rfl)
theorem lw_651 : Cond.constantLong RL 145 (2) ∈ jW := jwc_10 _ (List.mem_of_getElem? (i := 51) rfl)
theorem lw_652 : Cond.code yL_nearest cL_nearest 10 (some .long) ∈ jW := jwc_10 _ (List.mem_of_getElem? (i := 52) rfl)
theorem lw_653 : Cond.methodLink RL 151 yL_nearest ∈ jW := jwc_10 _ (List.mem_of_getElem? (i := 53) rfl)
theorem lw_654 : Cond.static yL_nearest ∈ jW := jwc_10 _ (List.mem_of_getElem? (i := 54) rfl)
theorem lw_655 : Cond.constantLong RL 155 (4294967296) ∈ jW := jwc_10 _ (List.mem_of_getElem? (i := 55) rfl)
theorem lw_656 : Cond.codeWith yL_does cL_does 8 (some .int) [(0, 225, 226, 60), (0, 225, 231, 63), (0, 225, 236, 66)] ∈ jW := jwc_10 _ (List.mem_of_getElem? (i := 56) rfl)
theorem lw_657 : Cond.methodLink RL 190 yL_does ∈ jW := jwc_10 _ (List.mem_of_getElem? (i := 57) rfl)
theorem lw_658 : Cond.static yL_does ∈ jW := jwc_10 _ (List.mem_of_getElem? (i := 58) rfl)
theorem lw_659 : Cond.code yX10_fewestAnew cX10_fewestAnew 5 (some .int) ∈ jW := jwc_10 _ (List.mem_of_getElem? (i := 59) rfl)
theorem lw_660 : Cond.methodLink RL 187 yX10_fewestAnew ∈ jW := jwc_11 _ (List.mem_of_getElem? (i := 0) rfl)
theorem lw_661 : Cond.instanceMethod yX10_fewestAnew ∈ jW := jwc_11 _ (List.mem_of_getElem? (i := 1) rfl)
theorem lw_662 : Cond.selects RX10 yX10_fewestAnew yX10_fewestAnew ∈ jW := jwc_11 _ (List.mem_of_getElem? (i := 2) rfl)
theorem lw_663 : Cond.code yX10_fewest cX10_fewest 5 (some .int) ∈ jW := jwc_11 _ (List.mem_of_getElem? (i := 3) rfl)
theorem lw_664 : Cond.methodLink RL 184 yX10_fewest ∈ jW := jwc_11 _ (List.mem_of_getElem? (i := 4) rfl)
theorem lw_665 : Cond.instanceMethod yX10_fewest ∈ jW := jwc_11 _ (List.mem_of_getElem? (i := 5) rfl)
theorem lw_666 : Cond.selects RX10 yX10_fewest yX10_fewest ∈ jW := jwc_11 _ (List.mem_of_getElem? (i := 6) rfl)
theorem lw_667 : Cond.code yX10_margin cX10_margin 2 (some .int) ∈ jW := jwc_11 _ (List.mem_of_getElem? (i := 7) rfl)
theorem lw_668 : Cond.methodLink RL 180 yX10_margin ∈ jW := jwc_11 _ (List.mem_of_getElem? (i := 8) rfl)
theorem lw_669 : Cond.instanceMethod yX10_margin ∈ jW := jwc_11 _ (List.mem_of_getElem? (i := 9) rfl)
theorem lw_670 : Cond.selects RX10 yX10_margin yX10_margin ∈ jW := jwc_11 _ (List.mem_of_getElem? (i := 10) rfl)
theorem lw_671 : Cond.constant RL 183 (-1082130432) ∈ jW := jwc_11 _ (List.mem_of_getElem? (i := 11) rfl)
theorem lw_672 : Cond.code yL_isEdge cL_isEdge 9 (some .boolean) ∈ jW := jwc_11 _ (List.mem_of_getElem? (i := 12) rfl)
theorem lw_673 : Cond.methodLink RL 173 yL_isEdge ∈ jW := jwc_11 _ (List.mem_of_getElem? (i := 13) rfl)
theorem lw_674 : Cond.static yL_isEdge ∈ jW := jwc_11 _ (List.mem_of_getElem? (i := 14) rfl)
theorem lw_675 : Cond.code yL_bits cL_bits 19 (some .int) ∈ jW := jwc_11 _ (List.mem_of_getElem? (i := 15) rfl)
theorem lw_676 : Cond.methodLink RL 176 yL_bits ∈ jW := jwc_11 _ (List.mem_of_getElem? (i := 16) rfl)
theorem lw_677 : Cond.static yL_bits ∈ jW := jwc_11 _ (List.mem_of_getElem? (i := 17) rfl)
theorem lw_678 : Cond.code yX10_wouldLift cX10_wouldLift 2 (some .int) ∈ jW := jwc_11 _ (List.mem_of_getElem? (i := 18) rfl)
theorem lw_679 : Cond.methodLink RL 170 yX10_wouldLift ∈ jW := jwc_11 _ (List.mem_of_getElem? (i := 19) rfl)
theorem lw_680 : Cond.instanceMethod yX10_wouldLift ∈ jW := jwc_11 _ (List.mem_of_getElem? (i := 20) rfl)
theorem lw_681 : Cond.selects RX10 yX10_wouldLift yX10_wouldLift ∈ jW := jwc_11 _ (List.mem_of_getElem? (i := 21) rfl)
theorem lw_682 : Cond.code yX10_foothold cX10_foothold 2 (some .int) ∈ jW := jwc_11 _ (List.mem_of_getElem? (i := 22) rfl)
theorem lw_683 : Cond.methodLink RL 167 yX10_foothold ∈ jW := jwc_11 _ (List.mem_of_getElem? (i := 23) rfl)
theorem lw_684 : Cond.instanceMethod yX10_foothold ∈ jW := jwc_11 _ (List.mem_of_getElem? (i := 24) rfl)
theorem lw_685 : Cond.selects RX10 yX10_foothold yX10_foothold ∈ jW := jwc_11 _ (List.mem_of_getElem? (i := 25) rfl)
theorem lw_686 : Cond.code yX10_isStable cX10_isStable 1 (some .boolean) ∈ jW := jwc_11 _ (List.mem_of_getElem? (i := 26) rfl)
theorem lw_687 : Cond.methodLink RL 160 yX10_isStable ∈ jW := jwc_11 _ (List.mem_of_getElem? (i := 27) rfl)
theorem lw_688 : Cond.instanceMethod yX10_isStable ∈ jW := jwc_11 _ (List.mem_of_getElem? (i := 28) rfl)
theorem lw_689 : Cond.selects RX10 yX10_isStable yX10_isStable ∈ jW := jwc_11 _ (List.mem_of_getElem? (i := 29) rfl)
theorem lw_690 : Cond.code yX10_isStableAnew cX10_isStableAnew 1 (some .boolean) ∈ jW := jwc_11 _ (List.mem_of_getElem? (i := 30) rfl)
theorem lw_691 : Cond.methodLink RL 164 yX10_isStableAnew ∈ jW := jwc_11 _ (List.mem_of_getElem? (i := 31) rfl)
theorem lw_692 : Cond.instanceMethod yX10_isStableAnew ∈ jW := jwc_11 _ (List.mem_of_getElem? (i := 32) rfl)
theorem lw_693 : Cond.selects RX10 yX10_isStableAnew yX10_isStableAnew ∈ jW := jwc_11 _ (List.mem_of_getElem? (i := 33) rfl)
theorem lw_694 : Cond.code yX10_machine cX10_machine 2 (some .int) ∈ jW := jwc_11 _ (List.mem_of_getElem? (i := 34) rfl)
theorem lw_695 : Cond.methodLink RL 157 yX10_machine ∈ jW := jwc_11 _ (List.mem_of_getElem? (i := 35) rfl)
theorem lw_696 : Cond.instanceMethod yX10_machine ∈ jW := jwc_11 _ (List.mem_of_getElem? (i := 36) rfl)
theorem lw_697 : Cond.selects RX10 yX10_machine yX10_machine ∈ jW := jwc_11 _ (List.mem_of_getElem? (i := 37) rfl)
theorem lw_698 : Cond.code yX10_halt cX10_halt 2 (some .int) ∈ jW := jwc_11 _ (List.mem_of_getElem? (i := 38) rfl)
theorem lw_699 : Cond.methodLink RL 194 yX10_halt ∈ jW := jwc_11 _ (List.mem_of_getElem? (i := 39) rfl)
theorem lw_700 : Cond.instanceMethod yX10_halt ∈ jW := jwc_11 _ (List.mem_of_getElem? (i := 40) rfl)
theorem lw_701 : Cond.selects RX10 yX10_halt yX10_halt ∈ jW := jwc_11 _ (List.mem_of_getElem? (i := 41) rfl)
theorem lw_702 : Cond.code yL_shifts cL_shifts 11 (some .boolean) ∈ jW := jwc_11 _ (List.mem_of_getElem? (i := 42) rfl)
theorem lw_703 : Cond.methodLink RL 205 yL_shifts ∈ jW := jwc_11 _ (List.mem_of_getElem? (i := 43) rfl)
theorem lw_704 : Cond.static yL_shifts ∈ jW := jwc_11 _ (List.mem_of_getElem? (i := 44) rfl)
theorem lw_705 : Cond.code yL_places cL_places 14 (some .boolean) ∈ jW := jwc_11 _ (List.mem_of_getElem? (i := 45) rfl)
theorem lw_706 : Cond.methodLink RL 201 yL_places ∈ jW := jwc_11 _ (List.mem_of_getElem? (i := 46) rfl)
theorem lw_707 : Cond.static yL_places ∈ jW := jwc_11 _ (List.mem_of_getElem? (i := 47) rfl)
theorem lw_708 : Cond.code yL_lifts cL_lifts 9 (some .boolean) ∈ jW := jwc_11 _ (List.mem_of_getElem? (i := 48) rfl)
theorem lw_709 : Cond.methodLink RL 197 yL_lifts ∈ jW := jwc_11 _ (List.mem_of_getElem? (i := 49) rfl)
theorem lw_710 : Cond.static yL_lifts ∈ jW := jwc_11 _ (List.mem_of_getElem? (i := 50) rfl)
theorem lw_711 : Cond.code yL_isSo cL_isSo 30 (some .boolean) ∈ jW := jwc_11 _ (List.mem_of_getElem? (i := 51) rfl)
theorem lw_712 : Cond.methodLink RL 227 yL_isSo ∈ jW := jwc_11 _ (List.mem_of_getElem? (i := 52) rfl)
theorem lw_713 : Cond.static yL_isSo ∈ jW := jwc_11 _ (List.mem_of_getElem? (i := 53) rfl)
theorem lw_714 : Cond.code yL_isDone cL_isDone 26 (some .boolean) ∈ jW := jwc_11 _ (List.mem_of_getElem? (i := 54) rfl)
theorem lw_715 : Cond.methodLink RL 223 yL_isDone ∈ jW := jwc_11 _ (List.mem_of_getElem? (i := 55) rfl)
theorem lw_716 : Cond.static yL_isDone ∈ jW := jwc_11 _ (List.mem_of_getElem? (i := 56) rfl)
theorem lw_717 : Cond.code yL_isTold cL_isTold 25 (some .boolean) ∈ jW := jwc_11 _ (List.mem_of_getElem? (i := 57) rfl)
theorem lw_718 : Cond.methodLink RL 219 yL_isTold ∈ jW := jwc_11 _ (List.mem_of_getElem? (i := 58) rfl)
theorem lw_719 : Cond.static yL_isTold ∈ jW := jwc_11 _ (List.mem_of_getElem? (i := 59) rfl)
theorem lw_720 : Cond.constant RL 218 (60000) ∈ jW := jwc_12 _ (List.mem_of_getElem? (i := 0) rfl)
theorem lw_721 : Cond.code yL_part cL_part 4 (some .int) ∈ jW := jwc_12 _ (List.mem_of_getElem? (i := 1) rfl)
theorem lw_722 : Cond.methodLink RL 214 yL_part ∈ jW := jwc_12 _ (List.mem_of_getElem? (i := 2) rfl)
theorem lw_723 : Cond.static yL_part ∈ jW := jwc_12 _ (List.mem_of_getElem? (i := 3) rfl)
theorem lw_724 : Cond.constantLong RL 210 (7161677110969590627) ∈ jW := jwc_12 _ (List.mem_of_getElem? (i := 4) rfl)
theorem lw_725 : Cond.constantLong RL 212 (-7378697629483820647) ∈ jW := jwc_12 _ (List.mem_of_getElem? (i := 5) rfl)
theorem lw_726 : Cond.classLink RL 9 RX10 ∈ jW := jwc_12 _ (List.mem_of_getElem? (i := 6) rfl)
theorem lw_727 : Cond.instantiable RX10 11 ∈ jW := jwc_12 _ (List.mem_of_getElem? (i := 7) rfl)
theorem lw_728 : Cond.code yX10_init cX10_init 2 none ∈ jW := jwc_12 _ (List.mem_of_getElem? (i := 8) rfl)
theorem lw_729 : Cond.methodLink RL 209 yX10_init ∈ jW := jwc_12 _ (List.mem_of_getElem? (i := 9) rfl)
theorem lw_730 : Cond.instanceMethod yX10_init ∈ jW := jwc_12 _ (List.mem_of_getElem? (i := 10) rfl)
theorem lw_731 : Cond.arrayClass .long ∈ jW := jwc_12 _ (List.mem_of_getElem? (i := 11) rfl)
theorem jwm {w w0 : Cond} (h : w ∈ jW) : w ∈ w0 :: jW := List.mem_cons_of_mem _ h
theorem jwi {L : List Cond} {w0 : Cond} (h : ∀ w ∈ L, w ∈ jW) : ∀ w ∈ L, w ∈ w0 :: jW := fun w hw => List.mem_cons_of_mem _ (h w hw)
theorem jgP {w0 w1 : Cond} (h : w1 ∈ jW) : GoodIn (w0 :: jW) (w1 :: jW) := by
  intro w hw
  rcases List.mem_cons.mp hw with rfl | hw
  · exact ⟨List.mem_cons_of_mem _ h, good_of_word (jW_good _ h)⟩
  · exact ⟨List.mem_cons_of_mem _ hw, good_of_word (jW_good _ hw)⟩
theorem jgL {w0 : Cond} {L : List Cond} (h : ∀ w ∈ L, w ∈ jW) : GoodIn (w0 :: jW) L := fun w hw => ⟨List.mem_cons_of_mem _ (h w hw), good_of_word (jW_good _ (h w hw))⟩
theorem jgV {w0 : Cond} {own C : String} {idx : Nat} {y : MethodName} {bs : ByteArray} {mL : Nat} {ry : Option FieldType} (h1 : Cond.methodLink own idx y ∈ jW) (h2 : Cond.instanceMethod y ∈ jW) (h3 : Cond.selects C y y ∈ jW) (h4 : Cond.initialized C ∈ jW) (h : Cond.code y bs mL ry ∈ jW) : GoodIn (w0 :: jW) (wsV own idx C y (Cond.code y bs mL ry :: jW)) :=
  goodIn_app (jgL (List.forall_mem_cons.mpr ⟨h1, List.forall_mem_cons.mpr ⟨h2, List.forall_mem_cons.mpr ⟨h3, List.forall_mem_cons.mpr ⟨h4, fun _ h => absurd h List.not_mem_nil⟩⟩⟩⟩)) (jgP h)
theorem jgS {w0 w1 : Cond} {own : String} {idx : Nat} {y : MethodName} (h1 : Cond.methodLink own idx y ∈ jW) (h2 : Cond.static y ∈ jW) (h3 : Cond.initialized y.cls ∈ jW) (h : w1 ∈ jW) : GoodIn (w0 :: jW) (va_wsS own idx y (w1 :: jW)) :=
  goodIn_app (jgL (List.forall_mem_cons.mpr ⟨h1, List.forall_mem_cons.mpr ⟨h2, List.forall_mem_cons.mpr ⟨h3, fun _ h => absurd h List.not_mem_nil⟩⟩⟩)) (jgP h)
