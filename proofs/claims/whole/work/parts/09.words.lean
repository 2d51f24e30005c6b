theorem hy_J6_bitCount_0f7a4 : yJ6_bitCount_0f7a4.cls ≠ "java/lang/invoke/MethodHandle" ∧ yJ6_bitCount_0f7a4.cls ≠ "java/lang/invoke/VarHandle" ∧ (parseMethodDescriptor yJ6_bitCount_0f7a4.desc).map (fun d => d.parameters.length) = some 1 := by decide +kernel
theorem hy_X0_allLight : yX0_allLight.cls = RX0 ∧ yX0_allLight.cls ≠ "java/lang/invoke/MethodHandle" ∧ yX0_allLight.cls ≠ "java/lang/invoke/VarHandle" ∧ (parseMethodDescriptor yX0_allLight.desc).map (fun d => d.parameters.length) = some 0 := by decide +kernel
theorem hy_X0_charge : yX0_charge.cls = RX0 ∧ yX0_charge.cls ≠ "java/lang/invoke/MethodHandle" ∧ yX0_charge.cls ≠ "java/lang/invoke/VarHandle" ∧ (parseMethodDescriptor yX0_charge.desc).map (fun d => d.parameters.length) = some 3 := by decide +kernel
theorem hy_X0_debtOf : yX0_debtOf.cls = RX0 ∧ yX0_debtOf.cls ≠ "java/lang/invoke/MethodHandle" ∧ yX0_debtOf.cls ≠ "java/lang/invoke/VarHandle" ∧ (parseMethodDescriptor yX0_debtOf.desc).map (fun d => d.parameters.length) = some 1 := by decide +kernel
theorem hy_X0_isNumber : yX0_isNumber.cls = RX0 ∧ yX0_isNumber.cls ≠ "java/lang/invoke/MethodHandle" ∧ yX0_isNumber.cls ≠ "java/lang/invoke/VarHandle" ∧ (parseMethodDescriptor yX0_isNumber.desc).map (fun d => d.parameters.length) = some 1 := by decide +kernel
theorem hy_X0_lampsAnHour : yX0_lampsAnHour.cls ≠ "java/lang/invoke/MethodHandle" ∧ yX0_lampsAnHour.cls ≠ "java/lang/invoke/VarHandle" ∧ (parseMethodDescriptor yX0_lampsAnHour.desc).map (fun d => d.parameters.length) = some 1 := by decide +kernel
theorem hy_X0_lampsFromTo : yX0_lampsFromTo.cls = RX0 ∧ yX0_lampsFromTo.cls ≠ "java/lang/invoke/MethodHandle" ∧ yX0_lampsFromTo.cls ≠ "java/lang/invoke/VarHandle" ∧ (parseMethodDescriptor yX0_lampsFromTo.desc).map (fun d => d.parameters.length) = some 2 := by decide +kernel
theorem hy_X0_lightIn : yX0_lightIn.cls = RX0 ∧ yX0_lightIn.cls ≠ "java/lang/invoke/MethodHandle" ∧ yX0_lightIn.cls ≠ "java/lang/invoke/VarHandle" ∧ (parseMethodDescriptor yX0_lightIn.desc).map (fun d => d.parameters.length) = some 2 := by decide +kernel
theorem hy_X0_lightOf : yX0_lightOf.cls = RX0 ∧ yX0_lightOf.cls ≠ "java/lang/invoke/MethodHandle" ∧ yX0_lightOf.cls ≠ "java/lang/invoke/VarHandle" ∧ (parseMethodDescriptor yX0_lightOf.desc).map (fun d => d.parameters.length) = some 1 := by decide +kernel
theorem hy_X0_mutualPairs : yX0_mutualPairs.cls = RX0 ∧ yX0_mutualPairs.cls ≠ "java/lang/invoke/MethodHandle" ∧ yX0_mutualPairs.cls ≠ "java/lang/invoke/VarHandle" ∧ (parseMethodDescriptor yX0_mutualPairs.desc).map (fun d => d.parameters.length) = some 0 := by decide +kernel
theorem hy_X0_owedBy : yX0_owedBy.cls = RX0 ∧ yX0_owedBy.cls ≠ "java/lang/invoke/MethodHandle" ∧ yX0_owedBy.cls ≠ "java/lang/invoke/VarHandle" ∧ (parseMethodDescriptor yX0_owedBy.desc).map (fun d => d.parameters.length) = some 1 := by decide +kernel
theorem hy_X0_owedOf : yX0_owedOf.cls = RX0 ∧ yX0_owedOf.cls ≠ "java/lang/invoke/MethodHandle" ∧ yX0_owedOf.cls ≠ "java/lang/invoke/VarHandle" ∧ (parseMethodDescriptor yX0_owedOf.desc).map (fun d => d.parameters.length) = some 1 := by decide +kernel
theorem hy_X0_owingOf : yX0_owingOf.cls = RX0 ∧ yX0_owingOf.cls ≠ "java/lang/invoke/MethodHandle" ∧ yX0_owingOf.cls ≠ "java/lang/invoke/VarHandle" ∧ (parseMethodDescriptor yX0_owingOf.desc).map (fun d => d.parameters.length) = some 1 := by decide +kernel
theorem hy_X0_reckon : yX0_reckon.cls = RX0 ∧ yX0_reckon.cls ≠ "java/lang/invoke/MethodHandle" ∧ yX0_reckon.cls ≠ "java/lang/invoke/VarHandle" ∧ (parseMethodDescriptor yX0_reckon.desc).map (fun d => d.parameters.length) = some 1 := by decide +kernel
theorem hy_X0_reckonHouse : yX0_reckonHouse.cls = RX0 ∧ yX0_reckonHouse.cls ≠ "java/lang/invoke/MethodHandle" ∧ yX0_reckonHouse.cls ≠ "java/lang/invoke/VarHandle" ∧ (parseMethodDescriptor yX0_reckonHouse.desc).map (fun d => d.parameters.length) = some 4 := by decide +kernel
theorem hy_X0_ringed : yX0_ringed.cls = RX0 ∧ yX0_ringed.cls ≠ "java/lang/invoke/MethodHandle" ∧ yX0_ringed.cls ≠ "java/lang/invoke/VarHandle" ∧ (parseMethodDescriptor yX0_ringed.desc).map (fun d => d.parameters.length) = some 0 := by decide +kernel
theorem hy_X1_addTower : yX1_addTower.cls = RX1 ∧ yX1_addTower.cls ≠ "java/lang/invoke/MethodHandle" ∧ yX1_addTower.cls ≠ "java/lang/invoke/VarHandle" ∧ (parseMethodDescriptor yX1_addTower.desc).map (fun d => d.parameters.length) = some 0 := by decide +kernel
theorem hy_X1_borneAt : yX1_borneAt.cls = RX1 ∧ yX1_borneAt.cls ≠ "java/lang/invoke/MethodHandle" ∧ yX1_borneAt.cls ≠ "java/lang/invoke/VarHandle" ∧ (parseMethodDescriptor yX1_borneAt.desc).map (fun d => d.parameters.length) = some 2 := by decide +kernel
theorem hy_X1_change : yX1_change.cls = RX1 ∧ yX1_change.cls ≠ "java/lang/invoke/MethodHandle" ∧ yX1_change.cls ≠ "java/lang/invoke/VarHandle" ∧ (parseMethodDescriptor yX1_change.desc).map (fun d => d.parameters.length) = some 4 := by decide +kernel
theorem hy_X1_clear : yX1_clear.cls = RX1 ∧ yX1_clear.cls ≠ "java/lang/invoke/MethodHandle" ∧ yX1_clear.cls ≠ "java/lang/invoke/VarHandle" ∧ (parseMethodDescriptor yX1_clear.desc).map (fun d => d.parameters.length) = some 0 := by decide +kernel
theorem hy_X1_countOf : yX1_countOf.cls = RX1 ∧ yX1_countOf.cls ≠ "java/lang/invoke/MethodHandle" ∧ yX1_countOf.cls ≠ "java/lang/invoke/VarHandle" ∧ (parseMethodDescriptor yX1_countOf.desc).map (fun d => d.parameters.length) = some 1 := by decide +kernel
theorem hy_X1_has : yX1_has.cls = RX1 ∧ yX1_has.cls ≠ "java/lang/invoke/MethodHandle" ∧ yX1_has.cls ≠ "java/lang/invoke/VarHandle" ∧ (parseMethodDescriptor yX1_has.desc).map (fun d => d.parameters.length) = some 2 := by decide +kernel
theorem hy_X1_hasRoom : yX1_hasRoom.cls = RX1 ∧ yX1_hasRoom.cls ≠ "java/lang/invoke/MethodHandle" ∧ yX1_hasRoom.cls ≠ "java/lang/invoke/VarHandle" ∧ (parseMethodDescriptor yX1_hasRoom.desc).map (fun d => d.parameters.length) = some 1 := by decide +kernel
theorem hy_X1_heightOf : yX1_heightOf.cls = RX1 ∧ yX1_heightOf.cls ≠ "java/lang/invoke/MethodHandle" ∧ yX1_heightOf.cls ≠ "java/lang/invoke/VarHandle" ∧ (parseMethodDescriptor yX1_heightOf.desc).map (fun d => d.parameters.length) = some 1 := by decide +kernel
theorem hy_X1_hoursSeen : yX1_hoursSeen.cls = RX1 ∧ yX1_hoursSeen.cls ≠ "java/lang/invoke/MethodHandle" ∧ yX1_hoursSeen.cls ≠ "java/lang/invoke/VarHandle" ∧ (parseMethodDescriptor yX1_hoursSeen.desc).map (fun d => d.parameters.length) = some 2 := by decide +kernel
theorem hy_X1_houseCount : yX1_houseCount.cls = RX1 ∧ yX1_houseCount.cls ≠ "java/lang/invoke/MethodHandle" ∧ yX1_houseCount.cls ≠ "java/lang/invoke/VarHandle" ∧ (parseMethodDescriptor yX1_houseCount.desc).map (fun d => d.parameters.length) = some 0 := by decide +kernel
theorem hy_X1_housesIn : yX1_housesIn.cls = RX1 ∧ yX1_housesIn.cls ≠ "java/lang/invoke/MethodHandle" ∧ yX1_housesIn.cls ≠ "java/lang/invoke/VarHandle" ∧ (parseMethodDescriptor yX1_housesIn.desc).map (fun d => d.parameters.length) = some 1 := by decide +kernel
theorem hy_X1_isNumber : yX1_isNumber.cls = RX1 ∧ yX1_isNumber.cls ≠ "java/lang/invoke/MethodHandle" ∧ yX1_isNumber.cls ≠ "java/lang/invoke/VarHandle" ∧ (parseMethodDescriptor yX1_isNumber.desc).map (fun d => d.parameters.length) = some 1 := by decide +kernel
theorem hy_X1_isSteady : yX1_isSteady.cls = RX1 ∧ yX1_isSteady.cls ≠ "java/lang/invoke/MethodHandle" ∧ yX1_isSteady.cls ≠ "java/lang/invoke/VarHandle" ∧ (parseMethodDescriptor yX1_isSteady.desc).map (fun d => d.parameters.length) = some 0 := by decide +kernel
theorem hy_X1_isSwaying : yX1_isSwaying.cls = RX1 ∧ yX1_isSwaying.cls ≠ "java/lang/invoke/MethodHandle" ∧ yX1_isSwaying.cls ≠ "java/lang/invoke/VarHandle" ∧ (parseMethodDescriptor yX1_isSwaying.desc).map (fun d => d.parameters.length) = some 2 := by decide +kernel
theorem hy_X1_isTower : yX1_isTower.cls = RX1 ∧ yX1_isTower.cls ≠ "java/lang/invoke/MethodHandle" ∧ yX1_isTower.cls ≠ "java/lang/invoke/VarHandle" ∧ (parseMethodDescriptor yX1_isTower.desc).map (fun d => d.parameters.length) = some 1 := by decide +kernel
theorem hy_X1_kindAt : yX1_kindAt.cls = RX1 ∧ yX1_kindAt.cls ≠ "java/lang/invoke/MethodHandle" ∧ yX1_kindAt.cls ≠ "java/lang/invoke/VarHandle" ∧ (parseMethodDescriptor yX1_kindAt.desc).map (fun d => d.parameters.length) = some 2 := by decide +kernel
theorem hy_X1_lampedAbove : yX1_lampedAbove.cls = RX1 ∧ yX1_lampedAbove.cls ≠ "java/lang/invoke/MethodHandle" ∧ yX1_lampedAbove.cls ≠ "java/lang/invoke/VarHandle" ∧ (parseMethodDescriptor yX1_lampedAbove.desc).map (fun d => d.parameters.length) = some 2 := by decide +kernel
theorem hy_X1_loadFrom : yX1_loadFrom.cls = RX1 ∧ yX1_loadFrom.cls ≠ "java/lang/invoke/MethodHandle" ∧ yX1_loadFrom.cls ≠ "java/lang/invoke/VarHandle" ∧ (parseMethodDescriptor yX1_loadFrom.desc).map (fun d => d.parameters.length) = some 2 := by decide +kernel
theorem hy_X1_mostStoreys : yX1_mostStoreys.cls = RX1 ∧ yX1_mostStoreys.cls ≠ "java/lang/invoke/MethodHandle" ∧ yX1_mostStoreys.cls ≠ "java/lang/invoke/VarHandle" ∧ (parseMethodDescriptor yX1_mostStoreys.desc).map (fun d => d.parameters.length) = some 0 := by decide +kernel
theorem hy_X1_numberOf : yX1_numberOf.cls = RX1 ∧ yX1_numberOf.cls ≠ "java/lang/invoke/MethodHandle" ∧ yX1_numberOf.cls ≠ "java/lang/invoke/VarHandle" ∧ (parseMethodDescriptor yX1_numberOf.desc).map (fun d => d.parameters.length) = some 2 := by decide +kernel
theorem hy_X1_pop : yX1_pop.cls = RX1 ∧ yX1_pop.cls ≠ "java/lang/invoke/MethodHandle" ∧ yX1_pop.cls ≠ "java/lang/invoke/VarHandle" ∧ (parseMethodDescriptor yX1_pop.desc).map (fun d => d.parameters.length) = some 1 := by decide +kernel
theorem hy_X1_push : yX1_push.cls = RX1 ∧ yX1_push.cls ≠ "java/lang/invoke/MethodHandle" ∧ yX1_push.cls ≠ "java/lang/invoke/VarHandle" ∧ (parseMethodDescriptor yX1_push.desc).map (fun d => d.parameters.length) = some 3 := by decide +kernel
theorem hy_X1_remove : yX1_remove.cls = RX1 ∧ yX1_remove.cls ≠ "java/lang/invoke/MethodHandle" ∧ yX1_remove.cls ≠ "java/lang/invoke/VarHandle" ∧ (parseMethodDescriptor yX1_remove.desc).map (fun d => d.parameters.length) = some 2 := by decide +kernel
theorem hy_X1_saveTo : yX1_saveTo.cls = RX1 ∧ yX1_saveTo.cls ≠ "java/lang/invoke/MethodHandle" ∧ yX1_saveTo.cls ≠ "java/lang/invoke/VarHandle" ∧ (parseMethodDescriptor yX1_saveTo.desc).map (fun d => d.parameters.length) = some 2 := by decide +kernel
theorem hy_X1_shaderOf : yX1_shaderOf.cls = RX1 ∧ yX1_shaderOf.cls ≠ "java/lang/invoke/MethodHandle" ∧ yX1_shaderOf.cls ≠ "java/lang/invoke/VarHandle" ∧ (parseMethodDescriptor yX1_shaderOf.desc).map (fun d => d.parameters.length) = some 3 := by decide +kernel
theorem hy_X1_takeFrom : yX1_takeFrom.cls = RX1 ∧ yX1_takeFrom.cls ≠ "java/lang/invoke/MethodHandle" ∧ yX1_takeFrom.cls ≠ "java/lang/invoke/VarHandle" ∧ (parseMethodDescriptor yX1_takeFrom.desc).map (fun d => d.parameters.length) = some 1 := by decide +kernel
theorem hy_X1_takeWithout : yX1_takeWithout.cls = RX1 ∧ yX1_takeWithout.cls ≠ "java/lang/invoke/MethodHandle" ∧ yX1_takeWithout.cls ≠ "java/lang/invoke/VarHandle" ∧ (parseMethodDescriptor yX1_takeWithout.desc).map (fun d => d.parameters.length) = some 2 := by decide +kernel
theorem hy_X1_towerCount : yX1_towerCount.cls = RX1 ∧ yX1_towerCount.cls ≠ "java/lang/invoke/MethodHandle" ∧ yX1_towerCount.cls ≠ "java/lang/invoke/VarHandle" ∧ (parseMethodDescriptor yX1_towerCount.desc).map (fun d => d.parameters.length) = some 0 := by decide +kernel
theorem hy_X1_weightInOwnTower : yX1_weightInOwnTower.cls = RX1 ∧ yX1_weightInOwnTower.cls ≠ "java/lang/invoke/MethodHandle" ∧ yX1_weightInOwnTower.cls ≠ "java/lang/invoke/VarHandle" ∧ (parseMethodDescriptor yX1_weightInOwnTower.desc).map (fun d => d.parameters.length) = some 2 := by decide +kernel
theorem hy_X1_weightOn : yX1_weightOn.cls = RX1 ∧ yX1_weightOn.cls ≠ "java/lang/invoke/MethodHandle" ∧ yX1_weightOn.cls ≠ "java/lang/invoke/VarHandle" ∧ (parseMethodDescriptor yX1_weightOn.desc).map (fun d => d.parameters.length) = some 2 := by decide +kernel
theorem hy_X2_add : yX2_add.cls = RX2 ∧ yX2_add.cls ≠ "java/lang/invoke/MethodHandle" ∧ yX2_add.cls ≠ "java/lang/invoke/VarHandle" ∧ (parseMethodDescriptor yX2_add.desc).map (fun d => d.parameters.length) = some 1 := by decide +kernel
theorem hy_X2_clear : yX2_clear.cls = RX2 ∧ yX2_clear.cls ≠ "java/lang/invoke/MethodHandle" ∧ yX2_clear.cls ≠ "java/lang/invoke/VarHandle" ∧ (parseMethodDescriptor yX2_clear.desc).map (fun d => d.parameters.length) = some 0 := by decide +kernel
theorem hy_X2_fewestPayments : yX2_fewestPayments.cls = RX2 ∧ yX2_fewestPayments.cls ≠ "java/lang/invoke/MethodHandle" ∧ yX2_fewestPayments.cls ≠ "java/lang/invoke/VarHandle" ∧ (parseMethodDescriptor yX2_fewestPayments.desc).map (fun d => d.parameters.length) = some 0 := by decide +kernel
theorem hy_X2_mostGroups : yX2_mostGroups.cls = RX2 ∧ yX2_mostGroups.cls ≠ "java/lang/invoke/MethodHandle" ∧ yX2_mostGroups.cls ≠ "java/lang/invoke/VarHandle" ∧ (parseMethodDescriptor yX2_mostGroups.desc).map (fun d => d.parameters.length) = some 1 := by decide +kernel
theorem hy_X3_digestAll : yX3_digestAll.cls = RX3 ∧ yX3_digestAll.cls ≠ "java/lang/invoke/MethodHandle" ∧ yX3_digestAll.cls ≠ "java/lang/invoke/VarHandle" ∧ (parseMethodDescriptor yX3_digestAll.desc).map (fun d => d.parameters.length) = some 1 := by decide +kernel
theorem hy_X3_drop : yX3_drop.cls = RX3 ∧ yX3_drop.cls ≠ "java/lang/invoke/MethodHandle" ∧ yX3_drop.cls ≠ "java/lang/invoke/VarHandle" ∧ (parseMethodDescriptor yX3_drop.desc).map (fun d => d.parameters.length) = some 1 := by decide +kernel
theorem hy_X3_get : yX3_get.cls = RX3 ∧ yX3_get.cls ≠ "java/lang/invoke/MethodHandle" ∧ yX3_get.cls ≠ "java/lang/invoke/VarHandle" ∧ (parseMethodDescriptor yX3_get.desc).map (fun d => d.parameters.length) = some 2 := by decide +kernel
theorem hy_X3_has : yX3_has.cls = RX3 ∧ yX3_has.cls ≠ "java/lang/invoke/MethodHandle" ∧ yX3_has.cls ≠ "java/lang/invoke/VarHandle" ∧ (parseMethodDescriptor yX3_has.desc).map (fun d => d.parameters.length) = some 2 := by decide +kernel
theorem hy_X3_hasSpan : yX3_hasSpan.cls = RX3 ∧ yX3_hasSpan.cls ≠ "java/lang/invoke/MethodHandle" ∧ yX3_hasSpan.cls ≠ "java/lang/invoke/VarHandle" ∧ (parseMethodDescriptor yX3_hasSpan.desc).map (fun d => d.parameters.length) = some 3 := by decide +kernel
theorem hy_X3_isThere : yX3_isThere.cls = RX3 ∧ yX3_isThere.cls ≠ "java/lang/invoke/MethodHandle" ∧ yX3_isThere.cls ≠ "java/lang/invoke/VarHandle" ∧ (parseMethodDescriptor yX3_isThere.desc).map (fun d => d.parameters.length) = some 1 := by decide +kernel
theorem hy_X3_knows : yX3_knows.cls = RX3 ∧ yX3_knows.cls ≠ "java/lang/invoke/MethodHandle" ∧ yX3_knows.cls ≠ "java/lang/invoke/VarHandle" ∧ (parseMethodDescriptor yX3_knows.desc).map (fun d => d.parameters.length) = some 1 := by decide +kernel
theorem hy_X3_make : yX3_make.cls = RX3 ∧ yX3_make.cls ≠ "java/lang/invoke/MethodHandle" ∧ yX3_make.cls ≠ "java/lang/invoke/VarHandle" ∧ (parseMethodDescriptor yX3_make.desc).map (fun d => d.parameters.length) = some 2 := by decide +kernel
theorem hy_X3_move : yX3_move.cls = RX3 ∧ yX3_move.cls ≠ "java/lang/invoke/MethodHandle" ∧ yX3_move.cls ≠ "java/lang/invoke/VarHandle" ∧ (parseMethodDescriptor yX3_move.desc).map (fun d => d.parameters.length) = some 5 := by decide +kernel
theorem hy_X3_set : yX3_set.cls = RX3 ∧ yX3_set.cls ≠ "java/lang/invoke/MethodHandle" ∧ yX3_set.cls ≠ "java/lang/invoke/VarHandle" ∧ (parseMethodDescriptor yX3_set.desc).map (fun d => d.parameters.length) = some 3 := by decide +kernel
theorem hy_X3_sizeOf : yX3_sizeOf.cls = RX3 ∧ yX3_sizeOf.cls ≠ "java/lang/invoke/MethodHandle" ∧ yX3_sizeOf.cls ≠ "java/lang/invoke/VarHandle" ∧ (parseMethodDescriptor yX3_sizeOf.desc).map (fun d => d.parameters.length) = some 1 := by decide +kernel
theorem hy_X3_sumOf : yX3_sumOf.cls = RX3 ∧ yX3_sumOf.cls ≠ "java/lang/invoke/MethodHandle" ∧ yX3_sumOf.cls ≠ "java/lang/invoke/VarHandle" ∧ (parseMethodDescriptor yX3_sumOf.desc).map (fun d => d.parameters.length) = some 1 := by decide +kernel
theorem hy_X3_thereCount : yX3_thereCount.cls = RX3 ∧ yX3_thereCount.cls ≠ "java/lang/invoke/MethodHandle" ∧ yX3_thereCount.cls ≠ "java/lang/invoke/VarHandle" ∧ (parseMethodDescriptor yX3_thereCount.desc).map (fun d => d.parameters.length) = some 0 := by decide +kernel
theorem hy_X4_forget : yX4_forget.cls = RX4 ∧ yX4_forget.cls ≠ "java/lang/invoke/MethodHandle" ∧ yX4_forget.cls ≠ "java/lang/invoke/VarHandle" ∧ (parseMethodDescriptor yX4_forget.desc).map (fun d => d.parameters.length) = some 0 := by decide +kernel
theorem hy_X4_goBackTo : yX4_goBackTo.cls = RX4 ∧ yX4_goBackTo.cls ≠ "java/lang/invoke/MethodHandle" ∧ yX4_goBackTo.cls ≠ "java/lang/invoke/VarHandle" ∧ (parseMethodDescriptor yX4_goBackTo.desc).map (fun d => d.parameters.length) = some 1 := by decide +kernel
theorem hy_X4_hasRoomFor : yX4_hasRoomFor.cls = RX4 ∧ yX4_hasRoomFor.cls ≠ "java/lang/invoke/MethodHandle" ∧ yX4_hasRoomFor.cls ≠ "java/lang/invoke/VarHandle" ∧ (parseMethodDescriptor yX4_hasRoomFor.desc).map (fun d => d.parameters.length) = some 1 := by decide +kernel
theorem hy_X4_isThere : yX4_isThere.cls = RX4 ∧ yX4_isThere.cls ≠ "java/lang/invoke/MethodHandle" ∧ yX4_isThere.cls ≠ "java/lang/invoke/VarHandle" ∧ (parseMethodDescriptor yX4_isThere.desc).map (fun d => d.parameters.length) = some 0 := by decide +kernel
theorem hy_X4_noteDeed : yX4_noteDeed.cls = RX4 ∧ yX4_noteDeed.cls ≠ "java/lang/invoke/MethodHandle" ∧ yX4_noteDeed.cls ≠ "java/lang/invoke/VarHandle" ∧ (parseMethodDescriptor yX4_noteDeed.desc).map (fun d => d.parameters.length) = some 0 := by decide +kernel
theorem hy_X4_startWith : yX4_startWith.cls = RX4 ∧ yX4_startWith.cls ≠ "java/lang/invoke/MethodHandle" ∧ yX4_startWith.cls ≠ "java/lang/invoke/VarHandle" ∧ (parseMethodDescriptor yX4_startWith.desc).map (fun d => d.parameters.length) = some 1 := by decide +kernel
theorem hy_X4_takeFrom : yX4_takeFrom.cls = RX4 ∧ yX4_takeFrom.cls ≠ "java/lang/invoke/MethodHandle" ∧ yX4_takeFrom.cls ≠ "java/lang/invoke/VarHandle" ∧ (parseMethodDescriptor yX4_takeFrom.desc).map (fun d => d.parameters.length) = some 1 := by decide +kernel
theorem hy_X5_build : yX5_build.cls = RX5 ∧ yX5_build.cls ≠ "java/lang/invoke/MethodHandle" ∧ yX5_build.cls ≠ "java/lang/invoke/VarHandle" ∧ (parseMethodDescriptor yX5_build.desc).map (fun d => d.parameters.length) = some 3 := by decide +kernel
theorem hy_X5_count : yX5_count.cls = RX5 ∧ yX5_count.cls ≠ "java/lang/invoke/MethodHandle" ∧ yX5_count.cls ≠ "java/lang/invoke/VarHandle" ∧ (parseMethodDescriptor yX5_count.desc).map (fun d => d.parameters.length) = some 1 := by decide +kernel
theorem hy_X5_deedsKeptIn : yX5_deedsKeptIn.cls = RX5 ∧ yX5_deedsKeptIn.cls ≠ "java/lang/invoke/MethodHandle" ∧ yX5_deedsKeptIn.cls ≠ "java/lang/invoke/VarHandle" ∧ (parseMethodDescriptor yX5_deedsKeptIn.desc).map (fun d => d.parameters.length) = some 1 := by decide +kernel
theorem hy_X5_digestHouses : yX5_digestHouses.cls = RX5 ∧ yX5_digestHouses.cls ≠ "java/lang/invoke/MethodHandle" ∧ yX5_digestHouses.cls ≠ "java/lang/invoke/VarHandle" ∧ (parseMethodDescriptor yX5_digestHouses.desc).map (fun d => d.parameters.length) = some 1 := by decide +kernel
theorem hy_X5_forgetKept : yX5_forgetKept.cls = RX5 ∧ yX5_forgetKept.cls ≠ "java/lang/invoke/MethodHandle" ∧ yX5_forgetKept.cls ≠ "java/lang/invoke/VarHandle" ∧ (parseMethodDescriptor yX5_forgetKept.desc).map (fun d => d.parameters.length) = some 0 := by decide +kernel
theorem hy_X5_found : yX5_found.cls = RX5 ∧ yX5_found.cls ≠ "java/lang/invoke/MethodHandle" ∧ yX5_found.cls ≠ "java/lang/invoke/VarHandle" ∧ (parseMethodDescriptor yX5_found.desc).map (fun d => d.parameters.length) = some 1 := by decide +kernel
theorem hy_X5_hoursSeenInAll : yX5_hoursSeenInAll.cls ≠ "java/lang/invoke/MethodHandle" ∧ yX5_hoursSeenInAll.cls ≠ "java/lang/invoke/VarHandle" ∧ (parseMethodDescriptor yX5_hoursSeenInAll.desc).map (fun d => d.parameters.length) = some 1 := by decide +kernel
theorem hy_X5_hoursTakenIfHouse : yX5_hoursTakenIfHouse.cls = RX5 ∧ yX5_hoursTakenIfHouse.cls ≠ "java/lang/invoke/MethodHandle" ∧ yX5_hoursTakenIfHouse.cls ≠ "java/lang/invoke/VarHandle" ∧ (parseMethodDescriptor yX5_hoursTakenIfHouse.desc).map (fun d => d.parameters.length) = some 2 := by decide +kernel
theorem hy_X5_isBorne : yX5_isBorne.cls ≠ "java/lang/invoke/MethodHandle" ∧ yX5_isBorne.cls ≠ "java/lang/invoke/VarHandle" ∧ (parseMethodDescriptor yX5_isBorne.desc).map (fun d => d.parameters.length) = some 1 := by decide +kernel
theorem hy_X5_isKind : yX5_isKind.cls ≠ "java/lang/invoke/MethodHandle" ∧ yX5_isKind.cls ≠ "java/lang/invoke/VarHandle" ∧ (parseMethodDescriptor yX5_isKind.desc).map (fun d => d.parameters.length) = some 1 := by decide +kernel
theorem hy_X5_isLightAsIn : yX5_isLightAsIn.cls = RX5 ∧ yX5_isLightAsIn.cls ≠ "java/lang/invoke/MethodHandle" ∧ yX5_isLightAsIn.cls ≠ "java/lang/invoke/VarHandle" ∧ (parseMethodDescriptor yX5_isLightAsIn.desc).map (fun d => d.parameters.length) = some 2 := by decide +kernel
theorem hy_X5_isNoPlace : yX5_isNoPlace.cls = RX5 ∧ yX5_isNoPlace.cls ≠ "java/lang/invoke/MethodHandle" ∧ yX5_isNoPlace.cls ≠ "java/lang/invoke/VarHandle" ∧ (parseMethodDescriptor yX5_isNoPlace.desc).map (fun d => d.parameters.length) = some 2 := by decide +kernel
theorem hy_X5_isOf : yX5_isOf.cls ≠ "java/lang/invoke/MethodHandle" ∧ yX5_isOf.cls ≠ "java/lang/invoke/VarHandle" ∧ (parseMethodDescriptor yX5_isOf.desc).map (fun d => d.parameters.length) = some 2 := by decide +kernel
theorem hy_X5_keptAt : yX5_keptAt.cls = RX5 ∧ yX5_keptAt.cls ≠ "java/lang/invoke/MethodHandle" ∧ yX5_keptAt.cls ≠ "java/lang/invoke/VarHandle" ∧ (parseMethodDescriptor yX5_keptAt.desc).map (fun d => d.parameters.length) = some 1 := by decide +kernel
theorem hy_X5_keptCount : yX5_keptCount.cls = RX5 ∧ yX5_keptCount.cls ≠ "java/lang/invoke/MethodHandle" ∧ yX5_keptCount.cls ≠ "java/lang/invoke/VarHandle" ∧ (parseMethodDescriptor yX5_keptCount.desc).map (fun d => d.parameters.length) = some 0 := by decide +kernel
theorem hy_X5_kindOfLetter : yX5_kindOfLetter.cls ≠ "java/lang/invoke/MethodHandle" ∧ yX5_kindOfLetter.cls ≠ "java/lang/invoke/VarHandle" ∧ (parseMethodDescriptor yX5_kindOfLetter.desc).map (fun d => d.parameters.length) = some 1 := by decide +kernel
theorem hy_X5_lampsWhereSteady : yX5_lampsWhereSteady.cls = RX5 ∧ yX5_lampsWhereSteady.cls ≠ "java/lang/invoke/MethodHandle" ∧ yX5_lampsWhereSteady.cls ≠ "java/lang/invoke/VarHandle" ∧ (parseMethodDescriptor yX5_lampsWhereSteady.desc).map (fun d => d.parameters.length) = some 1 := by decide +kernel
theorem hy_X5_lightenedBelow : yX5_lightenedBelow.cls = RX5 ∧ yX5_lightenedBelow.cls ≠ "java/lang/invoke/MethodHandle" ∧ yX5_lightenedBelow.cls ≠ "java/lang/invoke/VarHandle" ∧ (parseMethodDescriptor yX5_lightenedBelow.desc).map (fun d => d.parameters.length) = some 2 := by decide +kernel
theorem hy_X5_markOf : yX5_markOf.cls = RX5 ∧ yX5_markOf.cls ≠ "java/lang/invoke/MethodHandle" ∧ yX5_markOf.cls ≠ "java/lang/invoke/VarHandle" ∧ (parseMethodDescriptor yX5_markOf.desc).map (fun d => d.parameters.length) = some 3 := by decide +kernel
theorem hy_X5_readAside : yX5_readAside.cls = RX5 ∧ yX5_readAside.cls ≠ "java/lang/invoke/MethodHandle" ∧ yX5_readAside.cls ≠ "java/lang/invoke/VarHandle" ∧ (parseMethodDescriptor yX5_readAside.desc).map (fun d => d.parameters.length) = some 1 := by decide +kernel
theorem hy_X5_toldOf : yX5_toldOf.cls = RX5 ∧ yX5_toldOf.cls ≠ "java/lang/invoke/MethodHandle" ∧ yX5_toldOf.cls ≠ "java/lang/invoke/VarHandle" ∧ (parseMethodDescriptor yX5_toldOf.desc).map (fun d => d.parameters.length) = some 3 := by decide +kernel
theorem hy_X5_winningTower : yX5_winningTower.cls ≠ "java/lang/invoke/MethodHandle" ∧ yX5_winningTower.cls ≠ "java/lang/invoke/VarHandle" ∧ (parseMethodDescriptor yX5_winningTower.desc).map (fun d => d.parameters.length) = some 3 := by decide +kernel
theorem hy_X6_adds : yX6_adds.cls = RX6 ∧ yX6_adds.cls ≠ "java/lang/invoke/MethodHandle" ∧ yX6_adds.cls ≠ "java/lang/invoke/VarHandle" ∧ (parseMethodDescriptor yX6_adds.desc).map (fun d => d.parameters.length) = some 4 := by decide +kernel
theorem hy_X6_allLamps : yX6_allLamps.cls = RX6 ∧ yX6_allLamps.cls ≠ "java/lang/invoke/MethodHandle" ∧ yX6_allLamps.cls ≠ "java/lang/invoke/VarHandle" ∧ (parseMethodDescriptor yX6_allLamps.desc).map (fun d => d.parameters.length) = some 0 := by decide +kernel
theorem hy_X6_allLight : yX6_allLight.cls = RX6 ∧ yX6_allLight.cls ≠ "java/lang/invoke/MethodHandle" ∧ yX6_allLight.cls ≠ "java/lang/invoke/VarHandle" ∧ (parseMethodDescriptor yX6_allLight.desc).map (fun d => d.parameters.length) = some 0 := by decide +kernel
theorem hy_X6_at : yX6_at.cls = RX6 ∧ yX6_at.cls ≠ "java/lang/invoke/MethodHandle" ∧ yX6_at.cls ≠ "java/lang/invoke/VarHandle" ∧ (parseMethodDescriptor yX6_at.desc).map (fun d => d.parameters.length) = some 2 := by decide +kernel
theorem hy_X6_bearsAt : yX6_bearsAt.cls = RX6 ∧ yX6_bearsAt.cls ≠ "java/lang/invoke/MethodHandle" ∧ yX6_bearsAt.cls ≠ "java/lang/invoke/VarHandle" ∧ (parseMethodDescriptor yX6_bearsAt.desc).map (fun d => d.parameters.length) = some 2 := by decide +kernel
theorem hy_X6_byteAt : yX6_byteAt.cls = RX6 ∧ yX6_byteAt.cls ≠ "java/lang/invoke/MethodHandle" ∧ yX6_byteAt.cls ≠ "java/lang/invoke/VarHandle" ∧ (parseMethodDescriptor yX6_byteAt.desc).map (fun d => d.parameters.length) = some 2 := by decide +kernel
theorem hy_X6_copyAll : yX6_copyAll.cls = RX6 ∧ yX6_copyAll.cls ≠ "java/lang/invoke/MethodHandle" ∧ yX6_copyAll.cls ≠ "java/lang/invoke/VarHandle" ∧ (parseMethodDescriptor yX6_copyAll.desc).map (fun d => d.parameters.length) = some 3 := by decide +kernel
theorem hy_X6_couldShade : yX6_couldShade.cls = RX6 ∧ yX6_couldShade.cls ≠ "java/lang/invoke/MethodHandle" ∧ yX6_couldShade.cls ≠ "java/lang/invoke/VarHandle" ∧ (parseMethodDescriptor yX6_couldShade.desc).map (fun d => d.parameters.length) = some 2 := by decide +kernel
theorem hy_X6_count : yX6_count.cls = RX6 ∧ yX6_count.cls ≠ "java/lang/invoke/MethodHandle" ∧ yX6_count.cls ≠ "java/lang/invoke/VarHandle" ∧ (parseMethodDescriptor yX6_count.desc).map (fun d => d.parameters.length) = some 1 := by decide +kernel
theorem hy_X6_eastIn : yX6_eastIn.cls ≠ "java/lang/invoke/MethodHandle" ∧ yX6_eastIn.cls ≠ "java/lang/invoke/VarHandle" ∧ (parseMethodDescriptor yX6_eastIn.desc).map (fun d => d.parameters.length) = some 1 := by decide +kernel
theorem hy_X6_faultOf : yX6_faultOf.cls = RX6 ∧ yX6_faultOf.cls ≠ "java/lang/invoke/MethodHandle" ∧ yX6_faultOf.cls ≠ "java/lang/invoke/VarHandle" ∧ (parseMethodDescriptor yX6_faultOf.desc).map (fun d => d.parameters.length) = some 1 := by decide +kernel
theorem hy_X6_firstOf : yX6_firstOf.cls = RX6 ∧ yX6_firstOf.cls ≠ "java/lang/invoke/MethodHandle" ∧ yX6_firstOf.cls ≠ "java/lang/invoke/VarHandle" ∧ (parseMethodDescriptor yX6_firstOf.desc).map (fun d => d.parameters.length) = some 1 := by decide +kernel
theorem hy_X6_fits : yX6_fits.cls ≠ "java/lang/invoke/MethodHandle" ∧ yX6_fits.cls ≠ "java/lang/invoke/VarHandle" ∧ (parseMethodDescriptor yX6_fits.desc).map (fun d => d.parameters.length) = some 3 := by decide +kernel
theorem hy_X6_found : yX6_found.cls = RX6 ∧ yX6_found.cls ≠ "java/lang/invoke/MethodHandle" ∧ yX6_found.cls ≠ "java/lang/invoke/VarHandle" ∧ (parseMethodDescriptor yX6_found.desc).map (fun d => d.parameters.length) = some 1 := by decide +kernel
theorem hy_X6_goes : yX6_goes.cls = RX6 ∧ yX6_goes.cls ≠ "java/lang/invoke/MethodHandle" ∧ yX6_goes.cls ≠ "java/lang/invoke/VarHandle" ∧ (parseMethodDescriptor yX6_goes.desc).map (fun d => d.parameters.length) = some 2 := by decide +kernel
theorem hy_X6_has : yX6_has.cls ≠ "java/lang/invoke/MethodHandle" ∧ yX6_has.cls ≠ "java/lang/invoke/VarHandle" ∧ (parseMethodDescriptor yX6_has.desc).map (fun d => d.parameters.length) = some 2 := by decide +kernel
theorem hy_X6_hasRoom : yX6_hasRoom.cls = RX6 ∧ yX6_hasRoom.cls ≠ "java/lang/invoke/MethodHandle" ∧ yX6_hasRoom.cls ≠ "java/lang/invoke/VarHandle" ∧ (parseMethodDescriptor yX6_hasRoom.desc).map (fun d => d.parameters.length) = some 1 := by decide +kernel
theorem hy_X6_highest : yX6_highest.cls = RX6 ∧ yX6_highest.cls ≠ "java/lang/invoke/MethodHandle" ∧ yX6_highest.cls ≠ "java/lang/invoke/VarHandle" ∧ (parseMethodDescriptor yX6_highest.desc).map (fun d => d.parameters.length) = some 0 := by decide +kernel
theorem hy_X6_hoursOf : yX6_hoursOf.cls = RX6 ∧ yX6_hoursOf.cls ≠ "java/lang/invoke/MethodHandle" ∧ yX6_hoursOf.cls ≠ "java/lang/invoke/VarHandle" ∧ (parseMethodDescriptor yX6_hoursOf.desc).map (fun d => d.parameters.length) = some 2 := by decide +kernel
theorem hy_X6_houseTells : yX6_houseTells.cls = RX6 ∧ yX6_houseTells.cls ≠ "java/lang/invoke/MethodHandle" ∧ yX6_houseTells.cls ≠ "java/lang/invoke/VarHandle" ∧ (parseMethodDescriptor yX6_houseTells.desc).map (fun d => d.parameters.length) = some 3 := by decide +kernel
theorem hy_X6_houses : yX6_houses.cls = RX6 ∧ yX6_houses.cls ≠ "java/lang/invoke/MethodHandle" ∧ yX6_houses.cls ≠ "java/lang/invoke/VarHandle" ∧ (parseMethodDescriptor yX6_houses.desc).map (fun d => d.parameters.length) = some 0 := by decide +kernel
theorem hy_X6_housesOf : yX6_housesOf.cls = RX6 ∧ yX6_housesOf.cls ≠ "java/lang/invoke/MethodHandle" ∧ yX6_housesOf.cls ≠ "java/lang/invoke/VarHandle" ∧ (parseMethodDescriptor yX6_housesOf.desc).map (fun d => d.parameters.length) = some 1 := by decide +kernel
theorem hy_X6_in : yX6_in.cls ≠ "java/lang/invoke/MethodHandle" ∧ yX6_in.cls ≠ "java/lang/invoke/VarHandle" ∧ (parseMethodDescriptor yX6_in.desc).map (fun d => d.parameters.length) = some 3 := by decide +kernel
theorem hy_X6_isBuilt : yX6_isBuilt.cls = RX6 ∧ yX6_isBuilt.cls ≠ "java/lang/invoke/MethodHandle" ∧ yX6_isBuilt.cls ≠ "java/lang/invoke/VarHandle" ∧ (parseMethodDescriptor yX6_isBuilt.desc).map (fun d => d.parameters.length) = some 2 := by decide +kernel
theorem hy_X6_isGame : yX6_isGame.cls = RX6 ∧ yX6_isGame.cls ≠ "java/lang/invoke/MethodHandle" ∧ yX6_isGame.cls ≠ "java/lang/invoke/VarHandle" ∧ (parseMethodDescriptor yX6_isGame.desc).map (fun d => d.parameters.length) = some 2 := by decide +kernel
theorem hy_X6_isGlass : yX6_isGlass.cls ≠ "java/lang/invoke/MethodHandle" ∧ yX6_isGlass.cls ≠ "java/lang/invoke/VarHandle" ∧ (parseMethodDescriptor yX6_isGlass.desc).map (fun d => d.parameters.length) = some 1 := by decide +kernel
theorem hy_X6_isHouse : yX6_isHouse.cls = RX6 ∧ yX6_isHouse.cls ≠ "java/lang/invoke/MethodHandle" ∧ yX6_isHouse.cls ≠ "java/lang/invoke/VarHandle" ∧ (parseMethodDescriptor yX6_isHouse.desc).map (fun d => d.parameters.length) = some 1 := by decide +kernel
theorem hy_X6_isKind : yX6_isKind.cls ≠ "java/lang/invoke/MethodHandle" ∧ yX6_isKind.cls ≠ "java/lang/invoke/VarHandle" ∧ (parseMethodDescriptor yX6_isKind.desc).map (fun d => d.parameters.length) = some 1 := by decide +kernel
theorem hy_X6_isLeaning : yX6_isLeaning.cls ≠ "java/lang/invoke/MethodHandle" ∧ yX6_isLeaning.cls ≠ "java/lang/invoke/VarHandle" ∧ (parseMethodDescriptor yX6_isLeaning.desc).map (fun d => d.parameters.length) = some 1 := by decide +kernel
theorem hy_X6_isNone : yX6_isNone.cls = RX6 ∧ yX6_isNone.cls ≠ "java/lang/invoke/MethodHandle" ∧ yX6_isNone.cls ≠ "java/lang/invoke/VarHandle" ∧ (parseMethodDescriptor yX6_isNone.desc).map (fun d => d.parameters.length) = some 0 := by decide +kernel
theorem hy_X6_isOf : yX6_isOf.cls ≠ "java/lang/invoke/MethodHandle" ∧ yX6_isOf.cls ≠ "java/lang/invoke/VarHandle" ∧ (parseMethodDescriptor yX6_isOf.desc).map (fun d => d.parameters.length) = some 2 := by decide +kernel
theorem hy_X6_isOnWay : yX6_isOnWay.cls ≠ "java/lang/invoke/MethodHandle" ∧ yX6_isOnWay.cls ≠ "java/lang/invoke/VarHandle" ∧ (parseMethodDescriptor yX6_isOnWay.desc).map (fun d => d.parameters.length) = some 5 := by decide +kernel
theorem hy_X6_isRow : yX6_isRow.cls ≠ "java/lang/invoke/MethodHandle" ∧ yX6_isRow.cls ≠ "java/lang/invoke/VarHandle" ∧ (parseMethodDescriptor yX6_isRow.desc).map (fun d => d.parameters.length) = some 1 := by decide +kernel
theorem hy_X6_isSeen : yX6_isSeen.cls = RX6 ∧ yX6_isSeen.cls ≠ "java/lang/invoke/MethodHandle" ∧ yX6_isSeen.cls ≠ "java/lang/invoke/VarHandle" ∧ (parseMethodDescriptor yX6_isSeen.desc).map (fun d => d.parameters.length) = some 2 := by decide +kernel
theorem hy_X6_isText : yX6_isText.cls ≠ "java/lang/invoke/MethodHandle" ∧ yX6_isText.cls ≠ "java/lang/invoke/VarHandle" ∧ (parseMethodDescriptor yX6_isText.desc).map (fun d => d.parameters.length) = some 1 := by decide +kernel
theorem hy_X6_isThere : yX6_isThere.cls = RX6 ∧ yX6_isThere.cls ≠ "java/lang/invoke/MethodHandle" ∧ yX6_isThere.cls ≠ "java/lang/invoke/VarHandle" ∧ (parseMethodDescriptor yX6_isThere.desc).map (fun d => d.parameters.length) = some 2 := by decide +kernel
theorem hy_X6_isTold : yX6_isTold.cls = RX6 ∧ yX6_isTold.cls ≠ "java/lang/invoke/MethodHandle" ∧ yX6_isTold.cls ≠ "java/lang/invoke/VarHandle" ∧ (parseMethodDescriptor yX6_isTold.desc).map (fun d => d.parameters.length) = some 2 := by decide +kernel
theorem hy_X6_isTower : yX6_isTower.cls = RX6 ∧ yX6_isTower.cls ≠ "java/lang/invoke/MethodHandle" ∧ yX6_isTower.cls ≠ "java/lang/invoke/VarHandle" ∧ (parseMethodDescriptor yX6_isTower.desc).map (fun d => d.parameters.length) = some 1 := by decide +kernel
theorem hy_X6_kindAt : yX6_kindAt.cls = RX6 ∧ yX6_kindAt.cls ≠ "java/lang/invoke/MethodHandle" ∧ yX6_kindAt.cls ≠ "java/lang/invoke/VarHandle" ∧ (parseMethodDescriptor yX6_kindAt.desc).map (fun d => d.parameters.length) = some 2 := by decide +kernel
theorem hy_X6_kindOf : yX6_kindOf.cls ≠ "java/lang/invoke/MethodHandle" ∧ yX6_kindOf.cls ≠ "java/lang/invoke/VarHandle" ∧ (parseMethodDescriptor yX6_kindOf.desc).map (fun d => d.parameters.length) = some 1 := by decide +kernel
theorem hy_X6_kindsMany : yX6_kindsMany.cls = RX6 ∧ yX6_kindsMany.cls ≠ "java/lang/invoke/MethodHandle" ∧ yX6_kindsMany.cls ≠ "java/lang/invoke/VarHandle" ∧ (parseMethodDescriptor yX6_kindsMany.desc).map (fun d => d.parameters.length) = some 1 := by decide +kernel
theorem hy_X6_lampsOver : yX6_lampsOver.cls = RX6 ∧ yX6_lampsOver.cls ≠ "java/lang/invoke/MethodHandle" ∧ yX6_lampsOver.cls ≠ "java/lang/invoke/VarHandle" ∧ (parseMethodDescriptor yX6_lampsOver.desc).map (fun d => d.parameters.length) = some 2 := by decide +kernel
theorem hy_X6_layLamps : yX6_layLamps.cls = RX6 ∧ yX6_layLamps.cls ≠ "java/lang/invoke/MethodHandle" ∧ yX6_layLamps.cls ≠ "java/lang/invoke/VarHandle" ∧ (parseMethodDescriptor yX6_layLamps.desc).map (fun d => d.parameters.length) = some 0 := by decide +kernel
theorem hy_X6_lays : yX6_lays.cls = RX6 ∧ yX6_lays.cls ≠ "java/lang/invoke/MethodHandle" ∧ yX6_lays.cls ≠ "java/lang/invoke/VarHandle" ∧ (parseMethodDescriptor yX6_lays.desc).map (fun d => d.parameters.length) = some 0 := by decide +kernel
theorem hy_X6_leaveAll : yX6_leaveAll.cls = RX6 ∧ yX6_leaveAll.cls ≠ "java/lang/invoke/MethodHandle" ∧ yX6_leaveAll.cls ≠ "java/lang/invoke/VarHandle" ∧ (parseMethodDescriptor yX6_leaveAll.desc).map (fun d => d.parameters.length) = some 1 := by decide +kernel
theorem hy_X6_lesser : yX6_lesser.cls ≠ "java/lang/invoke/MethodHandle" ∧ yX6_lesser.cls ≠ "java/lang/invoke/VarHandle" ∧ (parseMethodDescriptor yX6_lesser.desc).map (fun d => d.parameters.length) = some 2 := by decide +kernel
theorem hy_X6_lightBy : yX6_lightBy.cls = RX6 ∧ yX6_lightBy.cls ≠ "java/lang/invoke/MethodHandle" ∧ yX6_lightBy.cls ≠ "java/lang/invoke/VarHandle" ∧ (parseMethodDescriptor yX6_lightBy.desc).map (fun d => d.parameters.length) = some 3 := by decide +kernel
theorem hy_X6_lightOf : yX6_lightOf.cls = RX6 ∧ yX6_lightOf.cls ≠ "java/lang/invoke/MethodHandle" ∧ yX6_lightOf.cls ≠ "java/lang/invoke/VarHandle" ∧ (parseMethodDescriptor yX6_lightOf.desc).map (fun d => d.parameters.length) = some 1 := by decide +kernel
theorem hy_X6_lightened : yX6_lightened.cls = RX6 ∧ yX6_lightened.cls ≠ "java/lang/invoke/MethodHandle" ∧ yX6_lightened.cls ≠ "java/lang/invoke/VarHandle" ∧ (parseMethodDescriptor yX6_lightened.desc).map (fun d => d.parameters.length) = some 2 := by decide +kernel
theorem hy_X6_minds : yX6_minds.cls = RX6 ∧ yX6_minds.cls ≠ "java/lang/invoke/MethodHandle" ∧ yX6_minds.cls ≠ "java/lang/invoke/VarHandle" ∧ (parseMethodDescriptor yX6_minds.desc).map (fun d => d.parameters.length) = some 0 := by decide +kernel
theorem hy_X6_mix : yX6_mix.cls = RX6 ∧ yX6_mix.cls ≠ "java/lang/invoke/MethodHandle" ∧ yX6_mix.cls ≠ "java/lang/invoke/VarHandle" ∧ (parseMethodDescriptor yX6_mix.desc).map (fun d => d.parameters.length) = some 1 := by decide +kernel
theorem hy_X6_numberOf : yX6_numberOf.cls = RX6 ∧ yX6_numberOf.cls ≠ "java/lang/invoke/MethodHandle" ∧ yX6_numberOf.cls ≠ "java/lang/invoke/VarHandle" ∧ (parseMethodDescriptor yX6_numberOf.desc).map (fun d => d.parameters.length) = some 2 := by decide +kernel
theorem hy_X6_ones : yX6_ones.cls ≠ "java/lang/invoke/MethodHandle" ∧ yX6_ones.cls ≠ "java/lang/invoke/VarHandle" ∧ (parseMethodDescriptor yX6_ones.desc).map (fun d => d.parameters.length) = some 1 := by decide +kernel
theorem hy_X6_owedAll : yX6_owedAll.cls = RX6 ∧ yX6_owedAll.cls ≠ "java/lang/invoke/MethodHandle" ∧ yX6_owedAll.cls ≠ "java/lang/invoke/VarHandle" ∧ (parseMethodDescriptor yX6_owedAll.desc).map (fun d => d.parameters.length) = some 1 := by decide +kernel
theorem hy_X6_owesAll : yX6_owesAll.cls = RX6 ∧ yX6_owesAll.cls ≠ "java/lang/invoke/MethodHandle" ∧ yX6_owesAll.cls ≠ "java/lang/invoke/VarHandle" ∧ (parseMethodDescriptor yX6_owesAll.desc).map (fun d => d.parameters.length) = some 1 := by decide +kernel
theorem hy_X6_putsBack : yX6_putsBack.cls = RX6 ∧ yX6_putsBack.cls ≠ "java/lang/invoke/MethodHandle" ∧ yX6_putsBack.cls ≠ "java/lang/invoke/VarHandle" ∧ (parseMethodDescriptor yX6_putsBack.desc).map (fun d => d.parameters.length) = some 0 := by decide +kernel
theorem hy_X6_shader : yX6_shader.cls = RX6 ∧ yX6_shader.cls ≠ "java/lang/invoke/MethodHandle" ∧ yX6_shader.cls ≠ "java/lang/invoke/VarHandle" ∧ (parseMethodDescriptor yX6_shader.desc).map (fun d => d.parameters.length) = some 3 := by decide +kernel
theorem hy_X6_storeyOf : yX6_storeyOf.cls = RX6 ∧ yX6_storeyOf.cls ≠ "java/lang/invoke/MethodHandle" ∧ yX6_storeyOf.cls ≠ "java/lang/invoke/VarHandle" ∧ (parseMethodDescriptor yX6_storeyOf.desc).map (fun d => d.parameters.length) = some 1 := by decide +kernel
theorem hy_X6_swaying : yX6_swaying.cls = RX6 ∧ yX6_swaying.cls ≠ "java/lang/invoke/MethodHandle" ∧ yX6_swaying.cls ≠ "java/lang/invoke/VarHandle" ∧ (parseMethodDescriptor yX6_swaying.desc).map (fun d => d.parameters.length) = some 0 := by decide +kernel
theorem hy_X6_tells : yX6_tells.cls = RX6 ∧ yX6_tells.cls ≠ "java/lang/invoke/MethodHandle" ∧ yX6_tells.cls ≠ "java/lang/invoke/VarHandle" ∧ (parseMethodDescriptor yX6_tells.desc).map (fun d => d.parameters.length) = some 2 := by decide +kernel
theorem hy_X6_thereOf : yX6_thereOf.cls ≠ "java/lang/invoke/MethodHandle" ∧ yX6_thereOf.cls ≠ "java/lang/invoke/VarHandle" ∧ (parseMethodDescriptor yX6_thereOf.desc).map (fun d => d.parameters.length) = some 2 := by decide +kernel
theorem hy_X6_towerOf : yX6_towerOf.cls = RX6 ∧ yX6_towerOf.cls ≠ "java/lang/invoke/MethodHandle" ∧ yX6_towerOf.cls ≠ "java/lang/invoke/VarHandle" ∧ (parseMethodDescriptor yX6_towerOf.desc).map (fun d => d.parameters.length) = some 1 := by decide +kernel
theorem hy_X6_upIn : yX6_upIn.cls ≠ "java/lang/invoke/MethodHandle" ∧ yX6_upIn.cls ≠ "java/lang/invoke/VarHandle" ∧ (parseMethodDescriptor yX6_upIn.desc).map (fun d => d.parameters.length) = some 1 := by decide +kernel
theorem hy_X6_weighsOn : yX6_weighsOn.cls = RX6 ∧ yX6_weighsOn.cls ≠ "java/lang/invoke/MethodHandle" ∧ yX6_weighsOn.cls ≠ "java/lang/invoke/VarHandle" ∧ (parseMethodDescriptor yX6_weighsOn.desc).map (fun d => d.parameters.length) = some 2 := by decide +kernel
theorem hy_X6_weightIn : yX6_weightIn.cls = RX6 ∧ yX6_weightIn.cls ≠ "java/lang/invoke/MethodHandle" ∧ yX6_weightIn.cls ≠ "java/lang/invoke/VarHandle" ∧ (parseMethodDescriptor yX6_weightIn.desc).map (fun d => d.parameters.length) = some 2 := by decide +kernel
theorem hy_X6_winsBy : yX6_winsBy.cls = RX6 ∧ yX6_winsBy.cls ≠ "java/lang/invoke/MethodHandle" ∧ yX6_winsBy.cls ≠ "java/lang/invoke/VarHandle" ∧ (parseMethodDescriptor yX6_winsBy.desc).map (fun d => d.parameters.length) = some 2 := by decide +kernel
theorem nf_X1_102 : (RX1, 102, "RoofLent", zSN 3, "[I", "RoofLent") ∈ zNF := by decide +kernel
theorem nf_X1_90 : (RX1, 90, "RoofLent", zSN 1, "[I", "RoofLent") ∈ zNF := by decide +kernel
theorem nf_X1_99 : (RX1, 99, "RoofLent", zSN 2, "[I", "RoofLent") ∈ zNF := by decide +kernel
theorem nf_X5_125 : (RX5, 125, zcC 4, (zcT 4 0).2.1, (zcT 4 0).2.2.1, "RoofLent") ∈ zNF := by decide +kernel
theorem nf_X5_182 : (RX5, 182, zcC 4, (zcT 4 2).2.1, (zcT 4 2).2.2.1, "RoofLent") ∈ zNF := by decide +kernel
theorem nf_X5_217 : (RX5, 217, zcC 0, (zcT 0 1).2.1, (zcT 0 1).2.2.1, "RoofLent") ∈ zNF := by decide +kernel
theorem nm_X1_84 : (RX1, 84, yX5_isOf, "RoofLent") ∈ zNM := by decide +kernel
theorem ww_0 : Cond.selects RX5 yX5_found yX5_found ∈ zBIG := zbig 0 (by decide +kernel) rfl
theorem ww_1 : Cond.selects RX5 yX5_readAside yX5_readAside ∈ zBIG := zbig 1 (by decide +kernel) rfl
theorem ww_10 : Cond.selects RX5 yX5_markOf yX5_markOf ∈ zBIG := zbig 10 (by decide +kernel) rfl
theorem ww_100 : zfl RX3 28 3 3 ∈ zBIG := zbig 100 (by decide +kernel) rfl
theorem ww_1002 : Cond.methodLink RX6 118 yX6_isTower ∈ zBIG := zbig 1002 (by decide +kernel) rfl
theorem ww_1004 : Cond.instanceMethod yX6_isTower ∈ zBIG := zbig 1004 (by decide +kernel) rfl
theorem ww_1005 : Cond.code yX6_isTower cX6_isTower 2 (some .boolean) ∈ zBIG := zbig 1005 (by decide +kernel) rfl
theorem ww_1010 : Cond.methodLink RX6 193 yX6_isTold ∈ zBIG := zbig 1010 (by decide +kernel) rfl
theorem ww_1012 : Cond.instanceMethod yX6_isTold ∈ zBIG := zbig 1012 (by decide +kernel) rfl
theorem ww_1013 : Cond.code yX6_isTold cX6_isTold 3 (some .boolean) ∈ zBIG := zbig 1013 (by decide +kernel) rfl
theorem ww_1014 : Cond.constantLong RX6 196 (Int64.ofInt 6) ∈ zBIG := zbig 1014 (by decide +kernel) rfl
theorem ww_1015 : Cond.methodLink RX6 151 yX6_isThere ∈ zBIG := zbig 1015 (by decide +kernel) rfl
theorem ww_1017 : Cond.instanceMethod yX6_isThere ∈ zBIG := zbig 1017 (by decide +kernel) rfl
theorem ww_1018 : Cond.code yX6_isThere cX6_isThere 3 (some .boolean) ∈ zBIG := zbig 1018 (by decide +kernel) rfl
theorem ww_1019 : Cond.methodLink RX6 184 yX6_layLamps ∈ zBIG := zbig 1019 (by decide +kernel) rfl
theorem ww_1021 : Cond.instanceMethod yX6_layLamps ∈ zBIG := zbig 1021 (by decide +kernel) rfl
theorem ww_1022 : Cond.code yX6_layLamps cX6_layLamps 7 none ∈ zBIG := zbig 1022 (by decide +kernel) rfl
theorem ww_1023 : Cond.methodLink RX6 177 yX6_houses ∈ zBIG := zbig 1023 (by decide +kernel) rfl
theorem ww_1025 : Cond.instanceMethod yX6_houses ∈ zBIG := zbig 1025 (by decide +kernel) rfl
theorem ww_1026 : Cond.code yX6_houses cX6_houses 1 (some .int) ∈ zBIG := zbig 1026 (by decide +kernel) rfl
theorem ww_1027 : Cond.methodLink RX6 121 yX6_towerOf ∈ zBIG := zbig 1027 (by decide +kernel) rfl
theorem ww_1029 : Cond.instanceMethod yX6_towerOf ∈ zBIG := zbig 1029 (by decide +kernel) rfl
theorem ww_1030 : Cond.code yX6_towerOf cX6_towerOf 4 (some .int) ∈ zBIG := zbig 1030 (by decide +kernel) rfl
theorem ww_1031 : Cond.methodLink RX6 171 yX6_storeyOf ∈ zBIG := zbig 1031 (by decide +kernel) rfl
theorem ww_1033 : Cond.instanceMethod yX6_storeyOf ∈ zBIG := zbig 1033 (by decide +kernel) rfl
theorem ww_1034 : Cond.code yX6_storeyOf cX6_storeyOf 2 (some .int) ∈ zBIG := zbig 1034 (by decide +kernel) rfl
theorem ww_1035 : Cond.methodLink RX6 124 yX6_numberOf ∈ zBIG := zbig 1035 (by decide +kernel) rfl
theorem ww_1037 : Cond.instanceMethod yX6_numberOf ∈ zBIG := zbig 1037 (by decide +kernel) rfl
theorem ww_1038 : Cond.code yX6_numberOf cX6_numberOf 5 (some .int) ∈ zBIG := zbig 1038 (by decide +kernel) rfl
theorem ww_1039 : Cond.methodLink RX6 133 yX6_kindAt ∈ zBIG := zbig 1039 (by decide +kernel) rfl
theorem ww_1041 : Cond.instanceMethod yX6_kindAt ∈ zBIG := zbig 1041 (by decide +kernel) rfl
theorem ww_1042 : Cond.code yX6_kindAt cX6_kindAt 3 (some .int) ∈ zBIG := zbig 1042 (by decide +kernel) rfl
theorem ww_1043 : Cond.methodLink RX6 155 yX6_shader ∈ zBIG := zbig 1043 (by decide +kernel) rfl
theorem ww_1045 : Cond.instanceMethod yX6_shader ∈ zBIG := zbig 1045 (by decide +kernel) rfl
theorem ww_1046 : Cond.code yX6_shader cX6_shader 7 (some .int) ∈ zBIG := zbig 1046 (by decide +kernel) rfl
theorem ww_1047 : Cond.methodLink RX6 145 yX6_eastIn ∈ zBIG := zbig 1047 (by decide +kernel) rfl
theorem ww_1048 : Cond.static yX6_eastIn ∈ zBIG := zbig 1048 (by decide +kernel) rfl
theorem ww_1049 : Cond.code yX6_eastIn cX6_eastIn 1 (some .int) ∈ zBIG := zbig 1049 (by decide +kernel) rfl
theorem ww_1050 : Cond.methodLink RX6 148 yX6_upIn ∈ zBIG := zbig 1050 (by decide +kernel) rfl
theorem ww_1051 : Cond.static yX6_upIn ∈ zBIG := zbig 1051 (by decide +kernel) rfl
theorem ww_1052 : Cond.code yX6_upIn cX6_upIn 1 (some .int) ∈ zBIG := zbig 1052 (by decide +kernel) rfl
theorem ww_1053 : Cond.methodLink RX6 127 yX6_isGlass ∈ zBIG := zbig 1053 (by decide +kernel) rfl
theorem ww_1054 : Cond.static yX6_isGlass ∈ zBIG := zbig 1054 (by decide +kernel) rfl
theorem ww_1055 : Cond.code yX6_isGlass cX6_isGlass 1 (some .boolean) ∈ zBIG := zbig 1055 (by decide +kernel) rfl
theorem ww_1056 : Cond.methodLink RX6 198 yX6_houseTells ∈ zBIG := zbig 1056 (by decide +kernel) rfl
theorem ww_1058 : Cond.instanceMethod yX6_houseTells ∈ zBIG := zbig 1058 (by decide +kernel) rfl
theorem ww_1059 : Cond.code yX6_houseTells cX6_houseTells 5 (some .int) ∈ zBIG := zbig 1059 (by decide +kernel) rfl
theorem ww_1060 : Cond.methodLink RX6 142 yX6_bearsAt ∈ zBIG := zbig 1060 (by decide +kernel) rfl
theorem ww_1062 : Cond.instanceMethod yX6_bearsAt ∈ zBIG := zbig 1062 (by decide +kernel) rfl
theorem ww_1063 : Cond.code yX6_bearsAt cX6_bearsAt 3 (some .int) ∈ zBIG := zbig 1063 (by decide +kernel) rfl
theorem ww_1064 : Cond.methodLink RX6 139 yX6_weighsOn ∈ zBIG := zbig 1064 (by decide +kernel) rfl
theorem ww_1066 : Cond.instanceMethod yX6_weighsOn ∈ zBIG := zbig 1066 (by decide +kernel) rfl
theorem ww_1067 : Cond.code yX6_weighsOn cX6_weighsOn 5 (some .int) ∈ zBIG := zbig 1067 (by decide +kernel) rfl
theorem ww_1068 : Cond.methodLink RX6 136 yX6_weightIn ∈ zBIG := zbig 1068 (by decide +kernel) rfl
theorem ww_1070 : Cond.instanceMethod yX6_weightIn ∈ zBIG := zbig 1070 (by decide +kernel) rfl
theorem ww_1071 : Cond.code yX6_weightIn cX6_weightIn 4 (some .int) ∈ zBIG := zbig 1071 (by decide +kernel) rfl
theorem ww_1072 : Cond.methodLink RX6 130 yX6_isLeaning ∈ zBIG := zbig 1072 (by decide +kernel) rfl
theorem ww_1073 : Cond.static yX6_isLeaning ∈ zBIG := zbig 1073 (by decide +kernel) rfl
theorem ww_1074 : Cond.code yX6_isLeaning cX6_isLeaning 1 (some .boolean) ∈ zBIG := zbig 1074 (by decide +kernel) rfl
theorem ww_1075 : Cond.methodLink RX6 181 yX6_lightOf ∈ zBIG := zbig 1075 (by decide +kernel) rfl
theorem ww_1077 : Cond.instanceMethod yX6_lightOf ∈ zBIG := zbig 1077 (by decide +kernel) rfl
theorem ww_1078 : Cond.code yX6_lightOf cX6_lightOf 2 (some .int) ∈ zBIG := zbig 1078 (by decide +kernel) rfl
theorem ww_1079 : Cond.methodLink RX6 174 yX6_lightBy ∈ zBIG := zbig 1079 (by decide +kernel) rfl
theorem ww_1081 : Cond.instanceMethod yX6_lightBy ∈ zBIG := zbig 1081 (by decide +kernel) rfl
theorem ww_1082 : Cond.code yX6_lightBy cX6_lightBy 4 (some .int) ∈ zBIG := zbig 1082 (by decide +kernel) rfl
theorem ww_1083 : Cond.methodLink RX6 159 yX6_hoursOf ∈ zBIG := zbig 1083 (by decide +kernel) rfl
theorem ww_1085 : Cond.instanceMethod yX6_hoursOf ∈ zBIG := zbig 1085 (by decide +kernel) rfl
theorem ww_1086 : Cond.code yX6_hoursOf cX6_hoursOf 5 (some .int) ∈ zBIG := zbig 1086 (by decide +kernel) rfl
theorem ww_1087 : Cond.methodLink RX6 162 yX6_ones ∈ zBIG := zbig 1087 (by decide +kernel) rfl
theorem ww_1088 : Cond.static yX6_ones ∈ zBIG := zbig 1088 (by decide +kernel) rfl
theorem ww_1089 : Cond.code yX6_ones cX6_ones 3 (some .int) ∈ zBIG := zbig 1089 (by decide +kernel) rfl
theorem ww_1090 : Cond.methodLink RX6 165 yX6_lampsOver ∈ zBIG := zbig 1090 (by decide +kernel) rfl
theorem ww_1092 : Cond.instanceMethod yX6_lampsOver ∈ zBIG := zbig 1092 (by decide +kernel) rfl
theorem ww_1093 : Cond.code yX6_lampsOver cX6_lampsOver 5 (some .int) ∈ zBIG := zbig 1093 (by decide +kernel) rfl
theorem ww_1094 : Cond.methodLink RX6 168 yX6_lesser ∈ zBIG := zbig 1094 (by decide +kernel) rfl
theorem ww_1095 : Cond.static yX6_lesser ∈ zBIG := zbig 1095 (by decide +kernel) rfl
theorem ww_1096 : Cond.code yX6_lesser cX6_lesser 2 (some .int) ∈ zBIG := zbig 1096 (by decide +kernel) rfl
theorem ww_1097 : Cond.methodLink RX6 187 yX6_owesAll ∈ zBIG := zbig 1097 (by decide +kernel) rfl
theorem ww_1099 : Cond.instanceMethod yX6_owesAll ∈ zBIG := zbig 1099 (by decide +kernel) rfl
theorem ww_11 : Cond.selects RX5 yX5_hoursTakenIfHouse yX5_hoursTakenIfHouse ∈ zBIG := zbig 11 (by decide +kernel) rfl
theorem ww_1100 : Cond.code yX6_owesAll cX6_owesAll 4 (some .int) ∈ zBIG := zbig 1100 (by decide +kernel) rfl
theorem ww_1101 : Cond.methodLink RX6 190 yX6_owedAll ∈ zBIG := zbig 1101 (by decide +kernel) rfl
theorem ww_1103 : Cond.instanceMethod yX6_owedAll ∈ zBIG := zbig 1103 (by decide +kernel) rfl
theorem ww_1104 : Cond.code yX6_owedAll cX6_owedAll 4 (some .int) ∈ zBIG := zbig 1104 (by decide +kernel) rfl
theorem ww_1109 : Cond.methodLink RX6 205 yX6_isOf ∈ zBIG := zbig 1109 (by decide +kernel) rfl
theorem ww_1110 : Cond.static yX6_isOf ∈ zBIG := zbig 1110 (by decide +kernel) rfl
theorem ww_1111 : Cond.code yX6_isOf cX6_isOf 2 (some .boolean) ∈ zBIG := zbig 1111 (by decide +kernel) rfl
theorem ww_1112 : Cond.methodLink RX6 208 yX6_couldShade ∈ zBIG := zbig 1112 (by decide +kernel) rfl
theorem ww_1114 : Cond.instanceMethod yX6_couldShade ∈ zBIG := zbig 1114 (by decide +kernel) rfl
theorem ww_1115 : Cond.code yX6_couldShade cX6_couldShade 7 (some .int) ∈ zBIG := zbig 1115 (by decide +kernel) rfl
theorem ww_1116 : Cond.methodLink RX6 201 yX6_isOnWay ∈ zBIG := zbig 1116 (by decide +kernel) rfl
theorem ww_1117 : Cond.static yX6_isOnWay ∈ zBIG := zbig 1117 (by decide +kernel) rfl
theorem ww_1118 : Cond.code yX6_isOnWay cX6_isOnWay 7 (some .boolean) ∈ zBIG := zbig 1118 (by decide +kernel) rfl
theorem ww_1119 : Cond.methodLink RX6 211 yX6_lightened ∈ zBIG := zbig 1119 (by decide +kernel) rfl
theorem ww_1121 : Cond.instanceMethod yX6_lightened ∈ zBIG := zbig 1121 (by decide +kernel) rfl
theorem ww_1122 : Cond.code yX6_lightened cX6_lightened 5 (some .int) ∈ zBIG := zbig 1122 (by decide +kernel) rfl
theorem ww_1127 : Cond.constantLong RX6 214 (Int64.ofInt 9) ∈ zBIG := zbig 1127 (by decide +kernel) rfl
theorem ww_1132 : Cond.methodLink RX6 216 yX6_hasRoom ∈ zBIG := zbig 1132 (by decide +kernel) rfl
theorem ww_1134 : Cond.instanceMethod yX6_hasRoom ∈ zBIG := zbig 1134 (by decide +kernel) rfl
theorem ww_1135 : Cond.code yX6_hasRoom cX6_hasRoom 2 (some .boolean) ∈ zBIG := zbig 1135 (by decide +kernel) rfl
theorem ww_1136 : Cond.methodLink RX6 219 yX6_minds ∈ zBIG := zbig 1136 (by decide +kernel) rfl
theorem ww_1138 : Cond.instanceMethod yX6_minds ∈ zBIG := zbig 1138 (by decide +kernel) rfl
theorem ww_1139 : Cond.code yX6_minds cX6_minds 1 none ∈ zBIG := zbig 1139 (by decide +kernel) rfl
theorem ww_1144 : Cond.methodLink RX6 222 yX6_goes ∈ zBIG := zbig 1144 (by decide +kernel) rfl
theorem ww_1146 : Cond.instanceMethod yX6_goes ∈ zBIG := zbig 1146 (by decide +kernel) rfl
theorem ww_1147 : Cond.code yX6_goes cX6_goes 4 none ∈ zBIG := zbig 1147 (by decide +kernel) rfl
theorem ww_1156 : Cond.constantLong RX6 226 (Int64.ofInt 2) ∈ zBIG := zbig 1156 (by decide +kernel) rfl
theorem ww_1157 : Cond.methodLink RX6 228 yX6_isNone ∈ zBIG := zbig 1157 (by decide +kernel) rfl
theorem ww_1159 : Cond.instanceMethod yX6_isNone ∈ zBIG := zbig 1159 (by decide +kernel) rfl
theorem ww_1160 : Cond.code yX6_isNone cX6_isNone 1 (some .boolean) ∈ zBIG := zbig 1160 (by decide +kernel) rfl
theorem ww_1169 : Cond.constantLong RX6 232 (Int64.ofInt 4) ∈ zBIG := zbig 1169 (by decide +kernel) rfl
theorem ww_1178 : Cond.methodLink RX6 234 yX6_isHouse ∈ zBIG := zbig 1178 (by decide +kernel) rfl
theorem ww_1180 : Cond.instanceMethod yX6_isHouse ∈ zBIG := zbig 1180 (by decide +kernel) rfl
theorem ww_1181 : Cond.code yX6_isHouse cX6_isHouse 2 (some .boolean) ∈ zBIG := zbig 1181 (by decide +kernel) rfl
theorem ww_1190 : Cond.methodLink RX6 237 yX6_allLamps ∈ zBIG := zbig 1190 (by decide +kernel) rfl
theorem ww_1192 : Cond.instanceMethod yX6_allLamps ∈ zBIG := zbig 1192 (by decide +kernel) rfl
theorem ww_1193 : Cond.code yX6_allLamps cX6_allLamps 3 (some .int) ∈ zBIG := zbig 1193 (by decide +kernel) rfl
theorem ww_1194 : Cond.methodLink RX6 240 yX6_allLight ∈ zBIG := zbig 1194 (by decide +kernel) rfl
theorem ww_1196 : Cond.instanceMethod yX6_allLight ∈ zBIG := zbig 1196 (by decide +kernel) rfl
theorem ww_1197 : Cond.code yX6_allLight cX6_allLight 3 (some .int) ∈ zBIG := zbig 1197 (by decide +kernel) rfl
theorem ww_12 : Cond.selects RX5 yX5_lightenedBelow yX5_lightenedBelow ∈ zBIG := zbig 12 (by decide +kernel) rfl
theorem ww_1206 : Cond.methodLink RX6 246 yX6_swaying ∈ zBIG := zbig 1206 (by decide +kernel) rfl
theorem ww_1208 : Cond.instanceMethod yX6_swaying ∈ zBIG := zbig 1208 (by decide +kernel) rfl
theorem ww_1209 : Cond.code yX6_swaying cX6_swaying 4 (some .int) ∈ zBIG := zbig 1209 (by decide +kernel) rfl
theorem ww_1210 : Cond.methodLink RX6 249 yX6_firstOf ∈ zBIG := zbig 1210 (by decide +kernel) rfl
theorem ww_1212 : Cond.instanceMethod yX6_firstOf ∈ zBIG := zbig 1212 (by decide +kernel) rfl
theorem ww_1213 : Cond.code yX6_firstOf cX6_firstOf 3 (some .int) ∈ zBIG := zbig 1213 (by decide +kernel) rfl
theorem ww_1214 : Cond.methodLink RX6 243 yX6_has ∈ zBIG := zbig 1214 (by decide +kernel) rfl
theorem ww_1215 : Cond.static yX6_has ∈ zBIG := zbig 1215 (by decide +kernel) rfl
theorem ww_1216 : Cond.code yX6_has cX6_has 2 (some .boolean) ∈ zBIG := zbig 1216 (by decide +kernel) rfl
theorem ww_1221 : Cond.methodLink RX6 252 yX6_isKind ∈ zBIG := zbig 1221 (by decide +kernel) rfl
theorem ww_1222 : Cond.static yX6_isKind ∈ zBIG := zbig 1222 (by decide +kernel) rfl
theorem ww_1223 : Cond.code yX6_isKind cX6_isKind 1 (some .boolean) ∈ zBIG := zbig 1223 (by decide +kernel) rfl
theorem ww_1224 : Cond.constant RX6 255 (Int32.ofInt 1000000) ∈ zBIG := zbig 1224 (by decide +kernel) rfl
theorem ww_1225 : Cond.methodLink RX6 256 yX6_lays ∈ zBIG := zbig 1225 (by decide +kernel) rfl
theorem ww_1227 : Cond.instanceMethod yX6_lays ∈ zBIG := zbig 1227 (by decide +kernel) rfl
theorem ww_1228 : Cond.code yX6_lays cX6_lays 1 none ∈ zBIG := zbig 1228 (by decide +kernel) rfl
theorem ww_1229 : Cond.methodLink RX6 259 yX6_putsBack ∈ zBIG := zbig 1229 (by decide +kernel) rfl
theorem ww_123 : zfl RX1 18 1 0 ∈ zBIG := zbig 123 (by decide +kernel) rfl
theorem ww_1231 : Cond.instanceMethod yX6_putsBack ∈ zBIG := zbig 1231 (by decide +kernel) rfl
theorem ww_1232 : Cond.code yX6_putsBack cX6_putsBack 1 none ∈ zBIG := zbig 1232 (by decide +kernel) rfl
theorem ww_124 : zfl RX1 22 1 1 ∈ zBIG := zbig 124 (by decide +kernel) rfl
theorem ww_1241 : Cond.methodLink RX6 262 yX6_leaveAll ∈ zBIG := zbig 1241 (by decide +kernel) rfl
theorem ww_1243 : Cond.instanceMethod yX6_leaveAll ∈ zBIG := zbig 1243 (by decide +kernel) rfl
theorem ww_1244 : Cond.code yX6_leaveAll cX6_leaveAll 3 none ∈ zBIG := zbig 1244 (by decide +kernel) rfl
theorem ww_1249 : Cond.constant RX6 266 (Int32.ofInt (-1000000)) ∈ zBIG := zbig 1249 (by decide +kernel) rfl
theorem ww_125 : zfl RX1 9 1 2 ∈ zBIG := zbig 125 (by decide +kernel) rfl
theorem ww_126 : zfl RX1 15 1 3 ∈ zBIG := zbig 126 (by decide +kernel) rfl
theorem ww_1266 : Cond.methodLink RX6 270 yX6_isGame ∈ zBIG := zbig 1266 (by decide +kernel) rfl
theorem ww_1268 : Cond.instanceMethod yX6_isGame ∈ zBIG := zbig 1268 (by decide +kernel) rfl
theorem ww_1269 : Cond.code yX6_isGame cX6_isGame 3 (some .boolean) ∈ zBIG := zbig 1269 (by decide +kernel) rfl
theorem ww_1270 : Cond.methodLink RX6 273 yX6_winsBy ∈ zBIG := zbig 1270 (by decide +kernel) rfl
theorem ww_1272 : Cond.instanceMethod yX6_winsBy ∈ zBIG := zbig 1272 (by decide +kernel) rfl
theorem ww_1273 : Cond.code yX6_winsBy cX6_winsBy 6 (some .boolean) ∈ zBIG := zbig 1273 (by decide +kernel) rfl
theorem ww_1274 : Cond.methodLink RX6 267 yX6_isBuilt ∈ zBIG := zbig 1274 (by decide +kernel) rfl
theorem ww_1276 : Cond.instanceMethod yX6_isBuilt ∈ zBIG := zbig 1276 (by decide +kernel) rfl
theorem ww_1277 : Cond.code yX6_isBuilt cX6_isBuilt 4 (some .boolean) ∈ zBIG := zbig 1277 (by decide +kernel) rfl
theorem ww_1286 : Cond.methodLink RX6 276 yX6_isSeen ∈ zBIG := zbig 1286 (by decide +kernel) rfl
theorem ww_1288 : Cond.instanceMethod yX6_isSeen ∈ zBIG := zbig 1288 (by decide +kernel) rfl
theorem ww_1289 : Cond.code yX6_isSeen cX6_isSeen 5 (some .boolean) ∈ zBIG := zbig 1289 (by decide +kernel) rfl
theorem ww_13 : Cond.selects RX1 yX1_housesIn yX1_housesIn ∈ zBIG := zbig 13 (by decide +kernel) rfl
theorem ww_1302 : Cond.constantLong RX6 282 (Int64.ofInt 12) ∈ zBIG := zbig 1302 (by decide +kernel) rfl
theorem ww_1303 : Cond.constantLong RX6 284 (Int64.ofInt 2147483646) ∈ zBIG := zbig 1303 (by decide +kernel) rfl
theorem ww_1304 : Cond.constantLong RX6 286 (Int64.ofInt 48271) ∈ zBIG := zbig 1304 (by decide +kernel) rfl
theorem ww_1305 : Cond.constantLong RX6 288 (Int64.ofInt 2147483647) ∈ zBIG := zbig 1305 (by decide +kernel) rfl
theorem ww_1306 : Cond.constantLong RX6 290 (Int64.ofInt 8) ∈ zBIG := zbig 1306 (by decide +kernel) rfl
theorem ww_1307 : Cond.constantLong RX6 292 (Int64.ofInt 64) ∈ zBIG := zbig 1307 (by decide +kernel) rfl
theorem ww_1308 : Cond.constantLong RX6 294 (Int64.ofInt 10) ∈ zBIG := zbig 1308 (by decide +kernel) rfl
theorem ww_1322 : Cond.instanceMethod yX6_count ∈ zBIG := zbig 1322 (by decide +kernel) rfl
theorem ww_1323 : Cond.selects RX6 yX6_count yX6_count ∈ zBIG := zbig 1323 (by decide +kernel) rfl
theorem ww_1324 : Cond.code yX6_count cX6_count 2 (some .int) ∈ zBIG := zbig 1324 (by decide +kernel) rfl
theorem ww_1325 : Cond.methodLink RX6 296 yX6_highest ∈ zBIG := zbig 1325 (by decide +kernel) rfl
theorem ww_1327 : Cond.instanceMethod yX6_highest ∈ zBIG := zbig 1327 (by decide +kernel) rfl
theorem ww_1328 : Cond.code yX6_highest cX6_highest 3 (some .int) ∈ zBIG := zbig 1328 (by decide +kernel) rfl
theorem ww_1329 : Cond.methodLink RX6 299 yX6_kindsMany ∈ zBIG := zbig 1329 (by decide +kernel) rfl
theorem ww_1331 : Cond.instanceMethod yX6_kindsMany ∈ zBIG := zbig 1331 (by decide +kernel) rfl
theorem ww_1332 : Cond.code yX6_kindsMany cX6_kindsMany 5 (some .int) ∈ zBIG := zbig 1332 (by decide +kernel) rfl
theorem ww_1333 : Cond.methodLink RX6 303 yX6_thereOf ∈ zBIG := zbig 1333 (by decide +kernel) rfl
theorem ww_1334 : Cond.static yX6_thereOf ∈ zBIG := zbig 1334 (by decide +kernel) rfl
theorem ww_1335 : Cond.code yX6_thereOf cX6_thereOf 4 (some .int) ∈ zBIG := zbig 1335 (by decide +kernel) rfl
theorem ww_1348 : Cond.constantLong RX6 312 (Int64.ofInt 17) ∈ zBIG := zbig 1348 (by decide +kernel) rfl
theorem ww_1349 : Cond.methodLink RX6 314 yX6_count ∈ zBIG := zbig 1349 (by decide +kernel) rfl
theorem ww_1350 : Cond.methodLink RX6 317 yX6_mix ∈ zBIG := zbig 1350 (by decide +kernel) rfl
theorem ww_1352 : Cond.instanceMethod yX6_mix ∈ zBIG := zbig 1352 (by decide +kernel) rfl
theorem ww_1353 : Cond.code yX6_mix cX6_mix 3 none ∈ zBIG := zbig 1353 (by decide +kernel) rfl
theorem ww_1354 : Cond.constantLong RX6 307 (Int64.ofInt 31) ∈ zBIG := zbig 1354 (by decide +kernel) rfl
theorem ww_136 : zfl RX4 12 4 0 ∈ zBIG := zbig 136 (by decide +kernel) rfl
theorem ww_138 : zfl RX4 18 4 1 ∈ zBIG := zbig 138 (by decide +kernel) rfl
theorem ww_139 : zfl RX4 22 4 2 ∈ zBIG := zbig 139 (by decide +kernel) rfl
theorem ww_14 : Cond.selects RX5 yX5_lampsWhereSteady yX5_lampsWhereSteady ∈ zBIG := zbig 14 (by decide +kernel) rfl
theorem ww_15 : Cond.selects RX2 yX2_mostGroups yX2_mostGroups ∈ zBIG := zbig 15 (by decide +kernel) rfl
theorem ww_157 : zfl RX0 42 0 0 ∈ zBIG := zbig 157 (by decide +kernel) rfl
theorem ww_158 : zfl RX0 46 0 1 ∈ zBIG := zbig 158 (by decide +kernel) rfl
theorem ww_16 : Cond.selects RX0 yX0_owedBy yX0_owedBy ∈ zBIG := zbig 16 (by decide +kernel) rfl
theorem ww_160 : zfl RX0 9 0 2 ∈ zBIG := zbig 160 (by decide +kernel) rfl
theorem ww_161 : zfl RX0 15 0 3 ∈ zBIG := zbig 161 (by decide +kernel) rfl
theorem ww_162 : zfl RX0 18 0 4 ∈ zBIG := zbig 162 (by decide +kernel) rfl
theorem ww_163 : zfl RX0 21 0 5 ∈ zBIG := zbig 163 (by decide +kernel) rfl
theorem ww_164 : zfl RX0 24 0 6 ∈ zBIG := zbig 164 (by decide +kernel) rfl
theorem ww_165 : zfl RX0 27 0 7 ∈ zBIG := zbig 165 (by decide +kernel) rfl
theorem ww_17 : Cond.selects RX5 yX5_isLightAsIn yX5_isLightAsIn ∈ zBIG := zbig 17 (by decide +kernel) rfl
theorem ww_18 : Cond.selects RX5 yX5_keptCount yX5_keptCount ∈ zBIG := zbig 18 (by decide +kernel) rfl
theorem ww_189 : zfl RX2 18 2 0 ∈ zBIG := zbig 189 (by decide +kernel) rfl
theorem ww_19 : Cond.selects RX5 yX5_deedsKeptIn yX5_deedsKeptIn ∈ zBIG := zbig 19 (by decide +kernel) rfl
theorem ww_190 : zfl RX2 9 2 1 ∈ zBIG := zbig 190 (by decide +kernel) rfl
theorem ww_191 : zfl RX2 15 2 2 ∈ zBIG := zbig 191 (by decide +kernel) rfl
theorem ww_199 : zfl RX5 14 5 0 ∈ zBIG := zbig 199 (by decide +kernel) rfl
theorem ww_2 : Cond.selects RX5 yX5_forgetKept yX5_forgetKept ∈ zBIG := zbig 2 (by decide +kernel) rfl
theorem ww_20 : Cond.selects RX5 yX5_digestHouses yX5_digestHouses ∈ zBIG := zbig 20 (by decide +kernel) rfl
theorem ww_200 : zfl RX5 18 5 1 ∈ zBIG := zbig 200 (by decide +kernel) rfl
theorem ww_201 : zfl RX5 26 5 2 ∈ zBIG := zbig 201 (by decide +kernel) rfl
theorem ww_202 : zfl RX5 30 5 3 ∈ zBIG := zbig 202 (by decide +kernel) rfl
theorem ww_203 : zfl RX5 37 5 4 ∈ zBIG := zbig 203 (by decide +kernel) rfl
theorem ww_204 : zfl RX5 44 5 5 ∈ zBIG := zbig 204 (by decide +kernel) rfl
theorem ww_205 : zfl RX5 51 5 6 ∈ zBIG := zbig 205 (by decide +kernel) rfl
theorem ww_206 : zfl RX5 55 5 7 ∈ zBIG := zbig 206 (by decide +kernel) rfl
theorem ww_207 : zfl RX5 314 5 8 ∈ zBIG := zbig 207 (by decide +kernel) rfl
theorem ww_208 : zfl RX5 86 5 9 ∈ zBIG := zbig 208 (by decide +kernel) rfl
theorem ww_209 : zfl RX5 281 5 10 ∈ zBIG := zbig 209 (by decide +kernel) rfl
theorem ww_21 : Cond.selects RX6 yX6_found yX6_found ∈ zBIG := zbig 21 (by decide +kernel) rfl
theorem ww_210 : zfl RX5 59 5 11 ∈ zBIG := zbig 210 (by decide +kernel) rfl
theorem ww_22 : Cond.selects RX6 yX6_tells yX6_tells ∈ zBIG := zbig 22 (by decide +kernel) rfl
theorem ww_23 : Cond.selects RX6 yX6_faultOf yX6_faultOf ∈ zBIG := zbig 23 (by decide +kernel) rfl
theorem ww_24 : Cond.selects RX6 yX6_byteAt yX6_byteAt ∈ zBIG := zbig 24 (by decide +kernel) rfl
theorem ww_240 : Cond.methodLink RX5 63 yX3_knows ∈ zBIG := zbig 240 (by decide +kernel) rfl
theorem ww_241 : Cond.instanceMethod yX3_knows ∈ zBIG := zbig 241 (by decide +kernel) rfl
theorem ww_242 : Cond.selects RX3 yX3_knows yX3_knows ∈ zBIG := zbig 242 (by decide +kernel) rfl
theorem ww_243 : Cond.code yX3_knows cX3_knows 2 (some .boolean) ∈ zBIG := zbig 243 (by decide +kernel) rfl
theorem ww_244 : Cond.methodLink RX5 67 yX5_found ∈ zBIG := zbig 244 (by decide +kernel) rfl
theorem ww_246 : Cond.instanceMethod yX5_found ∈ zBIG := zbig 246 (by decide +kernel) rfl
theorem ww_247 : Cond.code yX5_found cX5_found 2 (some .int) ∈ zBIG := zbig 247 (by decide +kernel) rfl
theorem ww_248 : Cond.methodLink RX5 71 yX3_make ∈ zBIG := zbig 248 (by decide +kernel) rfl
theorem ww_249 : Cond.instanceMethod yX3_make ∈ zBIG := zbig 249 (by decide +kernel) rfl
theorem ww_25 : Cond.selects RX6 yX6_housesOf yX6_housesOf ∈ zBIG := zbig 25 (by decide +kernel) rfl
theorem ww_250 : Cond.selects RX3 yX3_make yX3_make ∈ zBIG := zbig 250 (by decide +kernel) rfl
theorem ww_251 : Cond.code yX3_make cX3_make 4 none ∈ zBIG := zbig 251 (by decide +kernel) rfl
theorem ww_252 : Cond.methodLink RX3 31 yX3_knows ∈ zBIG := zbig 252 (by decide +kernel) rfl
theorem ww_253 : Cond.methodLink RX3 43 yX3_set ∈ zBIG := zbig 253 (by decide +kernel) rfl
theorem ww_254 : Cond.instanceMethod yX3_set ∈ zBIG := zbig 254 (by decide +kernel) rfl
theorem ww_255 : Cond.selects RX3 yX3_set yX3_set ∈ zBIG := zbig 255 (by decide +kernel) rfl
theorem ww_256 : Cond.code yX3_set cX3_set 4 none ∈ zBIG := zbig 256 (by decide +kernel) rfl
theorem ww_257 : Cond.methodLink RX3 39 yX3_has ∈ zBIG := zbig 257 (by decide +kernel) rfl
theorem ww_258 : Cond.instanceMethod yX3_has ∈ zBIG := zbig 258 (by decide +kernel) rfl
theorem ww_259 : Cond.selects RX3 yX3_has yX3_has ∈ zBIG := zbig 259 (by decide +kernel) rfl
theorem ww_26 : Cond.selects RX6 yX6_adds yX6_adds ∈ zBIG := zbig 26 (by decide +kernel) rfl
theorem ww_260 : Cond.code yX3_has cX3_has 3 (some .boolean) ∈ zBIG := zbig 260 (by decide +kernel) rfl
theorem ww_261 : Cond.methodLink RX3 35 yX3_sizeOf ∈ zBIG := zbig 261 (by decide +kernel) rfl
theorem ww_262 : Cond.instanceMethod yX3_sizeOf ∈ zBIG := zbig 262 (by decide +kernel) rfl
theorem ww_263 : Cond.selects RX3 yX3_sizeOf yX3_sizeOf ∈ zBIG := zbig 263 (by decide +kernel) rfl
theorem ww_264 : Cond.code yX3_sizeOf cX3_sizeOf 2 (some .int) ∈ zBIG := zbig 264 (by decide +kernel) rfl
theorem ww_269 : Cond.methodLink RX5 75 yX3_isThere ∈ zBIG := zbig 269 (by decide +kernel) rfl
theorem ww_27 : Cond.selects RX6 yX6_copyAll yX6_copyAll ∈ zBIG := zbig 27 (by decide +kernel) rfl
theorem ww_270 : Cond.instanceMethod yX3_isThere ∈ zBIG := zbig 270 (by decide +kernel) rfl
theorem ww_271 : Cond.selects RX3 yX3_isThere yX3_isThere ∈ zBIG := zbig 271 (by decide +kernel) rfl
theorem ww_272 : Cond.code yX3_isThere cX3_isThere 2 (some .boolean) ∈ zBIG := zbig 272 (by decide +kernel) rfl
theorem ww_273 : Cond.methodLink RX5 78 yX3_has ∈ zBIG := zbig 273 (by decide +kernel) rfl
theorem ww_274 : Cond.methodLink RX5 82 yX3_get ∈ zBIG := zbig 274 (by decide +kernel) rfl
theorem ww_275 : Cond.instanceMethod yX3_get ∈ zBIG := zbig 275 (by decide +kernel) rfl
theorem ww_276 : Cond.selects RX3 yX3_get yX3_get ∈ zBIG := zbig 276 (by decide +kernel) rfl
theorem ww_277 : Cond.code yX3_get cX3_get 3 (some .int) ∈ zBIG := zbig 277 (by decide +kernel) rfl
theorem ww_278 : Cond.methodLink RX5 90 yX3_set ∈ zBIG := zbig 278 (by decide +kernel) rfl
theorem ww_28 : Cond.selects RX6 yX6_isTower yX6_isTower ∈ zBIG := zbig 28 (by decide +kernel) rfl
theorem ww_287 : Cond.methodLink RX5 93 yX3_drop ∈ zBIG := zbig 287 (by decide +kernel) rfl
theorem ww_288 : Cond.instanceMethod yX3_drop ∈ zBIG := zbig 288 (by decide +kernel) rfl
theorem ww_289 : Cond.selects RX3 yX3_drop yX3_drop ∈ zBIG := zbig 289 (by decide +kernel) rfl
theorem ww_29 : Cond.selects RX6 yX6_isTold yX6_isTold ∈ zBIG := zbig 29 (by decide +kernel) rfl
theorem ww_290 : Cond.code yX3_drop cX3_drop 2 none ∈ zBIG := zbig 290 (by decide +kernel) rfl
theorem ww_295 : Cond.methodLink RX5 96 yX3_hasSpan ∈ zBIG := zbig 295 (by decide +kernel) rfl
theorem ww_296 : Cond.instanceMethod yX3_hasSpan ∈ zBIG := zbig 296 (by decide +kernel) rfl
theorem ww_297 : Cond.selects RX3 yX3_hasSpan yX3_hasSpan ∈ zBIG := zbig 297 (by decide +kernel) rfl
theorem ww_298 : Cond.code yX3_hasSpan cX3_hasSpan 5 (some .boolean) ∈ zBIG := zbig 298 (by decide +kernel) rfl
theorem ww_299 : Cond.methodLink RX5 100 yX3_move ∈ zBIG := zbig 299 (by decide +kernel) rfl
theorem ww_3 : Cond.selects RX5 yX5_keptAt yX5_keptAt ∈ zBIG := zbig 3 (by decide +kernel) rfl
theorem ww_30 : Cond.selects RX6 yX6_isThere yX6_isThere ∈ zBIG := zbig 30 (by decide +kernel) rfl
theorem ww_300 : Cond.instanceMethod yX3_move ∈ zBIG := zbig 300 (by decide +kernel) rfl
theorem ww_301 : Cond.selects RX3 yX3_move yX3_move ∈ zBIG := zbig 301 (by decide +kernel) rfl
theorem ww_302 : Cond.code yX3_move cX3_move 6 none ∈ zBIG := zbig 302 (by decide +kernel) rfl
theorem ww_303 : Cond.methodLink RX3 47 yX3_hasSpan ∈ zBIG := zbig 303 (by decide +kernel) rfl
theorem ww_31 : Cond.selects RX6 yX6_layLamps yX6_layLamps ∈ zBIG := zbig 31 (by decide +kernel) rfl
theorem ww_311 : Cond.methodLink RX5 104 yX3_sizeOf ∈ zBIG := zbig 311 (by decide +kernel) rfl
theorem ww_312 : Cond.methodLink RX5 107 yX3_sumOf ∈ zBIG := zbig 312 (by decide +kernel) rfl
theorem ww_313 : Cond.instanceMethod yX3_sumOf ∈ zBIG := zbig 313 (by decide +kernel) rfl
theorem ww_314 : Cond.selects RX3 yX3_sumOf yX3_sumOf ∈ zBIG := zbig 314 (by decide +kernel) rfl
theorem ww_315 : Cond.code yX3_sumOf cX3_sumOf 5 (some .long) ∈ zBIG := zbig 315 (by decide +kernel) rfl
theorem ww_316 : Cond.methodLink RX3 57 yX3_get ∈ zBIG := zbig 316 (by decide +kernel) rfl
theorem ww_32 : Cond.selects RX6 yX6_houses yX6_houses ∈ zBIG := zbig 32 (by decide +kernel) rfl
theorem ww_329 : Cond.methodLink RX5 111 yX5_readAside ∈ zBIG := zbig 329 (by decide +kernel) rfl
theorem ww_33 : Cond.selects RX6 yX6_towerOf yX6_towerOf ∈ zBIG := zbig 33 (by decide +kernel) rfl
theorem ww_331 : Cond.instanceMethod yX5_readAside ∈ zBIG := zbig 331 (by decide +kernel) rfl
theorem ww_332 : Cond.code yX5_readAside cX5_readAside 8 (some .int) ∈ zBIG := zbig 332 (by decide +kernel) rfl
theorem ww_333 : Cond.methodLink RX5 337 yX1_clear ∈ zBIG := zbig 333 (by decide +kernel) rfl
theorem ww_334 : Cond.instanceMethod yX1_clear ∈ zBIG := zbig 334 (by decide +kernel) rfl
theorem ww_335 : Cond.selects RX1 yX1_clear yX1_clear ∈ zBIG := zbig 335 (by decide +kernel) rfl
theorem ww_336 : Cond.code yX1_clear cX1_clear 2 none ∈ zBIG := zbig 336 (by decide +kernel) rfl
theorem ww_337 : Cond.methodLink RX5 338 yX1_addTower ∈ zBIG := zbig 337 (by decide +kernel) rfl
theorem ww_338 : Cond.instanceMethod yX1_addTower ∈ zBIG := zbig 338 (by decide +kernel) rfl
theorem ww_339 : Cond.selects RX1 yX1_addTower yX1_addTower ∈ zBIG := zbig 339 (by decide +kernel) rfl
theorem ww_34 : Cond.selects RX6 yX6_storeyOf yX6_storeyOf ∈ zBIG := zbig 34 (by decide +kernel) rfl
theorem ww_340 : Cond.code yX1_addTower cX1_addTower 1 (some .boolean) ∈ zBIG := zbig 340 (by decide +kernel) rfl
theorem ww_341 : Cond.methodLink RX5 121 yX1_towerCount ∈ zBIG := zbig 341 (by decide +kernel) rfl
theorem ww_342 : Cond.instanceMethod yX1_towerCount ∈ zBIG := zbig 342 (by decide +kernel) rfl
theorem ww_343 : Cond.selects RX1 yX1_towerCount yX1_towerCount ∈ zBIG := zbig 343 (by decide +kernel) rfl
theorem ww_344 : Cond.code yX1_towerCount cX1_towerCount 1 (some .int) ∈ zBIG := zbig 344 (by decide +kernel) rfl
theorem ww_345 : Cond.methodLink RX5 341 yX5_kindOfLetter ∈ zBIG := zbig 345 (by decide +kernel) rfl
theorem ww_346 : Cond.static yX5_kindOfLetter ∈ zBIG := zbig 346 (by decide +kernel) rfl
theorem ww_347 : Cond.code yX5_kindOfLetter cX5_kindOfLetter 2 (some .int) ∈ zBIG := zbig 347 (by decide +kernel) rfl
theorem ww_348 : Cond.fieldLink RX5 334 "RoofLent" (zSN 0) "[I" ∈ zBIG := zbig 348 (by decide +kernel) rfl
theorem ww_35 : Cond.selects RX6 yX6_numberOf yX6_numberOf ∈ zBIG := zbig 35 (by decide +kernel) rfl
theorem ww_350 : Cond.methodLink RX5 167 yX1_hasRoom ∈ zBIG := zbig 350 (by decide +kernel) rfl
theorem ww_351 : Cond.instanceMethod yX1_hasRoom ∈ zBIG := zbig 351 (by decide +kernel) rfl
theorem ww_352 : Cond.selects RX1 yX1_hasRoom yX1_hasRoom ∈ zBIG := zbig 352 (by decide +kernel) rfl
theorem ww_353 : Cond.code yX1_hasRoom cX1_hasRoom 2 (some .boolean) ∈ zBIG := zbig 353 (by decide +kernel) rfl
theorem ww_354 : Cond.methodLink RX1 25 yX1_isTower ∈ zBIG := zbig 354 (by decide +kernel) rfl
theorem ww_355 : Cond.instanceMethod yX1_isTower ∈ zBIG := zbig 355 (by decide +kernel) rfl
theorem ww_356 : Cond.selects RX1 yX1_isTower yX1_isTower ∈ zBIG := zbig 356 (by decide +kernel) rfl
theorem ww_357 : Cond.code yX1_isTower cX1_isTower 2 (some .boolean) ∈ zBIG := zbig 357 (by decide +kernel) rfl
theorem ww_358 : Cond.methodLink RX1 29 yX1_heightOf ∈ zBIG := zbig 358 (by decide +kernel) rfl
theorem ww_359 : Cond.instanceMethod yX1_heightOf ∈ zBIG := zbig 359 (by decide +kernel) rfl
theorem ww_36 : Cond.selects RX6 yX6_kindAt yX6_kindAt ∈ zBIG := zbig 36 (by decide +kernel) rfl
theorem ww_360 : Cond.selects RX1 yX1_heightOf yX1_heightOf ∈ zBIG := zbig 360 (by decide +kernel) rfl
theorem ww_361 : Cond.code yX1_heightOf cX1_heightOf 2 (some .int) ∈ zBIG := zbig 361 (by decide +kernel) rfl
theorem ww_362 : Cond.methodLink RX5 157 yX5_isBorne ∈ zBIG := zbig 362 (by decide +kernel) rfl
theorem ww_363 : Cond.static yX5_isBorne ∈ zBIG := zbig 363 (by decide +kernel) rfl
theorem ww_364 : Cond.code yX5_isBorne cX5_isBorne 1 (some .boolean) ∈ zBIG := zbig 364 (by decide +kernel) rfl
theorem ww_365 : Cond.methodLink RX5 176 yX1_push ∈ zBIG := zbig 365 (by decide +kernel) rfl
theorem ww_366 : Cond.instanceMethod yX1_push ∈ zBIG := zbig 366 (by decide +kernel) rfl
theorem ww_367 : Cond.selects RX1 yX1_push yX1_push ∈ zBIG := zbig 367 (by decide +kernel) rfl
theorem ww_368 : Cond.code yX1_push cX1_push 4 (some .boolean) ∈ zBIG := zbig 368 (by decide +kernel) rfl
theorem ww_369 : Cond.methodLink RX1 37 yX1_hasRoom ∈ zBIG := zbig 369 (by decide +kernel) rfl
theorem ww_37 : Cond.selects RX6 yX6_shader yX6_shader ∈ zBIG := zbig 37 (by decide +kernel) rfl
theorem ww_370 : Cond.methodLink RX1 40 yX1_change ∈ zBIG := zbig 370 (by decide +kernel) rfl
theorem ww_371 : Cond.instanceMethod yX1_change ∈ zBIG := zbig 371 (by decide +kernel) rfl
theorem ww_372 : Cond.selects RX1 yX1_change yX1_change ∈ zBIG := zbig 372 (by decide +kernel) rfl
theorem ww_373 : Cond.code yX1_change cX1_change 5 none ∈ zBIG := zbig 373 (by decide +kernel) rfl
theorem ww_374 : Cond.methodLink RX1 33 yX1_has ∈ zBIG := zbig 374 (by decide +kernel) rfl
theorem ww_375 : Cond.instanceMethod yX1_has ∈ zBIG := zbig 375 (by decide +kernel) rfl
theorem ww_376 : Cond.selects RX1 yX1_has yX1_has ∈ zBIG := zbig 376 (by decide +kernel) rfl
theorem ww_377 : Cond.code yX1_has cX1_has 3 (some .boolean) ∈ zBIG := zbig 377 (by decide +kernel) rfl
theorem ww_38 : Cond.selects RX6 yX6_houseTells yX6_houseTells ∈ zBIG := zbig 38 (by decide +kernel) rfl
theorem ww_382 : Cond.methodLink RX5 114 yX4_startWith ∈ zBIG := zbig 382 (by decide +kernel) rfl
theorem ww_383 : Cond.instanceMethod yX4_startWith ∈ zBIG := zbig 383 (by decide +kernel) rfl
theorem ww_384 : Cond.selects RX4 yX4_startWith yX4_startWith ∈ zBIG := zbig 384 (by decide +kernel) rfl
theorem ww_385 : Cond.code yX4_startWith cX4_startWith 2 none ∈ zBIG := zbig 385 (by decide +kernel) rfl
theorem ww_386 : Cond.methodLink RX4 26 yX1_takeFrom ∈ zBIG := zbig 386 (by decide +kernel) rfl
theorem ww_387 : Cond.instanceMethod yX1_takeFrom ∈ zBIG := zbig 387 (by decide +kernel) rfl
theorem ww_388 : Cond.selects RX1 yX1_takeFrom yX1_takeFrom ∈ zBIG := zbig 388 (by decide +kernel) rfl
theorem ww_389 : Cond.code yX1_takeFrom cX1_takeFrom 2 none ∈ zBIG := zbig 389 (by decide +kernel) rfl
theorem ww_39 : Cond.selects RX6 yX6_bearsAt yX6_bearsAt ∈ zBIG := zbig 39 (by decide +kernel) rfl
theorem ww_390 : Cond.methodLink RX1 55 yX1_takeWithout ∈ zBIG := zbig 390 (by decide +kernel) rfl
theorem ww_391 : Cond.instanceMethod yX1_takeWithout ∈ zBIG := zbig 391 (by decide +kernel) rfl
theorem ww_392 : Cond.selects RX1 yX1_takeWithout yX1_takeWithout ∈ zBIG := zbig 392 (by decide +kernel) rfl
theorem ww_393 : Cond.code yX1_takeWithout cX1_takeWithout 6 none ∈ zBIG := zbig 393 (by decide +kernel) rfl
theorem ww_394 : Cond.methodLink RX1 59 yX1_clear ∈ zBIG := zbig 394 (by decide +kernel) rfl
theorem ww_395 : Cond.methodLink RX1 62 yX1_addTower ∈ zBIG := zbig 395 (by decide +kernel) rfl
theorem ww_396 : Cond.methodLink RX1 48 yX1_kindAt ∈ zBIG := zbig 396 (by decide +kernel) rfl
theorem ww_397 : Cond.instanceMethod yX1_kindAt ∈ zBIG := zbig 397 (by decide +kernel) rfl
theorem ww_398 : Cond.selects RX1 yX1_kindAt yX1_kindAt ∈ zBIG := zbig 398 (by decide +kernel) rfl
theorem ww_399 : Cond.code yX1_kindAt cX1_kindAt 3 (some .int) ∈ zBIG := zbig 399 (by decide +kernel) rfl
theorem ww_4 : Cond.selects RX5 yX5_isNoPlace yX5_isNoPlace ∈ zBIG := zbig 4 (by decide +kernel) rfl
theorem ww_40 : Cond.selects RX6 yX6_weighsOn yX6_weighsOn ∈ zBIG := zbig 40 (by decide +kernel) rfl
theorem ww_400 : Cond.methodLink RX1 52 yX1_borneAt ∈ zBIG := zbig 400 (by decide +kernel) rfl
theorem ww_401 : Cond.instanceMethod yX1_borneAt ∈ zBIG := zbig 401 (by decide +kernel) rfl
theorem ww_402 : Cond.selects RX1 yX1_borneAt yX1_borneAt ∈ zBIG := zbig 402 (by decide +kernel) rfl
theorem ww_403 : Cond.code yX1_borneAt cX1_borneAt 3 (some .int) ∈ zBIG := zbig 403 (by decide +kernel) rfl
theorem ww_404 : Cond.methodLink RX1 66 yX1_push ∈ zBIG := zbig 404 (by decide +kernel) rfl
theorem ww_405 : Cond.methodLink RX5 118 yX5_forgetKept ∈ zBIG := zbig 405 (by decide +kernel) rfl
theorem ww_407 : Cond.instanceMethod yX5_forgetKept ∈ zBIG := zbig 407 (by decide +kernel) rfl
theorem ww_408 : Cond.code yX5_forgetKept cX5_forgetKept 3 none ∈ zBIG := zbig 408 (by decide +kernel) rfl
theorem ww_409 : Cond.methodLink RX5 188 yX5_keptAt ∈ zBIG := zbig 409 (by decide +kernel) rfl
theorem ww_41 : Cond.selects RX6 yX6_weightIn yX6_weightIn ∈ zBIG := zbig 41 (by decide +kernel) rfl
theorem ww_411 : Cond.instanceMethod yX5_keptAt ∈ zBIG := zbig 411 (by decide +kernel) rfl
theorem ww_412 : Cond.code yX5_keptAt cX5_keptAt 2 (some (.object "RoofLent$Story")) ∈ zBIG := zbig 412 (by decide +kernel) rfl
theorem ww_413 : Cond.methodLink RX5 364 yX4_forget ∈ zBIG := zbig 413 (by decide +kernel) rfl
theorem ww_414 : Cond.instanceMethod yX4_forget ∈ zBIG := zbig 414 (by decide +kernel) rfl
theorem ww_415 : Cond.selects RX4 yX4_forget yX4_forget ∈ zBIG := zbig 415 (by decide +kernel) rfl
theorem ww_416 : Cond.code yX4_forget cX4_forget 1 none ∈ zBIG := zbig 416 (by decide +kernel) rfl
theorem ww_42 : Cond.selects RX6 yX6_lightOf yX6_lightOf ∈ zBIG := zbig 42 (by decide +kernel) rfl
theorem ww_421 : Cond.methodLink RX5 128 yX1_isTower ∈ zBIG := zbig 421 (by decide +kernel) rfl
theorem ww_422 : Cond.methodLink RX5 131 yX1_heightOf ∈ zBIG := zbig 422 (by decide +kernel) rfl
theorem ww_427 : Cond.methodLink RX5 134 yX5_isNoPlace ∈ zBIG := zbig 427 (by decide +kernel) rfl
theorem ww_429 : Cond.instanceMethod yX5_isNoPlace ∈ zBIG := zbig 429 (by decide +kernel) rfl
theorem ww_43 : Cond.selects RX6 yX6_lightBy yX6_lightBy ∈ zBIG := zbig 43 (by decide +kernel) rfl
theorem ww_430 : Cond.code yX5_isNoPlace cX5_isNoPlace 3 (some .boolean) ∈ zBIG := zbig 430 (by decide +kernel) rfl
theorem ww_431 : Cond.methodLink RX5 137 yX1_has ∈ zBIG := zbig 431 (by decide +kernel) rfl
theorem ww_432 : Cond.methodLink RX5 138 yX0_reckon ∈ zBIG := zbig 432 (by decide +kernel) rfl
theorem ww_433 : Cond.instanceMethod yX0_reckon ∈ zBIG := zbig 433 (by decide +kernel) rfl
theorem ww_434 : Cond.selects RX0 yX0_reckon yX0_reckon ∈ zBIG := zbig 434 (by decide +kernel) rfl
theorem ww_435 : Cond.code yX0_reckon cX0_reckon 5 none ∈ zBIG := zbig 435 (by decide +kernel) rfl
theorem ww_436 : Cond.methodLink RX0 30 yX1_houseCount ∈ zBIG := zbig 436 (by decide +kernel) rfl
theorem ww_437 : Cond.instanceMethod yX1_houseCount ∈ zBIG := zbig 437 (by decide +kernel) rfl
theorem ww_438 : Cond.selects RX1 yX1_houseCount yX1_houseCount ∈ zBIG := zbig 438 (by decide +kernel) rfl
theorem ww_439 : Cond.code yX1_houseCount cX1_houseCount 1 (some .int) ∈ zBIG := zbig 439 (by decide +kernel) rfl
theorem ww_44 : Cond.selects RX6 yX6_hoursOf yX6_hoursOf ∈ zBIG := zbig 44 (by decide +kernel) rfl
theorem ww_443 : Cond.methodLink RX0 49 yX1_towerCount ∈ zBIG := zbig 443 (by decide +kernel) rfl
theorem ww_444 : Cond.methodLink RX0 52 yX1_heightOf ∈ zBIG := zbig 444 (by decide +kernel) rfl
theorem ww_445 : Cond.methodLink RX0 56 yX0_reckonHouse ∈ zBIG := zbig 445 (by decide +kernel) rfl
theorem ww_447 : Cond.instanceMethod yX0_reckonHouse ∈ zBIG := zbig 447 (by decide +kernel) rfl
theorem ww_448 : Cond.code yX0_reckonHouse cX0_reckonHouse 8 none ∈ zBIG := zbig 448 (by decide +kernel) rfl
theorem ww_449 : Cond.methodLink RX0 60 yX0_isNumber ∈ zBIG := zbig 449 (by decide +kernel) rfl
theorem ww_45 : Cond.selects RX6 yX6_lampsOver yX6_lampsOver ∈ zBIG := zbig 45 (by decide +kernel) rfl
theorem ww_451 : Cond.instanceMethod yX0_isNumber ∈ zBIG := zbig 451 (by decide +kernel) rfl
theorem ww_452 : Cond.code yX0_isNumber cX0_isNumber 2 (some .boolean) ∈ zBIG := zbig 452 (by decide +kernel) rfl
theorem ww_453 : Cond.methodLink RX0 64 yX1_lampedAbove ∈ zBIG := zbig 453 (by decide +kernel) rfl
theorem ww_454 : Cond.instanceMethod yX1_lampedAbove ∈ zBIG := zbig 454 (by decide +kernel) rfl
theorem ww_455 : Cond.selects RX1 yX1_lampedAbove yX1_lampedAbove ∈ zBIG := zbig 455 (by decide +kernel) rfl
theorem ww_456 : Cond.code yX1_lampedAbove cX1_lampedAbove 5 (some .int) ∈ zBIG := zbig 456 (by decide +kernel) rfl
theorem ww_457 : Cond.methodLink RX0 67 yX1_kindAt ∈ zBIG := zbig 457 (by decide +kernel) rfl
theorem ww_458 : Cond.methodLink RX0 70 yX0_lampsAnHour ∈ zBIG := zbig 458 (by decide +kernel) rfl
theorem ww_459 : Cond.static yX0_lampsAnHour ∈ zBIG := zbig 459 (by decide +kernel) rfl
theorem ww_46 : Cond.selects RX6 yX6_owesAll yX6_owesAll ∈ zBIG := zbig 46 (by decide +kernel) rfl
theorem ww_460 : Cond.code yX0_lampsAnHour cX0_lampsAnHour 1 (some .int) ∈ zBIG := zbig 460 (by decide +kernel) rfl
theorem ww_461 : Cond.methodLink RX0 73 yX1_shaderOf ∈ zBIG := zbig 461 (by decide +kernel) rfl
theorem ww_462 : Cond.instanceMethod yX1_shaderOf ∈ zBIG := zbig 462 (by decide +kernel) rfl
theorem ww_463 : Cond.selects RX1 yX1_shaderOf yX1_shaderOf ∈ zBIG := zbig 463 (by decide +kernel) rfl
theorem ww_464 : Cond.code yX1_shaderOf cX1_shaderOf 7 (some .int) ∈ zBIG := zbig 464 (by decide +kernel) rfl
theorem ww_47 : Cond.selects RX6 yX6_owedAll yX6_owedAll ∈ zBIG := zbig 47 (by decide +kernel) rfl
theorem ww_470 : Cond.static yX5_isOf ∈ zBIG := zbig 470 (by decide +kernel) rfl
theorem ww_471 : Cond.code yX5_isOf cX5_isOf 2 (some .boolean) ∈ zBIG := zbig 471 (by decide +kernel) rfl
theorem ww_472 : Cond.methodLink RX1 105 yX1_numberOf ∈ zBIG := zbig 472 (by decide +kernel) rfl
theorem ww_473 : Cond.instanceMethod yX1_numberOf ∈ zBIG := zbig 473 (by decide +kernel) rfl
theorem ww_474 : Cond.selects RX1 yX1_numberOf yX1_numberOf ∈ zBIG := zbig 474 (by decide +kernel) rfl
theorem ww_475 : Cond.code yX1_numberOf cX1_numberOf 5 (some .int) ∈ zBIG := zbig 475 (by decide +kernel) rfl
theorem ww_476 : Cond.methodLink RX0 77 yX0_charge ∈ zBIG := zbig 476 (by decide +kernel) rfl
theorem ww_478 : Cond.instanceMethod yX0_charge ∈ zBIG := zbig 478 (by decide +kernel) rfl
theorem ww_479 : Cond.code yX0_charge cX0_charge 4 none ∈ zBIG := zbig 479 (by decide +kernel) rfl
theorem ww_48 : Cond.selects RX6 yX6_couldShade yX6_couldShade ∈ zBIG := zbig 48 (by decide +kernel) rfl
theorem ww_480 : Cond.methodLink RX5 141 yX5_toldOf ∈ zBIG := zbig 480 (by decide +kernel) rfl
theorem ww_482 : Cond.instanceMethod yX5_toldOf ∈ zBIG := zbig 482 (by decide +kernel) rfl
theorem ww_483 : Cond.code yX5_toldOf cX5_toldOf 5 (some .int) ∈ zBIG := zbig 483 (by decide +kernel) rfl
theorem ww_484 : Cond.methodLink RX5 232 yX1_numberOf ∈ zBIG := zbig 484 (by decide +kernel) rfl
theorem ww_485 : Cond.methodLink RX5 148 yX1_kindAt ∈ zBIG := zbig 485 (by decide +kernel) rfl
theorem ww_486 : Cond.methodLink RX5 160 yX1_borneAt ∈ zBIG := zbig 486 (by decide +kernel) rfl
theorem ww_487 : Cond.methodLink RX5 344 yX1_weightOn ∈ zBIG := zbig 487 (by decide +kernel) rfl
theorem ww_488 : Cond.instanceMethod yX1_weightOn ∈ zBIG := zbig 488 (by decide +kernel) rfl
theorem ww_489 : Cond.selects RX1 yX1_weightOn yX1_weightOn ∈ zBIG := zbig 489 (by decide +kernel) rfl
theorem ww_49 : Cond.selects RX6 yX6_lightened yX6_lightened ∈ zBIG := zbig 49 (by decide +kernel) rfl
theorem ww_490 : Cond.code yX1_weightOn cX1_weightOn 5 (some .int) ∈ zBIG := zbig 490 (by decide +kernel) rfl
theorem ww_491 : Cond.methodLink RX1 87 yX1_weightInOwnTower ∈ zBIG := zbig 491 (by decide +kernel) rfl
theorem ww_493 : Cond.instanceMethod yX1_weightInOwnTower ∈ zBIG := zbig 493 (by decide +kernel) rfl
theorem ww_494 : Cond.code yX1_weightInOwnTower cX1_weightInOwnTower 4 (some .int) ∈ zBIG := zbig 494 (by decide +kernel) rfl
theorem ww_497 : Cond.methodLink RX5 256 yX0_lightOf ∈ zBIG := zbig 497 (by decide +kernel) rfl
theorem ww_498 : Cond.instanceMethod yX0_lightOf ∈ zBIG := zbig 498 (by decide +kernel) rfl
theorem ww_499 : Cond.selects RX0 yX0_lightOf yX0_lightOf ∈ zBIG := zbig 499 (by decide +kernel) rfl
theorem ww_5 : Cond.selects RX0 yX0_reckonHouse yX0_reckonHouse ∈ zBIG := zbig 5 (by decide +kernel) rfl
theorem ww_50 : Cond.selects RX6 yX6_hasRoom yX6_hasRoom ∈ zBIG := zbig 50 (by decide +kernel) rfl
theorem ww_500 : Cond.code yX0_lightOf cX0_lightOf 2 (some .int) ∈ zBIG := zbig 500 (by decide +kernel) rfl
theorem ww_501 : Cond.methodLink RX0 87 yX0_lightIn ∈ zBIG := zbig 501 (by decide +kernel) rfl
theorem ww_502 : Cond.instanceMethod yX0_lightIn ∈ zBIG := zbig 502 (by decide +kernel) rfl
theorem ww_503 : Cond.selects RX0 yX0_lightIn yX0_lightIn ∈ zBIG := zbig 503 (by decide +kernel) rfl
theorem ww_504 : Cond.code yX0_lightIn cX0_lightIn 3 (some .int) ∈ zBIG := zbig 504 (by decide +kernel) rfl
theorem ww_505 : Cond.methodLink RX0 90 yJ6_bitCount_0f7a4 ∈ zBIG := zbig 505 (by decide +kernel) rfl
theorem ww_506 : Cond.static yJ6_bitCount_0f7a4 ∈ zBIG := zbig 506 (by decide +kernel) rfl
theorem ww_507 : Cond.code yJ6_bitCount_0f7a4 cJ6_bitCount_0f7a4 1 (some .int) ∈ zBIG := zbig 507 (by decide +kernel) rfl
theorem ww_508 : Cond.constant RJ6 265 (Int32.ofInt 1431655765) ∈ zBIG := zbig 508 (by decide +kernel) rfl
theorem ww_509 : Cond.constant RJ6 266 (Int32.ofInt 858993459) ∈ zBIG := zbig 509 (by decide +kernel) rfl
theorem ww_51 : Cond.selects RX6 yX6_minds yX6_minds ∈ zBIG := zbig 51 (by decide +kernel) rfl
theorem ww_510 : Cond.constant RJ6 267 (Int32.ofInt 252645135) ∈ zBIG := zbig 510 (by decide +kernel) rfl
theorem ww_511 : Cond.methodLink RX5 226 yX0_owingOf ∈ zBIG := zbig 511 (by decide +kernel) rfl
theorem ww_512 : Cond.instanceMethod yX0_owingOf ∈ zBIG := zbig 512 (by decide +kernel) rfl
theorem ww_513 : Cond.selects RX0 yX0_owingOf yX0_owingOf ∈ zBIG := zbig 513 (by decide +kernel) rfl
theorem ww_514 : Cond.code yX0_owingOf cX0_owingOf 2 (some .int) ∈ zBIG := zbig 514 (by decide +kernel) rfl
theorem ww_515 : Cond.methodLink RX5 347 yX0_owedOf ∈ zBIG := zbig 515 (by decide +kernel) rfl
theorem ww_516 : Cond.instanceMethod yX0_owedOf ∈ zBIG := zbig 516 (by decide +kernel) rfl
theorem ww_517 : Cond.selects RX0 yX0_owedOf yX0_owedOf ∈ zBIG := zbig 517 (by decide +kernel) rfl
theorem ww_518 : Cond.code yX0_owedOf cX0_owedOf 2 (some .int) ∈ zBIG := zbig 518 (by decide +kernel) rfl
theorem ww_52 : Cond.selects RX6 yX6_goes yX6_goes ∈ zBIG := zbig 52 (by decide +kernel) rfl
theorem ww_523 : Cond.methodLink RX5 145 yX5_isKind ∈ zBIG := zbig 523 (by decide +kernel) rfl
theorem ww_524 : Cond.static yX5_isKind ∈ zBIG := zbig 524 (by decide +kernel) rfl
theorem ww_525 : Cond.code yX5_isKind cX5_isKind 1 (some .boolean) ∈ zBIG := zbig 525 (by decide +kernel) rfl
theorem ww_526 : Cond.methodLink RX5 151 yX5_isOf ∈ zBIG := zbig 526 (by decide +kernel) rfl
theorem ww_527 : Cond.methodLink RX5 154 yX5_markOf ∈ zBIG := zbig 527 (by decide +kernel) rfl
theorem ww_529 : Cond.instanceMethod yX5_markOf ∈ zBIG := zbig 529 (by decide +kernel) rfl
theorem ww_53 : Cond.selects RX6 yX6_isNone yX6_isNone ∈ zBIG := zbig 53 (by decide +kernel) rfl
theorem ww_530 : Cond.code yX5_markOf cX5_markOf 4 (some .int) ∈ zBIG := zbig 530 (by decide +kernel) rfl
theorem ww_531 : Cond.methodLink RX5 350 yX5_hoursTakenIfHouse ∈ zBIG := zbig 531 (by decide +kernel) rfl
theorem ww_533 : Cond.instanceMethod yX5_hoursTakenIfHouse ∈ zBIG := zbig 533 (by decide +kernel) rfl
theorem ww_534 : Cond.code yX5_hoursTakenIfHouse cX5_hoursTakenIfHouse 4 (some .int) ∈ zBIG := zbig 534 (by decide +kernel) rfl
theorem ww_535 : Cond.methodLink RX5 361 yX5_hoursSeenInAll ∈ zBIG := zbig 535 (by decide +kernel) rfl
theorem ww_536 : Cond.static yX5_hoursSeenInAll ∈ zBIG := zbig 536 (by decide +kernel) rfl
theorem ww_537 : Cond.code yX5_hoursSeenInAll cX5_hoursSeenInAll 4 (some .int) ∈ zBIG := zbig 537 (by decide +kernel) rfl
theorem ww_538 : Cond.methodLink RX5 205 yX1_hoursSeen ∈ zBIG := zbig 538 (by decide +kernel) rfl
theorem ww_539 : Cond.instanceMethod yX1_hoursSeen ∈ zBIG := zbig 539 (by decide +kernel) rfl
theorem ww_54 : Cond.selects RX6 yX6_isHouse yX6_isHouse ∈ zBIG := zbig 54 (by decide +kernel) rfl
theorem ww_540 : Cond.selects RX1 yX1_hoursSeen yX1_hoursSeen ∈ zBIG := zbig 540 (by decide +kernel) rfl
theorem ww_541 : Cond.code yX1_hoursSeen cX1_hoursSeen 5 (some .int) ∈ zBIG := zbig 541 (by decide +kernel) rfl
theorem ww_542 : Cond.methodLink RX1 108 yX1_shaderOf ∈ zBIG := zbig 542 (by decide +kernel) rfl
theorem ww_543 : Cond.methodLink RX5 244 yJ6_bitCount_0f7a4 ∈ zBIG := zbig 543 (by decide +kernel) rfl
theorem ww_544 : Cond.methodLink RX5 235 yX1_takeFrom ∈ zBIG := zbig 544 (by decide +kernel) rfl
theorem ww_545 : Cond.methodLink RX5 163 yX1_change ∈ zBIG := zbig 545 (by decide +kernel) rfl
theorem ww_547 : Cond.methodLink RX5 358 yX5_lightenedBelow ∈ zBIG := zbig 547 (by decide +kernel) rfl
theorem ww_549 : Cond.instanceMethod yX5_lightenedBelow ∈ zBIG := zbig 549 (by decide +kernel) rfl
theorem ww_55 : Cond.selects RX6 yX6_allLamps yX6_allLamps ∈ zBIG := zbig 55 (by decide +kernel) rfl
theorem ww_550 : Cond.code yX5_lightenedBelow cX5_lightenedBelow 6 (some .int) ∈ zBIG := zbig 550 (by decide +kernel) rfl
theorem ww_551 : Cond.methodLink RX5 202 yX1_lampedAbove ∈ zBIG := zbig 551 (by decide +kernel) rfl
theorem ww_557 : Cond.instanceMethod yX5_build ∈ zBIG := zbig 557 (by decide +kernel) rfl
theorem ww_558 : Cond.selects RX5 yX5_build yX5_build ∈ zBIG := zbig 558 (by decide +kernel) rfl
theorem ww_559 : Cond.code yX5_build cX5_build 4 (some .int) ∈ zBIG := zbig 559 (by decide +kernel) rfl
theorem ww_56 : Cond.selects RX6 yX6_allLight yX6_allLight ∈ zBIG := zbig 56 (by decide +kernel) rfl
theorem ww_560 : Cond.methodLink RX5 170 yX4_hasRoomFor ∈ zBIG := zbig 560 (by decide +kernel) rfl
theorem ww_561 : Cond.instanceMethod yX4_hasRoomFor ∈ zBIG := zbig 561 (by decide +kernel) rfl
theorem ww_562 : Cond.selects RX4 yX4_hasRoomFor yX4_hasRoomFor ∈ zBIG := zbig 562 (by decide +kernel) rfl
theorem ww_563 : Cond.code yX4_hasRoomFor cX4_hasRoomFor 2 (some .boolean) ∈ zBIG := zbig 563 (by decide +kernel) rfl
theorem ww_564 : Cond.methodLink RX5 173 yX4_noteDeed ∈ zBIG := zbig 564 (by decide +kernel) rfl
theorem ww_565 : Cond.instanceMethod yX4_noteDeed ∈ zBIG := zbig 565 (by decide +kernel) rfl
theorem ww_566 : Cond.selects RX4 yX4_noteDeed yX4_noteDeed ∈ zBIG := zbig 566 (by decide +kernel) rfl
theorem ww_567 : Cond.code yX4_noteDeed cX4_noteDeed 1 none ∈ zBIG := zbig 567 (by decide +kernel) rfl
theorem ww_568 : Cond.methodLink RX4 30 yX4_hasRoomFor ∈ zBIG := zbig 568 (by decide +kernel) rfl
theorem ww_569 : Cond.methodLink RX4 34 yX1_saveTo ∈ zBIG := zbig 569 (by decide +kernel) rfl
theorem ww_57 : Cond.selects RX6 yX6_swaying yX6_swaying ∈ zBIG := zbig 57 (by decide +kernel) rfl
theorem ww_570 : Cond.instanceMethod yX1_saveTo ∈ zBIG := zbig 570 (by decide +kernel) rfl
theorem ww_571 : Cond.selects RX1 yX1_saveTo yX1_saveTo ∈ zBIG := zbig 571 (by decide +kernel) rfl
theorem ww_572 : Cond.code yX1_saveTo cX1_saveTo 3 none ∈ zBIG := zbig 572 (by decide +kernel) rfl
theorem ww_578 : Cond.methodLink RX5 179 yX1_remove ∈ zBIG := zbig 578 (by decide +kernel) rfl
theorem ww_579 : Cond.instanceMethod yX1_remove ∈ zBIG := zbig 579 (by decide +kernel) rfl
theorem ww_58 : Cond.selects RX6 yX6_firstOf yX6_firstOf ∈ zBIG := zbig 58 (by decide +kernel) rfl
theorem ww_580 : Cond.selects RX1 yX1_remove yX1_remove ∈ zBIG := zbig 580 (by decide +kernel) rfl
theorem ww_581 : Cond.code yX1_remove cX1_remove 5 none ∈ zBIG := zbig 581 (by decide +kernel) rfl
theorem ww_586 : Cond.methodLink RX5 185 yX4_goBackTo ∈ zBIG := zbig 586 (by decide +kernel) rfl
theorem ww_587 : Cond.instanceMethod yX4_goBackTo ∈ zBIG := zbig 587 (by decide +kernel) rfl
theorem ww_588 : Cond.selects RX4 yX4_goBackTo yX4_goBackTo ∈ zBIG := zbig 588 (by decide +kernel) rfl
theorem ww_589 : Cond.code yX4_goBackTo cX4_goBackTo 2 none ∈ zBIG := zbig 589 (by decide +kernel) rfl
theorem ww_59 : Cond.selects RX6 yX6_lays yX6_lays ∈ zBIG := zbig 59 (by decide +kernel) rfl
theorem ww_590 : Cond.methodLink RX4 38 yX1_loadFrom ∈ zBIG := zbig 590 (by decide +kernel) rfl
theorem ww_591 : Cond.instanceMethod yX1_loadFrom ∈ zBIG := zbig 591 (by decide +kernel) rfl
theorem ww_592 : Cond.selects RX1 yX1_loadFrom yX1_loadFrom ∈ zBIG := zbig 592 (by decide +kernel) rfl
theorem ww_593 : Cond.code yX1_loadFrom cX1_loadFrom 4 none ∈ zBIG := zbig 593 (by decide +kernel) rfl
theorem ww_594 : Cond.methodLink RX1 76 yX1_housesIn ∈ zBIG := zbig 594 (by decide +kernel) rfl
theorem ww_596 : Cond.instanceMethod yX1_housesIn ∈ zBIG := zbig 596 (by decide +kernel) rfl
theorem ww_597 : Cond.code yX1_housesIn cX1_housesIn 5 (some .int) ∈ zBIG := zbig 597 (by decide +kernel) rfl
theorem ww_6 : Cond.selects RX0 yX0_isNumber yX0_isNumber ∈ zBIG := zbig 6 (by decide +kernel) rfl
theorem ww_60 : Cond.selects RX6 yX6_putsBack yX6_putsBack ∈ zBIG := zbig 60 (by decide +kernel) rfl
theorem ww_602 : Cond.methodLink RX5 192 yX4_takeFrom ∈ zBIG := zbig 602 (by decide +kernel) rfl
theorem ww_603 : Cond.instanceMethod yX4_takeFrom ∈ zBIG := zbig 603 (by decide +kernel) rfl
theorem ww_604 : Cond.selects RX4 yX4_takeFrom yX4_takeFrom ∈ zBIG := zbig 604 (by decide +kernel) rfl
theorem ww_605 : Cond.code yX4_takeFrom cX4_takeFrom 2 none ∈ zBIG := zbig 605 (by decide +kernel) rfl
theorem ww_61 : Cond.selects RX6 yX6_leaveAll yX6_leaveAll ∈ zBIG := zbig 61 (by decide +kernel) rfl
theorem ww_611 : Cond.methodLink RX5 196 yX4_isThere ∈ zBIG := zbig 611 (by decide +kernel) rfl
theorem ww_612 : Cond.instanceMethod yX4_isThere ∈ zBIG := zbig 612 (by decide +kernel) rfl
theorem ww_613 : Cond.selects RX4 yX4_isThere yX4_isThere ∈ zBIG := zbig 613 (by decide +kernel) rfl
theorem ww_614 : Cond.code yX4_isThere cX4_isThere 1 (some .boolean) ∈ zBIG := zbig 614 (by decide +kernel) rfl
theorem ww_619 : Cond.methodLink RX5 199 yX1_shaderOf ∈ zBIG := zbig 619 (by decide +kernel) rfl
theorem ww_62 : Cond.selects RX6 yX6_isGame yX6_isGame ∈ zBIG := zbig 62 (by decide +kernel) rfl
theorem ww_628 : Cond.methodLink RX5 208 yX1_isNumber ∈ zBIG := zbig 628 (by decide +kernel) rfl
theorem ww_629 : Cond.instanceMethod yX1_isNumber ∈ zBIG := zbig 629 (by decide +kernel) rfl
theorem ww_63 : Cond.selects RX6 yX6_winsBy yX6_winsBy ∈ zBIG := zbig 63 (by decide +kernel) rfl
theorem ww_630 : Cond.selects RX1 yX1_isNumber yX1_isNumber ∈ zBIG := zbig 630 (by decide +kernel) rfl
theorem ww_631 : Cond.code yX1_isNumber cX1_isNumber 2 (some .boolean) ∈ zBIG := zbig 631 (by decide +kernel) rfl
theorem ww_632 : Cond.methodLink RX5 211 yX0_lampsFromTo ∈ zBIG := zbig 632 (by decide +kernel) rfl
theorem ww_633 : Cond.instanceMethod yX0_lampsFromTo ∈ zBIG := zbig 633 (by decide +kernel) rfl
theorem ww_634 : Cond.selects RX0 yX0_lampsFromTo yX0_lampsFromTo ∈ zBIG := zbig 634 (by decide +kernel) rfl
theorem ww_635 : Cond.code yX0_lampsFromTo cX0_lampsFromTo 3 (some .int) ∈ zBIG := zbig 635 (by decide +kernel) rfl
theorem ww_64 : Cond.selects RX6 yX6_isBuilt yX6_isBuilt ∈ zBIG := zbig 64 (by decide +kernel) rfl
theorem ww_640 : Cond.methodLink RX5 214 yX0_debtOf ∈ zBIG := zbig 640 (by decide +kernel) rfl
theorem ww_641 : Cond.instanceMethod yX0_debtOf ∈ zBIG := zbig 641 (by decide +kernel) rfl
theorem ww_642 : Cond.selects RX0 yX0_debtOf yX0_debtOf ∈ zBIG := zbig 642 (by decide +kernel) rfl
theorem ww_643 : Cond.code yX0_debtOf cX0_debtOf 2 (some .int) ∈ zBIG := zbig 643 (by decide +kernel) rfl
theorem ww_644 : Cond.methodLink RX0 81 yX0_owingOf ∈ zBIG := zbig 644 (by decide +kernel) rfl
theorem ww_645 : Cond.methodLink RX0 84 yX0_owedOf ∈ zBIG := zbig 645 (by decide +kernel) rfl
theorem ww_65 : Cond.selects RX6 yX6_isSeen yX6_isSeen ∈ zBIG := zbig 65 (by decide +kernel) rfl
theorem ww_650 : Cond.methodLink RX5 220 yX0_allLight ∈ zBIG := zbig 650 (by decide +kernel) rfl
theorem ww_651 : Cond.instanceMethod yX0_allLight ∈ zBIG := zbig 651 (by decide +kernel) rfl
theorem ww_652 : Cond.selects RX0 yX0_allLight yX0_allLight ∈ zBIG := zbig 652 (by decide +kernel) rfl
theorem ww_653 : Cond.code yX0_allLight cX0_allLight 3 (some .int) ∈ zBIG := zbig 653 (by decide +kernel) rfl
theorem ww_654 : Cond.methodLink RX0 95 yX0_lightOf ∈ zBIG := zbig 654 (by decide +kernel) rfl
theorem ww_659 : Cond.methodLink RX5 223 yX1_houseCount ∈ zBIG := zbig 659 (by decide +kernel) rfl
theorem ww_66 : Cond.selects RX6 yX6_highest yX6_highest ∈ zBIG := zbig 66 (by decide +kernel) rfl
theorem ww_664 : Cond.methodLink RX5 229 yX1_isSwaying ∈ zBIG := zbig 664 (by decide +kernel) rfl
theorem ww_665 : Cond.instanceMethod yX1_isSwaying ∈ zBIG := zbig 665 (by decide +kernel) rfl
theorem ww_666 : Cond.selects RX1 yX1_isSwaying yX1_isSwaying ∈ zBIG := zbig 666 (by decide +kernel) rfl
theorem ww_667 : Cond.code yX1_isSwaying cX1_isSwaying 3 (some .boolean) ∈ zBIG := zbig 667 (by decide +kernel) rfl
theorem ww_668 : Cond.methodLink RX1 93 yX1_weightOn ∈ zBIG := zbig 668 (by decide +kernel) rfl
theorem ww_67 : Cond.selects RX6 yX6_kindsMany yX6_kindsMany ∈ zBIG := zbig 67 (by decide +kernel) rfl
theorem ww_673 : Cond.methodLink RX5 237 yX5_lampsWhereSteady ∈ zBIG := zbig 673 (by decide +kernel) rfl
theorem ww_675 : Cond.instanceMethod yX5_lampsWhereSteady ∈ zBIG := zbig 675 (by decide +kernel) rfl
theorem ww_676 : Cond.code yX5_lampsWhereSteady cX5_lampsWhereSteady 2 (some .int) ∈ zBIG := zbig 676 (by decide +kernel) rfl
theorem ww_677 : Cond.methodLink RX5 253 yX1_isSteady ∈ zBIG := zbig 677 (by decide +kernel) rfl
theorem ww_678 : Cond.instanceMethod yX1_isSteady ∈ zBIG := zbig 678 (by decide +kernel) rfl
theorem ww_679 : Cond.selects RX1 yX1_isSteady yX1_isSteady ∈ zBIG := zbig 679 (by decide +kernel) rfl
theorem ww_68 : Cond.selects RX6 yX6_mix yX6_mix ∈ zBIG := zbig 68 (by decide +kernel) rfl
theorem ww_680 : Cond.code yX1_isSteady cX1_isSteady 3 (some .boolean) ∈ zBIG := zbig 680 (by decide +kernel) rfl
theorem ww_681 : Cond.methodLink RX1 96 yX1_isSwaying ∈ zBIG := zbig 681 (by decide +kernel) rfl
theorem ww_682 : Cond.methodLink RX5 241 yX1_pop ∈ zBIG := zbig 682 (by decide +kernel) rfl
theorem ww_683 : Cond.instanceMethod yX1_pop ∈ zBIG := zbig 683 (by decide +kernel) rfl
theorem ww_684 : Cond.selects RX1 yX1_pop yX1_pop ∈ zBIG := zbig 684 (by decide +kernel) rfl
theorem ww_685 : Cond.code yX1_pop cX1_pop 2 none ∈ zBIG := zbig 685 (by decide +kernel) rfl
theorem ww_686 : Cond.methodLink RX1 44 yX1_remove ∈ zBIG := zbig 686 (by decide +kernel) rfl
theorem ww_695 : Cond.methodLink RX5 249 yX1_takeWithout ∈ zBIG := zbig 695 (by decide +kernel) rfl
theorem ww_7 : Cond.selects RX0 yX0_charge yX0_charge ∈ zBIG := zbig 7 (by decide +kernel) rfl
theorem ww_70 : Cond.initialized RX5 ∈ zBIG := zbig 70 (by decide +kernel) rfl
theorem ww_708 : Cond.methodLink RX5 259 yX2_clear ∈ zBIG := zbig 708 (by decide +kernel) rfl
theorem ww_709 : Cond.instanceMethod yX2_clear ∈ zBIG := zbig 709 (by decide +kernel) rfl
theorem ww_71 : Cond.initialized RX3 ∈ zBIG := zbig 71 (by decide +kernel) rfl
theorem ww_710 : Cond.selects RX2 yX2_clear yX2_clear ∈ zBIG := zbig 710 (by decide +kernel) rfl
theorem ww_711 : Cond.code yX2_clear cX2_clear 1 none ∈ zBIG := zbig 711 (by decide +kernel) rfl
theorem ww_712 : Cond.methodLink RX5 262 yX2_add ∈ zBIG := zbig 712 (by decide +kernel) rfl
theorem ww_713 : Cond.instanceMethod yX2_add ∈ zBIG := zbig 713 (by decide +kernel) rfl
theorem ww_714 : Cond.selects RX2 yX2_add yX2_add ∈ zBIG := zbig 714 (by decide +kernel) rfl
theorem ww_715 : Cond.code yX2_add cX2_add 2 none ∈ zBIG := zbig 715 (by decide +kernel) rfl
theorem ww_716 : Cond.methodLink RX5 265 yX2_fewestPayments ∈ zBIG := zbig 716 (by decide +kernel) rfl
theorem ww_717 : Cond.instanceMethod yX2_fewestPayments ∈ zBIG := zbig 717 (by decide +kernel) rfl
theorem ww_718 : Cond.selects RX2 yX2_fewestPayments yX2_fewestPayments ∈ zBIG := zbig 718 (by decide +kernel) rfl
theorem ww_719 : Cond.code yX2_fewestPayments cX2_fewestPayments 3 (some .int) ∈ zBIG := zbig 719 (by decide +kernel) rfl
theorem ww_720 : Cond.methodLink RX2 22 yX2_mostGroups ∈ zBIG := zbig 720 (by decide +kernel) rfl
theorem ww_722 : Cond.instanceMethod yX2_mostGroups ∈ zBIG := zbig 722 (by decide +kernel) rfl
theorem ww_723 : Cond.code yX2_mostGroups cX2_mostGroups 6 (some .int) ∈ zBIG := zbig 723 (by decide +kernel) rfl
theorem ww_729 : Cond.methodLink RX5 268 yX0_mutualPairs ∈ zBIG := zbig 729 (by decide +kernel) rfl
theorem ww_73 : Cond.initialized RX4 ∈ zBIG := zbig 73 (by decide +kernel) rfl
theorem ww_730 : Cond.instanceMethod yX0_mutualPairs ∈ zBIG := zbig 730 (by decide +kernel) rfl
theorem ww_731 : Cond.selects RX0 yX0_mutualPairs yX0_mutualPairs ∈ zBIG := zbig 731 (by decide +kernel) rfl
theorem ww_732 : Cond.code yX0_mutualPairs cX0_mutualPairs 4 (some .int) ∈ zBIG := zbig 732 (by decide +kernel) rfl
theorem ww_733 : Cond.methodLink RX0 98 yX0_lampsFromTo ∈ zBIG := zbig 733 (by decide +kernel) rfl
theorem ww_734 : Cond.methodLink RX5 271 yX0_ringed ∈ zBIG := zbig 734 (by decide +kernel) rfl
theorem ww_735 : Cond.instanceMethod yX0_ringed ∈ zBIG := zbig 735 (by decide +kernel) rfl
theorem ww_736 : Cond.selects RX0 yX0_ringed yX0_ringed ∈ zBIG := zbig 736 (by decide +kernel) rfl
theorem ww_737 : Cond.code yX0_ringed cX0_ringed 3 (some .int) ∈ zBIG := zbig 737 (by decide +kernel) rfl
theorem ww_738 : Cond.methodLink RX0 101 yX0_owedBy ∈ zBIG := zbig 738 (by decide +kernel) rfl
theorem ww_74 : Cond.initialized RX1 ∈ zBIG := zbig 74 (by decide +kernel) rfl
theorem ww_740 : Cond.instanceMethod yX0_owedBy ∈ zBIG := zbig 740 (by decide +kernel) rfl
theorem ww_741 : Cond.code yX0_owedBy cX0_owedBy 4 (some .int) ∈ zBIG := zbig 741 (by decide +kernel) rfl
theorem ww_746 : Cond.methodLink RX5 274 yX5_winningTower ∈ zBIG := zbig 746 (by decide +kernel) rfl
theorem ww_747 : Cond.static yX5_winningTower ∈ zBIG := zbig 747 (by decide +kernel) rfl
theorem ww_748 : Cond.code yX5_winningTower cX5_winningTower 5 (some .int) ∈ zBIG := zbig 748 (by decide +kernel) rfl
theorem ww_75 : Cond.initialized RX0 ∈ zBIG := zbig 75 (by decide +kernel) rfl
theorem ww_757 : Cond.methodLink RX5 278 yX5_isLightAsIn ∈ zBIG := zbig 757 (by decide +kernel) rfl
theorem ww_759 : Cond.instanceMethod yX5_isLightAsIn ∈ zBIG := zbig 759 (by decide +kernel) rfl
theorem ww_76 : Cond.initialized RX2 ∈ zBIG := zbig 76 (by decide +kernel) rfl
theorem ww_760 : Cond.code yX5_isLightAsIn cX5_isLightAsIn 4 (some .boolean) ∈ zBIG := zbig 760 (by decide +kernel) rfl
theorem ww_761 : Cond.methodLink RX5 367 yX0_lightIn ∈ zBIG := zbig 761 (by decide +kernel) rfl
theorem ww_77 : Cond.initialized RX6 ∈ zBIG := zbig 77 (by decide +kernel) rfl
theorem ww_770 : Cond.constantLong RX5 284 (Int64.ofInt 5) ∈ zBIG := zbig 770 (by decide +kernel) rfl
theorem ww_775 : Cond.constant RX5 286 (Int32.ofInt 2147483647) ∈ zBIG := zbig 775 (by decide +kernel) rfl
theorem ww_776 : Cond.constantLong RX5 287 (Int64.ofInt 48271) ∈ zBIG := zbig 776 (by decide +kernel) rfl
theorem ww_777 : Cond.constantLong RX5 289 (Int64.ofInt 2147483647) ∈ zBIG := zbig 777 (by decide +kernel) rfl
theorem ww_778 : Cond.constantLong RX5 291 (Int64.ofInt 8) ∈ zBIG := zbig 778 (by decide +kernel) rfl
theorem ww_779 : Cond.constantLong RX5 293 (Int64.ofInt 6) ∈ zBIG := zbig 779 (by decide +kernel) rfl
theorem ww_780 : Cond.constantLong RX5 295 (Int64.ofInt 64) ∈ zBIG := zbig 780 (by decide +kernel) rfl
theorem ww_781 : Cond.constantLong RX5 297 (Int64.ofInt 10) ∈ zBIG := zbig 781 (by decide +kernel) rfl
theorem ww_782 : Cond.methodLink RX5 299 yX5_build ∈ zBIG := zbig 782 (by decide +kernel) rfl
theorem ww_79 : Cond.initialized RJ6 ∈ zBIG := zbig 79 (by decide +kernel) rfl
theorem ww_796 : Cond.instanceMethod yX5_count ∈ zBIG := zbig 796 (by decide +kernel) rfl
theorem ww_797 : Cond.selects RX5 yX5_count yX5_count ∈ zBIG := zbig 797 (by decide +kernel) rfl
theorem ww_798 : Cond.code yX5_count cX5_count 2 (some .int) ∈ zBIG := zbig 798 (by decide +kernel) rfl
theorem ww_799 : Cond.methodLink RX5 302 yX1_mostStoreys ∈ zBIG := zbig 799 (by decide +kernel) rfl
theorem ww_8 : Cond.selects RX5 yX5_toldOf yX5_toldOf ∈ zBIG := zbig 8 (by decide +kernel) rfl
theorem ww_800 : Cond.instanceMethod yX1_mostStoreys ∈ zBIG := zbig 800 (by decide +kernel) rfl
theorem ww_801 : Cond.selects RX1 yX1_mostStoreys yX1_mostStoreys ∈ zBIG := zbig 801 (by decide +kernel) rfl
theorem ww_802 : Cond.code yX1_mostStoreys cX1_mostStoreys 3 (some .int) ∈ zBIG := zbig 802 (by decide +kernel) rfl
theorem ww_804 : Cond.methodLink RX5 305 yX1_countOf ∈ zBIG := zbig 804 (by decide +kernel) rfl
theorem ww_805 : Cond.instanceMethod yX1_countOf ∈ zBIG := zbig 805 (by decide +kernel) rfl
theorem ww_806 : Cond.selects RX1 yX1_countOf yX1_countOf ∈ zBIG := zbig 806 (by decide +kernel) rfl
theorem ww_807 : Cond.code yX1_countOf cX1_countOf 5 (some .int) ∈ zBIG := zbig 807 (by decide +kernel) rfl
theorem ww_808 : Cond.methodLink RX5 308 yX3_thereCount ∈ zBIG := zbig 808 (by decide +kernel) rfl
theorem ww_809 : Cond.instanceMethod yX3_thereCount ∈ zBIG := zbig 809 (by decide +kernel) rfl
theorem ww_810 : Cond.selects RX3 yX3_thereCount yX3_thereCount ∈ zBIG := zbig 810 (by decide +kernel) rfl
theorem ww_811 : Cond.code yX3_thereCount cX3_thereCount 3 (some .int) ∈ zBIG := zbig 811 (by decide +kernel) rfl
theorem ww_812 : Cond.methodLink RX3 60 yX3_isThere ∈ zBIG := zbig 812 (by decide +kernel) rfl
theorem ww_813 : Cond.methodLink RX5 311 yX5_keptCount ∈ zBIG := zbig 813 (by decide +kernel) rfl
theorem ww_815 : Cond.instanceMethod yX5_keptCount ∈ zBIG := zbig 815 (by decide +kernel) rfl
theorem ww_816 : Cond.code yX5_keptCount cX5_keptCount 3 (some .int) ∈ zBIG := zbig 816 (by decide +kernel) rfl
theorem ww_817 : Cond.methodLink RX5 328 yX5_deedsKeptIn ∈ zBIG := zbig 817 (by decide +kernel) rfl
theorem ww_819 : Cond.instanceMethod yX5_deedsKeptIn ∈ zBIG := zbig 819 (by decide +kernel) rfl
theorem ww_820 : Cond.code yX5_deedsKeptIn cX5_deedsKeptIn 3 (some .int) ∈ zBIG := zbig 820 (by decide +kernel) rfl
theorem ww_833 : Cond.constantLong RX5 317 (Int64.ofInt 17) ∈ zBIG := zbig 833 (by decide +kernel) rfl
theorem ww_834 : Cond.constantLong RX5 319 (Int64.ofInt 31) ∈ zBIG := zbig 834 (by decide +kernel) rfl
theorem ww_835 : Cond.methodLink RX5 321 yX5_count ∈ zBIG := zbig 835 (by decide +kernel) rfl
theorem ww_836 : Cond.methodLink RX5 324 yX5_digestHouses ∈ zBIG := zbig 836 (by decide +kernel) rfl
theorem ww_838 : Cond.instanceMethod yX5_digestHouses ∈ zBIG := zbig 838 (by decide +kernel) rfl
theorem ww_839 : Cond.code yX5_digestHouses cX5_digestHouses 8 (some .long) ∈ zBIG := zbig 839 (by decide +kernel) rfl
theorem ww_840 : Cond.methodLink RX5 331 yX3_digestAll ∈ zBIG := zbig 840 (by decide +kernel) rfl
theorem ww_841 : Cond.instanceMethod yX3_digestAll ∈ zBIG := zbig 841 (by decide +kernel) rfl
theorem ww_842 : Cond.selects RX3 yX3_digestAll yX3_digestAll ∈ zBIG := zbig 842 (by decide +kernel) rfl
theorem ww_843 : Cond.code yX3_digestAll cX3_digestAll 7 (some .long) ∈ zBIG := zbig 843 (by decide +kernel) rfl
theorem ww_844 : Cond.constantLong RX3 63 (Int64.ofInt 31) ∈ zBIG := zbig 844 (by decide +kernel) rfl
theorem ww_851 : zfl RX6 7 6 0 ∈ zBIG := zbig 851 (by decide +kernel) rfl
theorem ww_852 : zfl RX6 115 6 1 ∈ zBIG := zbig 852 (by decide +kernel) rfl
theorem ww_853 : zfl RX6 13 6 2 ∈ zBIG := zbig 853 (by decide +kernel) rfl
theorem ww_854 : zfl RX6 16 6 3 ∈ zBIG := zbig 854 (by decide +kernel) rfl
theorem ww_855 : zfl RX6 19 6 4 ∈ zBIG := zbig 855 (by decide +kernel) rfl
theorem ww_856 : zfl RX6 22 6 5 ∈ zBIG := zbig 856 (by decide +kernel) rfl
theorem ww_857 : zfl RX6 25 6 6 ∈ zBIG := zbig 857 (by decide +kernel) rfl
theorem ww_858 : zfl RX6 28 6 7 ∈ zBIG := zbig 858 (by decide +kernel) rfl
theorem ww_859 : zfl RX6 54 6 8 ∈ zBIG := zbig 859 (by decide +kernel) rfl
theorem ww_860 : zfl RX6 31 6 9 ∈ zBIG := zbig 860 (by decide +kernel) rfl
theorem ww_861 : zfl RX6 58 6 10 ∈ zBIG := zbig 861 (by decide +kernel) rfl
theorem ww_862 : zfl RX6 279 6 11 ∈ zBIG := zbig 862 (by decide +kernel) rfl
theorem ww_863 : zfl RX6 34 6 12 ∈ zBIG := zbig 863 (by decide +kernel) rfl
theorem ww_864 : zfl RX6 38 6 13 ∈ zBIG := zbig 864 (by decide +kernel) rfl
theorem ww_865 : zfl RX6 41 6 14 ∈ zBIG := zbig 865 (by decide +kernel) rfl
theorem ww_866 : zfl RX6 44 6 15 ∈ zBIG := zbig 866 (by decide +kernel) rfl
theorem ww_867 : zfl RX6 47 6 16 ∈ zBIG := zbig 867 (by decide +kernel) rfl
theorem ww_868 : zfl RX6 50 6 17 ∈ zBIG := zbig 868 (by decide +kernel) rfl
theorem ww_869 : zfl RX6 309 6 18 ∈ zBIG := zbig 869 (by decide +kernel) rfl
theorem ww_9 : Cond.selects RX1 yX1_weightInOwnTower yX1_weightInOwnTower ∈ zBIG := zbig 9 (by decide +kernel) rfl
theorem ww_914 : Cond.methodLink RX6 69 yX6_isRow ∈ zBIG := zbig 914 (by decide +kernel) rfl
theorem ww_915 : Cond.static yX6_isRow ∈ zBIG := zbig 915 (by decide +kernel) rfl
theorem ww_916 : Cond.code yX6_isRow cX6_isRow 1 (some .boolean) ∈ zBIG := zbig 916 (by decide +kernel) rfl
theorem ww_917 : Cond.constantLong RX6 61 (Int64.ofInt 5) ∈ zBIG := zbig 917 (by decide +kernel) rfl
theorem ww_918 : Cond.methodLink RX6 63 yX6_in ∈ zBIG := zbig 918 (by decide +kernel) rfl
theorem ww_919 : Cond.static yX6_in ∈ zBIG := zbig 919 (by decide +kernel) rfl
theorem ww_920 : Cond.code yX6_in cX6_in 6 (some .boolean) ∈ zBIG := zbig 920 (by decide +kernel) rfl
theorem ww_921 : Cond.methodLink RX6 73 yX6_found ∈ zBIG := zbig 921 (by decide +kernel) rfl
theorem ww_923 : Cond.instanceMethod yX6_found ∈ zBIG := zbig 923 (by decide +kernel) rfl
theorem ww_924 : Cond.code yX6_found cX6_found 2 (some .int) ∈ zBIG := zbig 924 (by decide +kernel) rfl
theorem ww_929 : Cond.methodLink RX6 77 yX6_at ∈ zBIG := zbig 929 (by decide +kernel) rfl
theorem ww_930 : Cond.instanceMethod yX6_at ∈ zBIG := zbig 930 (by decide +kernel) rfl
theorem ww_931 : Cond.selects RX6 yX6_at yX6_at ∈ zBIG := zbig 931 (by decide +kernel) rfl
theorem ww_932 : Cond.code yX6_at cX6_at 3 (some .int) ∈ zBIG := zbig 932 (by decide +kernel) rfl
theorem ww_933 : Cond.methodLink RX6 81 yX6_tells ∈ zBIG := zbig 933 (by decide +kernel) rfl
theorem ww_935 : Cond.instanceMethod yX6_tells ∈ zBIG := zbig 935 (by decide +kernel) rfl
theorem ww_936 : Cond.code yX6_tells cX6_tells 3 (some .int) ∈ zBIG := zbig 936 (by decide +kernel) rfl
theorem ww_946 : Cond.methodLink RX6 84 yX6_fits ∈ zBIG := zbig 946 (by decide +kernel) rfl
theorem ww_947 : Cond.static yX6_fits ∈ zBIG := zbig 947 (by decide +kernel) rfl
theorem ww_948 : Cond.code yX6_fits cX6_fits 3 (some .boolean) ∈ zBIG := zbig 948 (by decide +kernel) rfl
theorem ww_957 : Cond.methodLink RX6 88 yX6_isText ∈ zBIG := zbig 957 (by decide +kernel) rfl
theorem ww_958 : Cond.static yX6_isText ∈ zBIG := zbig 958 (by decide +kernel) rfl
theorem ww_959 : Cond.code yX6_isText cX6_isText 1 (some .boolean) ∈ zBIG := zbig 959 (by decide +kernel) rfl
theorem ww_960 : Cond.constantLong RX6 67 (Int64.ofInt 3) ∈ zBIG := zbig 960 (by decide +kernel) rfl
theorem ww_969 : Cond.methodLink RX6 108 yX6_faultOf ∈ zBIG := zbig 969 (by decide +kernel) rfl
theorem ww_97 : zfl RX3 15 3 0 ∈ zBIG := zbig 97 (by decide +kernel) rfl
theorem ww_971 : Cond.instanceMethod yX6_faultOf ∈ zBIG := zbig 971 (by decide +kernel) rfl
theorem ww_972 : Cond.code yX6_faultOf cX6_faultOf 6 (some .int) ∈ zBIG := zbig 972 (by decide +kernel) rfl
theorem ww_973 : Cond.methodLink RX6 91 yX6_byteAt ∈ zBIG := zbig 973 (by decide +kernel) rfl
theorem ww_975 : Cond.instanceMethod yX6_byteAt ∈ zBIG := zbig 975 (by decide +kernel) rfl
theorem ww_976 : Cond.code yX6_byteAt cX6_byteAt 3 (some .int) ∈ zBIG := zbig 976 (by decide +kernel) rfl
theorem ww_977 : Cond.methodLink RX6 94 yX6_kindOf ∈ zBIG := zbig 977 (by decide +kernel) rfl
theorem ww_978 : Cond.static yX6_kindOf ∈ zBIG := zbig 978 (by decide +kernel) rfl
theorem ww_979 : Cond.code yX6_kindOf cX6_kindOf 1 (some .int) ∈ zBIG := zbig 979 (by decide +kernel) rfl
theorem ww_98 : zfl RX3 21 3 1 ∈ zBIG := zbig 98 (by decide +kernel) rfl
theorem ww_980 : Cond.methodLink RX6 97 yX6_housesOf ∈ zBIG := zbig 980 (by decide +kernel) rfl
theorem ww_982 : Cond.instanceMethod yX6_housesOf ∈ zBIG := zbig 982 (by decide +kernel) rfl
theorem ww_983 : Cond.code yX6_housesOf cX6_housesOf 4 (some .int) ∈ zBIG := zbig 983 (by decide +kernel) rfl
theorem ww_984 : Cond.constantLong RX6 100 (Int64.ofInt 48) ∈ zBIG := zbig 984 (by decide +kernel) rfl
theorem ww_985 : Cond.constantLong RX6 102 (Int64.ofInt 57) ∈ zBIG := zbig 985 (by decide +kernel) rfl
theorem ww_986 : Cond.methodLink RX6 104 yX6_adds ∈ zBIG := zbig 986 (by decide +kernel) rfl
theorem ww_988 : Cond.instanceMethod yX6_adds ∈ zBIG := zbig 988 (by decide +kernel) rfl
theorem ww_989 : Cond.code yX6_adds cX6_adds 6 none ∈ zBIG := zbig 989 (by decide +kernel) rfl
theorem ww_99 : zfl RX3 24 3 2 ∈ zBIG := zbig 99 (by decide +kernel) rfl
theorem ww_994 : Cond.methodLink RX6 111 yX6_copyAll ∈ zBIG := zbig 994 (by decide +kernel) rfl
theorem ww_996 : Cond.instanceMethod yX6_copyAll ∈ zBIG := zbig 996 (by decide +kernel) rfl
theorem ww_997 : Cond.code yX6_copyAll cX6_copyAll 5 none ∈ zBIG := zbig 997 (by decide +kernel) rfl
theorem zk_1_1 : zkid 1 1 (1, 5) = true := by decide +kernel
theorem zk_1_2 : zkid 1 2 (1, 30) = true := by decide +kernel
theorem zk_3_2 : zkid 3 2 (1, 240) = true := by decide +kernel
theorem zk_4_1 : zkid 4 1 (0, 1) = true := by decide +kernel
theorem zk_4_4 : zkid 4 4 (1, 1200) = true := by decide +kernel
theorem pl_J6 : plainName RJ6 = true := by decide +kernel
theorem pl_X0 : plainName RX0 = true := by decide +kernel
theorem pl_X1 : plainName RX1 = true := by decide +kernel
theorem pl_X2 : plainName RX2 = true := by decide +kernel
theorem pl_X3 : plainName RX3 = true := by decide +kernel
theorem pl_X4 : plainName RX4 = true := by decide +kernel
theorem pl_X5 : plainName RX5 = true := by decide +kernel
theorem pl_X6 : plainName RX6 = true := by decide +kernel
theorem zarr {o n : Nat} (h : zsh o = (1, n)) : zsh o = (1, (zsh o).2) := by
  rw [h]
theorem zW_lf {X : zX} {G : zG} {nL pc : Nat} {lv lw : List (Option zV)} {st : List zV} {μ : zM} (k : zW X G nL pc lv st μ) (h : zle lv lw) : zW X G nL pc lw st μ := zW_le h k
theorem zW_nr {X : zX} {G : zG} {nL pc : Nat} {lv : List (Option zV)} {st : List zV} {μ : zM} {q : Option Nat} {o : Nat} (hq : q = some o) (k : zW X G nL pc lv (zR o :: st) μ) : zW X G nL pc lv (zN q :: st) μ := by
  subst hq
  exact zW_NR k
