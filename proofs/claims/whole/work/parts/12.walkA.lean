/-! ===== the walks, printed by gen/walk.py ===== -/
theorem hd_X0_forgetAll : yX0_forgetAll.cls ≠ "java/lang/invoke/MethodHandle" ∧ yX0_forgetAll.cls ≠ "java/lang/invoke/VarHandle" ∧ (parseMethodDescriptor yX0_forgetAll.desc).map (fun d => d.parameters.length) = some 0 := by decide +kernel
theorem hd_X2_storeIn : yX2_storeIn.cls ≠ "java/lang/invoke/MethodHandle" ∧ yX2_storeIn.cls ≠ "java/lang/invoke/VarHandle" ∧ (parseMethodDescriptor yX2_storeIn.desc).map (fun d => d.parameters.length) = some 2 := by decide +kernel
theorem hd_X0_remember : yX0_remember.cls ≠ "java/lang/invoke/MethodHandle" ∧ yX0_remember.cls ≠ "java/lang/invoke/VarHandle" ∧ (parseMethodDescriptor yX0_remember.desc).map (fun d => d.parameters.length) = some 1 := by decide +kernel
theorem hd_X2_fetchFrom : yX2_fetchFrom.cls ≠ "java/lang/invoke/MethodHandle" ∧ yX2_fetchFrom.cls ≠ "java/lang/invoke/VarHandle" ∧ (parseMethodDescriptor yX2_fetchFrom.desc).map (fun d => d.parameters.length) = some 2 := by decide +kernel
theorem hd_X0_takeBack : yX0_takeBack.cls ≠ "java/lang/invoke/MethodHandle" ∧ yX0_takeBack.cls ≠ "java/lang/invoke/VarHandle" ∧ (parseMethodDescriptor yX0_takeBack.desc).map (fun d => d.parameters.length) = some 1 := by decide +kernel
theorem hd_X1_layOut : yX1_layOut.cls ≠ "java/lang/invoke/MethodHandle" ∧ yX1_layOut.cls ≠ "java/lang/invoke/VarHandle" ∧ (parseMethodDescriptor yX1_layOut.desc).map (fun d => d.parameters.length) = some 1 := by decide +kernel
theorem hd_X1_addLegger : yX1_addLegger.cls ≠ "java/lang/invoke/MethodHandle" ∧ yX1_addLegger.cls ≠ "java/lang/invoke/VarHandle" ∧ (parseMethodDescriptor yX1_addLegger.desc).map (fun d => d.parameters.length) = some 1 := by decide +kernel
theorem hd_X1_addBoat : yX1_addBoat.cls ≠ "java/lang/invoke/MethodHandle" ∧ yX1_addBoat.cls ≠ "java/lang/invoke/VarHandle" ∧ (parseMethodDescriptor yX1_addBoat.desc).map (fun d => d.parameters.length) = some 1 := by decide +kernel
theorem hd_X1_hasLegger : yX1_hasLegger.cls ≠ "java/lang/invoke/MethodHandle" ∧ yX1_hasLegger.cls ≠ "java/lang/invoke/VarHandle" ∧ (parseMethodDescriptor yX1_hasLegger.desc).map (fun d => d.parameters.length) = some 1 := by decide +kernel
theorem hd_X1_hasBoat : yX1_hasBoat.cls ≠ "java/lang/invoke/MethodHandle" ∧ yX1_hasBoat.cls ≠ "java/lang/invoke/VarHandle" ∧ (parseMethodDescriptor yX1_hasBoat.desc).map (fun d => d.parameters.length) = some 1 := by decide +kernel
theorem hd_X1_allLeggers : yX1_allLeggers.cls ≠ "java/lang/invoke/MethodHandle" ∧ yX1_allLeggers.cls ≠ "java/lang/invoke/VarHandle" ∧ (parseMethodDescriptor yX1_allLeggers.desc).map (fun d => d.parameters.length) = some 0 := by decide +kernel
theorem hd_X1_allBoats : yX1_allBoats.cls ≠ "java/lang/invoke/MethodHandle" ∧ yX1_allBoats.cls ≠ "java/lang/invoke/VarHandle" ∧ (parseMethodDescriptor yX1_allBoats.desc).map (fun d => d.parameters.length) = some 0 := by decide +kernel
theorem hd_X1_kindOf : yX1_kindOf.cls ≠ "java/lang/invoke/MethodHandle" ∧ yX1_kindOf.cls ≠ "java/lang/invoke/VarHandle" ∧ (parseMethodDescriptor yX1_kindOf.desc).map (fun d => d.parameters.length) = some 1 := by decide +kernel
theorem hd_X1_loadOf : yX1_loadOf.cls ≠ "java/lang/invoke/MethodHandle" ∧ yX1_loadOf.cls ≠ "java/lang/invoke/VarHandle" ∧ (parseMethodDescriptor yX1_loadOf.desc).map (fun d => d.parameters.length) = some 1 := by decide +kernel
theorem hd_X2_clear : yX2_clear.cls ≠ "java/lang/invoke/MethodHandle" ∧ yX2_clear.cls ≠ "java/lang/invoke/VarHandle" ∧ (parseMethodDescriptor yX2_clear.desc).map (fun d => d.parameters.length) = some 0 := by decide +kernel
theorem hd_X4_groundIn : yX4_groundIn.cls ≠ "java/lang/invoke/MethodHandle" ∧ yX4_groundIn.cls ≠ "java/lang/invoke/VarHandle" ∧ (parseMethodDescriptor yX4_groundIn.desc).map (fun d => d.parameters.length) = some 2 := by decide +kernel
theorem hd_X2_groundAt : yX2_groundAt.cls ≠ "java/lang/invoke/MethodHandle" ∧ yX2_groundAt.cls ≠ "java/lang/invoke/VarHandle" ∧ (parseMethodDescriptor yX2_groundAt.desc).map (fun d => d.parameters.length) = some 2 := by decide +kernel
theorem hd_X2_cover : yX2_cover.cls ≠ "java/lang/invoke/MethodHandle" ∧ yX2_cover.cls ≠ "java/lang/invoke/VarHandle" ∧ (parseMethodDescriptor yX2_cover.desc).map (fun d => d.parameters.length) = some 3 := by decide +kernel
theorem hd_X2_wetPlaces : yX2_wetPlaces.cls ≠ "java/lang/invoke/MethodHandle" ∧ yX2_wetPlaces.cls ≠ "java/lang/invoke/VarHandle" ∧ (parseMethodDescriptor yX2_wetPlaces.desc).map (fun d => d.parameters.length) = some 1 := by decide +kernel
theorem hd_X3_append : yX3_append.cls ≠ "java/lang/invoke/MethodHandle" ∧ yX3_append.cls ≠ "java/lang/invoke/VarHandle" ∧ (parseMethodDescriptor yX3_append.desc).map (fun d => d.parameters.length) = some 1 := by decide +kernel
theorem hd_X3_letterAt : yX3_letterAt.cls ≠ "java/lang/invoke/MethodHandle" ∧ yX3_letterAt.cls ≠ "java/lang/invoke/VarHandle" ∧ (parseMethodDescriptor yX3_letterAt.desc).map (fun d => d.parameters.length) = some 1 := by decide +kernel
theorem hd_X3_figureAt : yX3_figureAt.cls ≠ "java/lang/invoke/MethodHandle" ∧ yX3_figureAt.cls ≠ "java/lang/invoke/VarHandle" ∧ (parseMethodDescriptor yX3_figureAt.desc).map (fun d => d.parameters.length) = some 1 := by decide +kernel
theorem hd_X3_firstFault : yX3_firstFault.cls ≠ "java/lang/invoke/MethodHandle" ∧ yX3_firstFault.cls ≠ "java/lang/invoke/VarHandle" ∧ (parseMethodDescriptor yX3_firstFault.desc).map (fun d => d.parameters.length) = some 0 := by decide +kernel
theorem hd_X4_write : yX4_write.cls ≠ "java/lang/invoke/MethodHandle" ∧ yX4_write.cls ≠ "java/lang/invoke/VarHandle" ∧ (parseMethodDescriptor yX4_write.desc).map (fun d => d.parameters.length) = some 1 := by decide +kernel
theorem hd_X4_wipe : yX4_wipe.cls ≠ "java/lang/invoke/MethodHandle" ∧ yX4_wipe.cls ≠ "java/lang/invoke/VarHandle" ∧ (parseMethodDescriptor yX4_wipe.desc).map (fun d => d.parameters.length) = some 0 := by decide +kernel
theorem hd_X4_fault : yX4_fault.cls ≠ "java/lang/invoke/MethodHandle" ∧ yX4_fault.cls ≠ "java/lang/invoke/VarHandle" ∧ (parseMethodDescriptor yX4_fault.desc).map (fun d => d.parameters.length) = some 0 := by decide +kernel
theorem hd_X4_readTunnel : yX4_readTunnel.cls ≠ "java/lang/invoke/MethodHandle" ∧ yX4_readTunnel.cls ≠ "java/lang/invoke/VarHandle" ∧ (parseMethodDescriptor yX4_readTunnel.desc).map (fun d => d.parameters.length) = some 0 := by decide +kernel
theorem hd_X4_tunnel : yX4_tunnel.cls ≠ "java/lang/invoke/MethodHandle" ∧ yX4_tunnel.cls ≠ "java/lang/invoke/VarHandle" ∧ (parseMethodDescriptor yX4_tunnel.desc).map (fun d => d.parameters.length) = some 0 := by decide +kernel
theorem hd_X4_about : yX4_about.cls ≠ "java/lang/invoke/MethodHandle" ∧ yX4_about.cls ≠ "java/lang/invoke/VarHandle" ∧ (parseMethodDescriptor yX4_about.desc).map (fun d => d.parameters.length) = some 1 := by decide +kernel
theorem hd_X4_isPlace : yX4_isPlace.cls ≠ "java/lang/invoke/MethodHandle" ∧ yX4_isPlace.cls ≠ "java/lang/invoke/VarHandle" ∧ (parseMethodDescriptor yX4_isPlace.desc).map (fun d => d.parameters.length) = some 1 := by decide +kernel
theorem hd_X4_timesTired : yX4_timesTired.cls ≠ "java/lang/invoke/MethodHandle" ∧ yX4_timesTired.cls ≠ "java/lang/invoke/VarHandle" ∧ (parseMethodDescriptor yX4_timesTired.desc).map (fun d => d.parameters.length) = some 2 := by decide +kernel
theorem hd_X4_legger : yX4_legger.cls ≠ "java/lang/invoke/MethodHandle" ∧ yX4_legger.cls ≠ "java/lang/invoke/VarHandle" ∧ (parseMethodDescriptor yX4_legger.desc).map (fun d => d.parameters.length) = some 2 := by decide +kernel
theorem hd_X4_load : yX4_load.cls ≠ "java/lang/invoke/MethodHandle" ∧ yX4_load.cls ≠ "java/lang/invoke/VarHandle" ∧ (parseMethodDescriptor yX4_load.desc).map (fun d => d.parameters.length) = some 1 := by decide +kernel
theorem hd_X4_pairRefusal : yX4_pairRefusal.cls ≠ "java/lang/invoke/MethodHandle" ∧ yX4_pairRefusal.cls ≠ "java/lang/invoke/VarHandle" ∧ (parseMethodDescriptor yX4_pairRefusal.desc).map (fun d => d.parameters.length) = some 3 := by decide +kernel
theorem hd_X4_isIn : yX4_isIn.cls ≠ "java/lang/invoke/MethodHandle" ∧ yX4_isIn.cls ≠ "java/lang/invoke/VarHandle" ∧ (parseMethodDescriptor yX4_isIn.desc).map (fun d => d.parameters.length) = some 2 := by decide +kernel
theorem hd_X4_minutesOver : yX4_minutesOver.cls ≠ "java/lang/invoke/MethodHandle" ∧ yX4_minutesOver.cls ≠ "java/lang/invoke/VarHandle" ∧ (parseMethodDescriptor yX4_minutesOver.desc).map (fun d => d.parameters.length) = some 1 := by decide +kernel
theorem hd_X4_stepMinutes : yX4_stepMinutes.cls ≠ "java/lang/invoke/MethodHandle" ∧ yX4_stepMinutes.cls ≠ "java/lang/invoke/VarHandle" ∧ (parseMethodDescriptor yX4_stepMinutes.desc).map (fun d => d.parameters.length) = some 4 := by decide +kernel
theorem hd_X4_placeBehind : yX4_placeBehind.cls ≠ "java/lang/invoke/MethodHandle" ∧ yX4_placeBehind.cls ≠ "java/lang/invoke/VarHandle" ∧ (parseMethodDescriptor yX4_placeBehind.desc).map (fun d => d.parameters.length) = some 2 := by decide +kernel
theorem hd_X4_pairMinutes : yX4_pairMinutes.cls ≠ "java/lang/invoke/MethodHandle" ∧ yX4_pairMinutes.cls ≠ "java/lang/invoke/VarHandle" ∧ (parseMethodDescriptor yX4_pairMinutes.desc).map (fun d => d.parameters.length) = some 5 := by decide +kernel
theorem hd_X4_tireOne : yX4_tireOne.cls ≠ "java/lang/invoke/MethodHandle" ∧ yX4_tireOne.cls ≠ "java/lang/invoke/VarHandle" ∧ (parseMethodDescriptor yX4_tireOne.desc).map (fun d => d.parameters.length) = some 2 := by decide +kernel
theorem hd_X4_tireBoth : yX4_tireBoth.cls ≠ "java/lang/invoke/MethodHandle" ∧ yX4_tireBoth.cls ≠ "java/lang/invoke/VarHandle" ∧ (parseMethodDescriptor yX4_tireBoth.desc).map (fun d => d.parameters.length) = some 3 := by decide +kernel
theorem hd_X4_leg : yX4_leg.cls ≠ "java/lang/invoke/MethodHandle" ∧ yX4_leg.cls ≠ "java/lang/invoke/VarHandle" ∧ (parseMethodDescriptor yX4_leg.desc).map (fun d => d.parameters.length) = some 3 := by decide +kernel
theorem hd_X4_rest : yX4_rest.cls ≠ "java/lang/invoke/MethodHandle" ∧ yX4_rest.cls ≠ "java/lang/invoke/VarHandle" ∧ (parseMethodDescriptor yX4_rest.desc).map (fun d => d.parameters.length) = some 1 := by decide +kernel
theorem hd_X4_placeRefusal : yX4_placeRefusal.cls ≠ "java/lang/invoke/MethodHandle" ∧ yX4_placeRefusal.cls ≠ "java/lang/invoke/VarHandle" ∧ (parseMethodDescriptor yX4_placeRefusal.desc).map (fun d => d.parameters.length) = some 2 := by decide +kernel
theorem hd_X4_wet : yX4_wet.cls ≠ "java/lang/invoke/MethodHandle" ∧ yX4_wet.cls ≠ "java/lang/invoke/VarHandle" ∧ (parseMethodDescriptor yX4_wet.desc).map (fun d => d.parameters.length) = some 2 := by decide +kernel
theorem hd_X4_dry : yX4_dry.cls ≠ "java/lang/invoke/MethodHandle" ∧ yX4_dry.cls ≠ "java/lang/invoke/VarHandle" ∧ (parseMethodDescriptor yX4_dry.desc).map (fun d => d.parameters.length) = some 2 := by decide +kernel
theorem hd_X4_undo : yX4_undo.cls ≠ "java/lang/invoke/MethodHandle" ∧ yX4_undo.cls ≠ "java/lang/invoke/VarHandle" ∧ (parseMethodDescriptor yX4_undo.desc).map (fun d => d.parameters.length) = some 0 := by decide +kernel
theorem hd_X4_aloneMinutes : yX4_aloneMinutes.cls ≠ "java/lang/invoke/MethodHandle" ∧ yX4_aloneMinutes.cls ≠ "java/lang/invoke/VarHandle" ∧ (parseMethodDescriptor yX4_aloneMinutes.desc).map (fun d => d.parameters.length) = some 2 := by decide +kernel
theorem hd_X4_alone : yX4_alone.cls ≠ "java/lang/invoke/MethodHandle" ∧ yX4_alone.cls ≠ "java/lang/invoke/VarHandle" ∧ (parseMethodDescriptor yX4_alone.desc).map (fun d => d.parameters.length) = some 2 := by decide +kernel
theorem hd_X4_time : yX4_time.cls ≠ "java/lang/invoke/MethodHandle" ∧ yX4_time.cls ≠ "java/lang/invoke/VarHandle" ∧ (parseMethodDescriptor yX4_time.desc).map (fun d => d.parameters.length) = some 5 := by decide +kernel
theorem hd_X4_leastPair : yX4_leastPair.cls ≠ "java/lang/invoke/MethodHandle" ∧ yX4_leastPair.cls ≠ "java/lang/invoke/VarHandle" ∧ (parseMethodDescriptor yX4_leastPair.desc).map (fun d => d.parameters.length) = some 1 := by decide +kernel
theorem hd_X4_best : yX4_best.cls ≠ "java/lang/invoke/MethodHandle" ∧ yX4_best.cls ≠ "java/lang/invoke/VarHandle" ∧ (parseMethodDescriptor yX4_best.desc).map (fun d => d.parameters.length) = some 2 := by decide +kernel
theorem hd_X4_leastBegin : yX4_leastBegin.cls ≠ "java/lang/invoke/MethodHandle" ∧ yX4_leastBegin.cls ≠ "java/lang/invoke/VarHandle" ∧ (parseMethodDescriptor yX4_leastBegin.desc).map (fun d => d.parameters.length) = some 2 := by decide +kernel
theorem hd_X4_begin : yX4_begin.cls ≠ "java/lang/invoke/MethodHandle" ∧ yX4_begin.cls ≠ "java/lang/invoke/VarHandle" ∧ (parseMethodDescriptor yX4_begin.desc).map (fun d => d.parameters.length) = some 4 := by decide +kernel
theorem hd_X4_nextToLeg : yX4_nextToLeg.cls ≠ "java/lang/invoke/MethodHandle" ∧ yX4_nextToLeg.cls ≠ "java/lang/invoke/VarHandle" ∧ (parseMethodDescriptor yX4_nextToLeg.desc).map (fun d => d.parameters.length) = some 1 := by decide +kernel
theorem hd_X4_leastBehind : yX4_leastBehind.cls ≠ "java/lang/invoke/MethodHandle" ∧ yX4_leastBehind.cls ≠ "java/lang/invoke/VarHandle" ∧ (parseMethodDescriptor yX4_leastBehind.desc).map (fun d => d.parameters.length) = some 7 := by decide +kernel
theorem hd_X4_leastLegs : yX4_leastLegs.cls ≠ "java/lang/invoke/MethodHandle" ∧ yX4_leastLegs.cls ≠ "java/lang/invoke/VarHandle" ∧ (parseMethodDescriptor yX4_leastLegs.desc).map (fun d => d.parameters.length) = some 5 := by decide +kernel
theorem hd_X4_soonestLegs : yX4_soonestLegs.cls ≠ "java/lang/invoke/MethodHandle" ∧ yX4_soonestLegs.cls ≠ "java/lang/invoke/VarHandle" ∧ (parseMethodDescriptor yX4_soonestLegs.desc).map (fun d => d.parameters.length) = some 0 := by decide +kernel
theorem hd_X4_soonest : yX4_soonest.cls ≠ "java/lang/invoke/MethodHandle" ∧ yX4_soonest.cls ≠ "java/lang/invoke/VarHandle" ∧ (parseMethodDescriptor yX4_soonest.desc).map (fun d => d.parameters.length) = some 1 := by decide +kernel
theorem hd_X4_legTold : yX4_legTold.cls ≠ "java/lang/invoke/MethodHandle" ∧ yX4_legTold.cls ≠ "java/lang/invoke/VarHandle" ∧ (parseMethodDescriptor yX4_legTold.desc).map (fun d => d.parameters.length) = some 2 := by decide +kernel
theorem hd_X4_judge : yX4_judge.cls ≠ "java/lang/invoke/MethodHandle" ∧ yX4_judge.cls ≠ "java/lang/invoke/VarHandle" ∧ (parseMethodDescriptor yX4_judge.desc).map (fun d => d.parameters.length) = some 2 := by decide +kernel
theorem hd_X4_worth : yX4_worth.cls ≠ "java/lang/invoke/MethodHandle" ∧ yX4_worth.cls ≠ "java/lang/invoke/VarHandle" ∧ (parseMethodDescriptor yX4_worth.desc).map (fun d => d.parameters.length) = some 2 := by decide +kernel
theorem hd_J6_bitCount_0f7a4 : yJ6_bitCount_0f7a4.cls ≠ "java/lang/invoke/MethodHandle" ∧ yJ6_bitCount_0f7a4.cls ≠ "java/lang/invoke/VarHandle" ∧ (parseMethodDescriptor yJ6_bitCount_0f7a4.desc).map (fun d => d.parameters.length) = some 1 := by decide +kernel
theorem hd_X4_factorial : yX4_factorial.cls ≠ "java/lang/invoke/MethodHandle" ∧ yX4_factorial.cls ≠ "java/lang/invoke/VarHandle" ∧ (parseMethodDescriptor yX4_factorial.desc).map (fun d => d.parameters.length) = some 1 := by decide +kernel
theorem hd_X4_ordersBehind : yX4_ordersBehind.cls ≠ "java/lang/invoke/MethodHandle" ∧ yX4_ordersBehind.cls ≠ "java/lang/invoke/VarHandle" ∧ (parseMethodDescriptor yX4_ordersBehind.desc).map (fun d => d.parameters.length) = some 1 := by decide +kernel
theorem hd_X4_fraction : yX4_fraction.cls ≠ "java/lang/invoke/MethodHandle" ∧ yX4_fraction.cls ≠ "java/lang/invoke/VarHandle" ∧ (parseMethodDescriptor yX4_fraction.desc).map (fun d => d.parameters.length) = some 3 := by decide +kernel
theorem hd_X4_share : yX4_share.cls ≠ "java/lang/invoke/MethodHandle" ∧ yX4_share.cls ≠ "java/lang/invoke/VarHandle" ∧ (parseMethodDescriptor yX4_share.desc).map (fun d => d.parameters.length) = some 3 := by decide +kernel
theorem hd_X4_see : yX4_see.cls ≠ "java/lang/invoke/MethodHandle" ∧ yX4_see.cls ≠ "java/lang/invoke/VarHandle" ∧ (parseMethodDescriptor yX4_see.desc).map (fun d => d.parameters.length) = some 2 := by decide +kernel
theorem hd_X4_unsee : yX4_unsee.cls ≠ "java/lang/invoke/MethodHandle" ∧ yX4_unsee.cls ≠ "java/lang/invoke/VarHandle" ∧ (parseMethodDescriptor yX4_unsee.desc).map (fun d => d.parameters.length) = some 0 := by decide +kernel
theorem hd_X4_isAsSeen : yX4_isAsSeen.cls ≠ "java/lang/invoke/MethodHandle" ∧ yX4_isAsSeen.cls ≠ "java/lang/invoke/VarHandle" ∧ (parseMethodDescriptor yX4_isAsSeen.desc).map (fun d => d.parameters.length) = some 1 := by decide +kernel
theorem hd_X4_lives : yX4_lives.cls ≠ "java/lang/invoke/MethodHandle" ∧ yX4_lives.cls ≠ "java/lang/invoke/VarHandle" ∧ (parseMethodDescriptor yX4_lives.desc).map (fun d => d.parameters.length) = some 1 := by decide +kernel
theorem hd_X4_loss : yX4_loss.cls ≠ "java/lang/invoke/MethodHandle" ∧ yX4_loss.cls ≠ "java/lang/invoke/VarHandle" ∧ (parseMethodDescriptor yX4_loss.desc).map (fun d => d.parameters.length) = some 3 := by decide +kernel
theorem hd_X4_staysWith : yX4_staysWith.cls ≠ "java/lang/invoke/MethodHandle" ∧ yX4_staysWith.cls ≠ "java/lang/invoke/VarHandle" ∧ (parseMethodDescriptor yX4_staysWith.desc).map (fun d => d.parameters.length) = some 3 := by decide +kernel
theorem hd_X4_rests : yX4_rests.cls ≠ "java/lang/invoke/MethodHandle" ∧ yX4_rests.cls ≠ "java/lang/invoke/VarHandle" ∧ (parseMethodDescriptor yX4_rests.desc).map (fun d => d.parameters.length) = some 3 := by decide +kernel
theorem hd_X4_waysInTime : yX4_waysInTime.cls ≠ "java/lang/invoke/MethodHandle" ∧ yX4_waysInTime.cls ≠ "java/lang/invoke/VarHandle" ∧ (parseMethodDescriptor yX4_waysInTime.desc).map (fun d => d.parameters.length) = some 4 := by decide +kernel
theorem hd_X4_chance : yX4_chance.cls ≠ "java/lang/invoke/MethodHandle" ∧ yX4_chance.cls ≠ "java/lang/invoke/VarHandle" ∧ (parseMethodDescriptor yX4_chance.desc).map (fun d => d.parameters.length) = some 4 := by decide +kernel
theorem hd_X4_seed : yX4_seed.cls ≠ "java/lang/invoke/MethodHandle" ∧ yX4_seed.cls ≠ "java/lang/invoke/VarHandle" ∧ (parseMethodDescriptor yX4_seed.desc).map (fun d => d.parameters.length) = some 1 := by decide +kernel
theorem hd_X4_legAll : yX4_legAll.cls ≠ "java/lang/invoke/MethodHandle" ∧ yX4_legAll.cls ≠ "java/lang/invoke/VarHandle" ∧ (parseMethodDescriptor yX4_legAll.desc).map (fun d => d.parameters.length) = some 0 := by decide +kernel
theorem hd_X4_days : yX4_days.cls ≠ "java/lang/invoke/MethodHandle" ∧ yX4_days.cls ≠ "java/lang/invoke/VarHandle" ∧ (parseMethodDescriptor yX4_days.desc).map (fun d => d.parameters.length) = some 1 := by decide +kernel
theorem hd_X4_keep : yX4_keep.cls ≠ "java/lang/invoke/MethodHandle" ∧ yX4_keep.cls ≠ "java/lang/invoke/VarHandle" ∧ (parseMethodDescriptor yX4_keep.desc).map (fun d => d.parameters.length) = some 1 := by decide +kernel
theorem hd_X4_again : yX4_again.cls ≠ "java/lang/invoke/MethodHandle" ∧ yX4_again.cls ≠ "java/lang/invoke/VarHandle" ∧ (parseMethodDescriptor yX4_again.desc).map (fun d => d.parameters.length) = some 1 := by decide +kernel
theorem hd_X5_in : yX5_in.cls ≠ "java/lang/invoke/MethodHandle" ∧ yX5_in.cls ≠ "java/lang/invoke/VarHandle" ∧ (parseMethodDescriptor yX5_in.desc).map (fun d => d.parameters.length) = some 3 := by decide +kernel
theorem hd_X5_has : yX5_has.cls ≠ "java/lang/invoke/MethodHandle" ∧ yX5_has.cls ≠ "java/lang/invoke/VarHandle" ∧ (parseMethodDescriptor yX5_has.desc).map (fun d => d.parameters.length) = some 2 := by decide +kernel
theorem hd_X5_many : yX5_many.cls ≠ "java/lang/invoke/MethodHandle" ∧ yX5_many.cls ≠ "java/lang/invoke/VarHandle" ∧ (parseMethodDescriptor yX5_many.desc).map (fun d => d.parameters.length) = some 1 := by decide +kernel
theorem hd_X5_noLegger : yX5_noLegger.cls ≠ "java/lang/invoke/MethodHandle" ∧ yX5_noLegger.cls ≠ "java/lang/invoke/VarHandle" ∧ (parseMethodDescriptor yX5_noLegger.desc).map (fun d => d.parameters.length) = some 1 := by decide +kernel
theorem hd_X5_noBoat : yX5_noBoat.cls ≠ "java/lang/invoke/MethodHandle" ∧ yX5_noBoat.cls ≠ "java/lang/invoke/VarHandle" ∧ (parseMethodDescriptor yX5_noBoat.desc).map (fun d => d.parameters.length) = some 1 := by decide +kernel
theorem hd_X5_write : yX5_write.cls ≠ "java/lang/invoke/MethodHandle" ∧ yX5_write.cls ≠ "java/lang/invoke/VarHandle" ∧ (parseMethodDescriptor yX5_write.desc).map (fun d => d.parameters.length) = some 1 := by decide +kernel
theorem hd_X5_wipe : yX5_wipe.cls ≠ "java/lang/invoke/MethodHandle" ∧ yX5_wipe.cls ≠ "java/lang/invoke/VarHandle" ∧ (parseMethodDescriptor yX5_wipe.desc).map (fun d => d.parameters.length) = some 0 := by decide +kernel
theorem hd_X5_figure : yX5_figure.cls ≠ "java/lang/invoke/MethodHandle" ∧ yX5_figure.cls ≠ "java/lang/invoke/VarHandle" ∧ (parseMethodDescriptor yX5_figure.desc).map (fun d => d.parameters.length) = some 2 := by decide +kernel
theorem hd_X5_readLegger : yX5_readLegger.cls ≠ "java/lang/invoke/MethodHandle" ∧ yX5_readLegger.cls ≠ "java/lang/invoke/VarHandle" ∧ (parseMethodDescriptor yX5_readLegger.desc).map (fun d => d.parameters.length) = some 0 := by decide +kernel
theorem hd_X5_readPart : yX5_readPart.cls ≠ "java/lang/invoke/MethodHandle" ∧ yX5_readPart.cls ≠ "java/lang/invoke/VarHandle" ∧ (parseMethodDescriptor yX5_readPart.desc).map (fun d => d.parameters.length) = some 0 := by decide +kernel
theorem hd_X5_readTunnel : yX5_readTunnel.cls ≠ "java/lang/invoke/MethodHandle" ∧ yX5_readTunnel.cls ≠ "java/lang/invoke/VarHandle" ∧ (parseMethodDescriptor yX5_readTunnel.desc).map (fun d => d.parameters.length) = some 0 := by decide +kernel
theorem hd_X5_fault : yX5_fault.cls ≠ "java/lang/invoke/MethodHandle" ∧ yX5_fault.cls ≠ "java/lang/invoke/VarHandle" ∧ (parseMethodDescriptor yX5_fault.desc).map (fun d => d.parameters.length) = some 0 := by decide +kernel
theorem hd_X5_tunnel : yX5_tunnel.cls ≠ "java/lang/invoke/MethodHandle" ∧ yX5_tunnel.cls ≠ "java/lang/invoke/VarHandle" ∧ (parseMethodDescriptor yX5_tunnel.desc).map (fun d => d.parameters.length) = some 0 := by decide +kernel
theorem hd_X5_minutes : yX5_minutes.cls ≠ "java/lang/invoke/MethodHandle" ∧ yX5_minutes.cls ≠ "java/lang/invoke/VarHandle" ∧ (parseMethodDescriptor yX5_minutes.desc).map (fun d => d.parameters.length) = some 1 := by decide +kernel
theorem hd_X5_takes : yX5_takes.cls ≠ "java/lang/invoke/MethodHandle" ∧ yX5_takes.cls ≠ "java/lang/invoke/VarHandle" ∧ (parseMethodDescriptor yX5_takes.desc).map (fun d => d.parameters.length) = some 4 := by decide +kernel
theorem hd_X5_next : yX5_next.cls ≠ "java/lang/invoke/MethodHandle" ∧ yX5_next.cls ≠ "java/lang/invoke/VarHandle" ∧ (parseMethodDescriptor yX5_next.desc).map (fun d => d.parameters.length) = some 2 := by decide +kernel
theorem hd_X5_timeOf : yX5_timeOf.cls ≠ "java/lang/invoke/MethodHandle" ∧ yX5_timeOf.cls ≠ "java/lang/invoke/VarHandle" ∧ (parseMethodDescriptor yX5_timeOf.desc).map (fun d => d.parameters.length) = some 5 := by decide +kernel
theorem hd_X5_about : yX5_about.cls ≠ "java/lang/invoke/MethodHandle" ∧ yX5_about.cls ≠ "java/lang/invoke/VarHandle" ∧ (parseMethodDescriptor yX5_about.desc).map (fun d => d.parameters.length) = some 1 := by decide +kernel
theorem hd_X5_legger : yX5_legger.cls ≠ "java/lang/invoke/MethodHandle" ∧ yX5_legger.cls ≠ "java/lang/invoke/VarHandle" ∧ (parseMethodDescriptor yX5_legger.desc).map (fun d => d.parameters.length) = some 2 := by decide +kernel
theorem hd_X5_load : yX5_load.cls ≠ "java/lang/invoke/MethodHandle" ∧ yX5_load.cls ≠ "java/lang/invoke/VarHandle" ∧ (parseMethodDescriptor yX5_load.desc).map (fun d => d.parameters.length) = some 1 := by decide +kernel
theorem hd_X5_note : yX5_note.cls ≠ "java/lang/invoke/MethodHandle" ∧ yX5_note.cls ≠ "java/lang/invoke/VarHandle" ∧ (parseMethodDescriptor yX5_note.desc).map (fun d => d.parameters.length) = some 0 := by decide +kernel
theorem hd_X5_goLeg : yX5_goLeg.cls ≠ "java/lang/invoke/MethodHandle" ∧ yX5_goLeg.cls ≠ "java/lang/invoke/VarHandle" ∧ (parseMethodDescriptor yX5_goLeg.desc).map (fun d => d.parameters.length) = some 4 := by decide +kernel
theorem hd_X5_noPair : yX5_noPair.cls ≠ "java/lang/invoke/MethodHandle" ∧ yX5_noPair.cls ≠ "java/lang/invoke/VarHandle" ∧ (parseMethodDescriptor yX5_noPair.desc).map (fun d => d.parameters.length) = some 3 := by decide +kernel
theorem hd_X5_leg : yX5_leg.cls ≠ "java/lang/invoke/MethodHandle" ∧ yX5_leg.cls ≠ "java/lang/invoke/VarHandle" ∧ (parseMethodDescriptor yX5_leg.desc).map (fun d => d.parameters.length) = some 3 := by decide +kernel
theorem hd_X5_rest : yX5_rest.cls ≠ "java/lang/invoke/MethodHandle" ∧ yX5_rest.cls ≠ "java/lang/invoke/VarHandle" ∧ (parseMethodDescriptor yX5_rest.desc).map (fun d => d.parameters.length) = some 1 := by decide +kernel
theorem hd_X5_wet : yX5_wet.cls ≠ "java/lang/invoke/MethodHandle" ∧ yX5_wet.cls ≠ "java/lang/invoke/VarHandle" ∧ (parseMethodDescriptor yX5_wet.desc).map (fun d => d.parameters.length) = some 2 := by decide +kernel
theorem hd_X5_dry : yX5_dry.cls ≠ "java/lang/invoke/MethodHandle" ∧ yX5_dry.cls ≠ "java/lang/invoke/VarHandle" ∧ (parseMethodDescriptor yX5_dry.desc).map (fun d => d.parameters.length) = some 2 := by decide +kernel
theorem hd_X5_undo : yX5_undo.cls ≠ "java/lang/invoke/MethodHandle" ∧ yX5_undo.cls ≠ "java/lang/invoke/VarHandle" ∧ (parseMethodDescriptor yX5_undo.desc).map (fun d => d.parameters.length) = some 0 := by decide +kernel
theorem hd_X5_copy : yX5_copy.cls ≠ "java/lang/invoke/MethodHandle" ∧ yX5_copy.cls ≠ "java/lang/invoke/VarHandle" ∧ (parseMethodDescriptor yX5_copy.desc).map (fun d => d.parameters.length) = some 2 := by decide +kernel
theorem hd_X5_alone : yX5_alone.cls ≠ "java/lang/invoke/MethodHandle" ∧ yX5_alone.cls ≠ "java/lang/invoke/VarHandle" ∧ (parseMethodDescriptor yX5_alone.desc).map (fun d => d.parameters.length) = some 2 := by decide +kernel
theorem hd_X5_time : yX5_time.cls ≠ "java/lang/invoke/MethodHandle" ∧ yX5_time.cls ≠ "java/lang/invoke/VarHandle" ∧ (parseMethodDescriptor yX5_time.desc).map (fun d => d.parameters.length) = some 5 := by decide +kernel
theorem hd_X5_findBest : yX5_findBest.cls ≠ "java/lang/invoke/MethodHandle" ∧ yX5_findBest.cls ≠ "java/lang/invoke/VarHandle" ∧ (parseMethodDescriptor yX5_findBest.desc).map (fun d => d.parameters.length) = some 2 := by decide +kernel
theorem hd_X5_best : yX5_best.cls ≠ "java/lang/invoke/MethodHandle" ∧ yX5_best.cls ≠ "java/lang/invoke/VarHandle" ∧ (parseMethodDescriptor yX5_best.desc).map (fun d => d.parameters.length) = some 2 := by decide +kernel
theorem hd_X5_findBegin : yX5_findBegin.cls ≠ "java/lang/invoke/MethodHandle" ∧ yX5_findBegin.cls ≠ "java/lang/invoke/VarHandle" ∧ (parseMethodDescriptor yX5_findBegin.desc).map (fun d => d.parameters.length) = some 3 := by decide +kernel
theorem hd_X5_begin : yX5_begin.cls ≠ "java/lang/invoke/MethodHandle" ∧ yX5_begin.cls ≠ "java/lang/invoke/VarHandle" ∧ (parseMethodDescriptor yX5_begin.desc).map (fun d => d.parameters.length) = some 4 := by decide +kernel
theorem hd_X5_power : yX5_power.cls ≠ "java/lang/invoke/MethodHandle" ∧ yX5_power.cls ≠ "java/lang/invoke/VarHandle" ∧ (parseMethodDescriptor yX5_power.desc).map (fun d => d.parameters.length) = some 2 := by decide +kernel
theorem hd_X5_layPairs : yX5_layPairs.cls ≠ "java/lang/invoke/MethodHandle" ∧ yX5_layPairs.cls ≠ "java/lang/invoke/VarHandle" ∧ (parseMethodDescriptor yX5_layPairs.desc).map (fun d => d.parameters.length) = some 0 := by decide +kernel
theorem hd_X5_findSoonest : yX5_findSoonest.cls ≠ "java/lang/invoke/MethodHandle" ∧ yX5_findSoonest.cls ≠ "java/lang/invoke/VarHandle" ∧ (parseMethodDescriptor yX5_findSoonest.desc).map (fun d => d.parameters.length) = some 0 := by decide +kernel
theorem hd_X5_soonest : yX5_soonest.cls ≠ "java/lang/invoke/MethodHandle" ∧ yX5_soonest.cls ≠ "java/lang/invoke/VarHandle" ∧ (parseMethodDescriptor yX5_soonest.desc).map (fun d => d.parameters.length) = some 1 := by decide +kernel
theorem hd_X5_judge : yX5_judge.cls ≠ "java/lang/invoke/MethodHandle" ∧ yX5_judge.cls ≠ "java/lang/invoke/VarHandle" ∧ (parseMethodDescriptor yX5_judge.desc).map (fun d => d.parameters.length) = some 2 := by decide +kernel
theorem hd_X5_ways : yX5_ways.cls ≠ "java/lang/invoke/MethodHandle" ∧ yX5_ways.cls ≠ "java/lang/invoke/VarHandle" ∧ (parseMethodDescriptor yX5_ways.desc).map (fun d => d.parameters.length) = some 1 := by decide +kernel
theorem hd_X5_divisor : yX5_divisor.cls ≠ "java/lang/invoke/MethodHandle" ∧ yX5_divisor.cls ≠ "java/lang/invoke/VarHandle" ∧ (parseMethodDescriptor yX5_divisor.desc).map (fun d => d.parameters.length) = some 2 := by decide +kernel
theorem hd_X5_fraction : yX5_fraction.cls ≠ "java/lang/invoke/MethodHandle" ∧ yX5_fraction.cls ≠ "java/lang/invoke/VarHandle" ∧ (parseMethodDescriptor yX5_fraction.desc).map (fun d => d.parameters.length) = some 3 := by decide +kernel
theorem hd_X5_share : yX5_share.cls ≠ "java/lang/invoke/MethodHandle" ∧ yX5_share.cls ≠ "java/lang/invoke/VarHandle" ∧ (parseMethodDescriptor yX5_share.desc).map (fun d => d.parameters.length) = some 3 := by decide +kernel
theorem hd_X5_see : yX5_see.cls ≠ "java/lang/invoke/MethodHandle" ∧ yX5_see.cls ≠ "java/lang/invoke/VarHandle" ∧ (parseMethodDescriptor yX5_see.desc).map (fun d => d.parameters.length) = some 2 := by decide +kernel
theorem hd_X5_unsee : yX5_unsee.cls ≠ "java/lang/invoke/MethodHandle" ∧ yX5_unsee.cls ≠ "java/lang/invoke/VarHandle" ∧ (parseMethodDescriptor yX5_unsee.desc).map (fun d => d.parameters.length) = some 0 := by decide +kernel
theorem hd_X5_isSeen : yX5_isSeen.cls ≠ "java/lang/invoke/MethodHandle" ∧ yX5_isSeen.cls ≠ "java/lang/invoke/VarHandle" ∧ (parseMethodDescriptor yX5_isSeen.desc).map (fun d => d.parameters.length) = some 1 := by decide +kernel
theorem hd_X5_lives : yX5_lives.cls ≠ "java/lang/invoke/MethodHandle" ∧ yX5_lives.cls ≠ "java/lang/invoke/VarHandle" ∧ (parseMethodDescriptor yX5_lives.desc).map (fun d => d.parameters.length) = some 1 := by decide +kernel
theorem hd_X5_loss : yX5_loss.cls ≠ "java/lang/invoke/MethodHandle" ∧ yX5_loss.cls ≠ "java/lang/invoke/VarHandle" ∧ (parseMethodDescriptor yX5_loss.desc).map (fun d => d.parameters.length) = some 3 := by decide +kernel
theorem hd_X5_findRests : yX5_findRests.cls ≠ "java/lang/invoke/MethodHandle" ∧ yX5_findRests.cls ≠ "java/lang/invoke/VarHandle" ∧ (parseMethodDescriptor yX5_findRests.desc).map (fun d => d.parameters.length) = some 2 := by decide +kernel
theorem hd_X5_rests : yX5_rests.cls ≠ "java/lang/invoke/MethodHandle" ∧ yX5_rests.cls ≠ "java/lang/invoke/VarHandle" ∧ (parseMethodDescriptor yX5_rests.desc).map (fun d => d.parameters.length) = some 3 := by decide +kernel
theorem hd_X5_chance : yX5_chance.cls ≠ "java/lang/invoke/MethodHandle" ∧ yX5_chance.cls ≠ "java/lang/invoke/VarHandle" ∧ (parseMethodDescriptor yX5_chance.desc).map (fun d => d.parameters.length) = some 4 := by decide +kernel
theorem hd_X5_seed : yX5_seed.cls ≠ "java/lang/invoke/MethodHandle" ∧ yX5_seed.cls ≠ "java/lang/invoke/VarHandle" ∧ (parseMethodDescriptor yX5_seed.desc).map (fun d => d.parameters.length) = some 1 := by decide +kernel
theorem hd_X5_goSoonest : yX5_goSoonest.cls ≠ "java/lang/invoke/MethodHandle" ∧ yX5_goSoonest.cls ≠ "java/lang/invoke/VarHandle" ∧ (parseMethodDescriptor yX5_goSoonest.desc).map (fun d => d.parameters.length) = some 0 := by decide +kernel
theorem hd_X5_days : yX5_days.cls ≠ "java/lang/invoke/MethodHandle" ∧ yX5_days.cls ≠ "java/lang/invoke/VarHandle" ∧ (parseMethodDescriptor yX5_days.desc).map (fun d => d.parameters.length) = some 1 := by decide +kernel
theorem hd_X5_keep : yX5_keep.cls ≠ "java/lang/invoke/MethodHandle" ∧ yX5_keep.cls ≠ "java/lang/invoke/VarHandle" ∧ (parseMethodDescriptor yX5_keep.desc).map (fun d => d.parameters.length) = some 1 := by decide +kernel
theorem hd_X5_again : yX5_again.cls ≠ "java/lang/invoke/MethodHandle" ∧ yX5_again.cls ≠ "java/lang/invoke/VarHandle" ∧ (parseMethodDescriptor yX5_again.desc).map (fun d => d.parameters.length) = some 1 := by decide +kernel
set_option maxRecDepth 20000 in
set_option maxHeartbeats 4000000 in
theorem k_X4_groundIn {l : Launch} {D : va_G} {tys : List (ClassId × FieldType)} (a0 : Int32) (a1 : Int32)  (r : Int32) (h : f_X4_groundIn a0 a1 = some r) : zI l yX4_groundIn wsX4_groundIn (zRm 0 0) D tys zNw (fun _ : Unit => []) [.int a0, .int a1] () (r, ()) := by
  refine zI_of (cc := cX4_groundIn) (maxL := 2) (ty := .int) (by decide +kernel) rfl (Nat.le_of_ble_eq_true rfl) zNw_ok (fun E hE1 hE2 C0 hR => ?_)
  subst hE1; subst hE2
  replace C0 : zCx E (zRm 0 0) cX4_groundIn 2 RX4 wsX4_groundIn tys zNw := C0
  show zV E (fun _ : Unit => []) 2 () 0 [(0, .int a0), (1, .int a1)] []
  delta f_X4_groundIn at h
  refine zV_iload_n (n := 1) C0 0 dX4_groundIn_0 rfl rfl ?_
  refine zV_iconst (n := 2) (v := (2 : Int32)) C0 dX4_groundIn_1 rfl rfl ?_
  refine zV_iload_n (n := 3) C0 1 dX4_groundIn_2 rfl rfl ?_
  refine zV_imul (n := 4) C0 dX4_groundIn_3  rfl ?_
  refine zV_iushr (n := 5) C0 dX4_groundIn_4  rfl ?_
  refine zV_iconst (n := 6) (v := (3 : Int32)) C0 dX4_groundIn_5 rfl rfl ?_
  refine zV_iand (n := 7) C0 dX4_groundIn_6  rfl ?_
  exact zretI1 hR h rfl dX4_groundIn_7
set_option maxRecDepth 20000 in
set_option maxHeartbeats 4000000 in
theorem k_X4_isPlace {l : Launch} {D : va_G} {tys : List (ClassId × FieldType)} (a0 : Int32)  (r : Int32) (h : f_X4_isPlace a0 = some r) : zI l yX4_isPlace wsX4_isPlace (zRm 0 0) D tys zNw (fun _ : Unit => []) [.int a0] () (r, ()) := by
  refine zI_of (cc := cX4_isPlace) (maxL := 1) (ty := .boolean) (by decide +kernel) rfl (Nat.le_of_ble_eq_true rfl) zNw_ok (fun E hE1 hE2 C0 hR => ?_)
  subst hE1; subst hE2
  replace C0 : zCx E (zRm 0 0) cX4_isPlace 1 RX4 wsX4_isPlace tys zNw := C0
  show zV E (fun _ : Unit => []) 1 () 0 [(0, .int a0)] []
  delta f_X4_isPlace at h
  refine zV_iload_n (n := 1) C0 0 dX4_isPlace_0 rfl rfl ?_
  refine zjoin_of h (fun k_2 hk_2 h => ?_)
  have Jk_2 : ∀ (s_1 : Int32), k_2 (s_1) = some r → zV E (fun _ : Unit => []) 1 () 14 [] [.int s_1] := by
    intro s_1 h
    replace h := hk_2 _ h
    obtain ⟨hz, h⟩ := gd_of h
    exact zretI1 hR h (znz hz) dX4_isPlace_14
  clear hk_2
  refine zjoin_of h (fun k_3 hk_3 h => ?_)
  have Jk_3 : k_3 () = some r → zV E (fun _ : Unit => []) 1 () 13 [] [] := by
    intro  h
    replace h := hk_3 _ h
    refine zV_iconst (n := 14) (v := (0 : Int32)) C0 dX4_isPlace_13 rfl rfl ?_
    exact Jk_2 (0 : Int32) h
  clear hk_3
  refine zV_if_lt (tgt := 13) (n := 4) C0 dX4_isPlace_1 rfl rfl (fun hb_5 => ?_) (fun hb_5 => ?_)
  · replace h := if_t hb_5 h
    refine zV_sub [] rfl ?_
    exact Jk_3  h
  · replace h := if_f hb_5 h
    refine zV_iload_n (n := 5) C0 0 dX4_isPlace_4 rfl rfl ?_
    refine zV_iconst (n := 6) (v := (4 : Int32)) C0 dX4_isPlace_5 rfl rfl ?_
    refine zV_icmp_ge (tgt := 13) (n := 9) C0 dX4_isPlace_6 rfl rfl (fun hb_4 => ?_) (fun hb_4 => ?_)
    · replace h := if_t hb_4 h
      refine zV_sub [] rfl ?_
      exact Jk_3  h
    · replace h := if_f hb_4 h
      refine zV_iconst (n := 10) (v := (1 : Int32)) C0 dX4_isPlace_9 rfl rfl ?_
      refine zV_goto (tgt := 14) C0 dX4_isPlace_10 rfl ?_
      refine zV_sub [] rfl ?_
      exact Jk_2 (1 : Int32) h
set_option maxRecDepth 20000 in
set_option maxHeartbeats 4000000 in
theorem k_X4_timesTired {l : Launch} {D : va_G} {tys : List (ClassId × FieldType)} (a0 : Int32) (a1 : Int32)  (r : Int32) (h : f_X4_timesTired a0 a1 = some r) : zI l yX4_timesTired wsX4_timesTired (zRm 0 0) D tys zNw (fun _ : Unit => []) [.int a0, .int a1] () (r, ()) := by
  refine zI_of (cc := cX4_timesTired) (maxL := 2) (ty := .int) (by decide +kernel) rfl (Nat.le_of_ble_eq_true rfl) zNw_ok (fun E hE1 hE2 C0 hR => ?_)
  subst hE1; subst hE2
  replace C0 : zCx E (zRm 0 0) cX4_timesTired 2 RX4 wsX4_timesTired tys zNw := C0
  show zV E (fun _ : Unit => []) 2 () 0 [(0, .int a0), (1, .int a1)] []
  delta f_X4_timesTired at h
  refine zV_iload_n (n := 1) C0 0 dX4_timesTired_0 rfl rfl ?_
  refine zV_iconst (n := 2) (v := (2 : Int32)) C0 dX4_timesTired_1 rfl rfl ?_
  refine zV_iload_n (n := 3) C0 1 dX4_timesTired_2 rfl rfl ?_
  refine zV_imul (n := 4) C0 dX4_timesTired_3  rfl ?_
  refine zV_iushr (n := 5) C0 dX4_timesTired_4  rfl ?_
  refine zV_iconst (n := 6) (v := (3 : Int32)) C0 dX4_timesTired_5 rfl rfl ?_
  refine zV_iand (n := 7) C0 dX4_timesTired_6  rfl ?_
  exact zretI1 hR h rfl dX4_timesTired_7
set_option maxRecDepth 20000 in
set_option maxHeartbeats 4000000 in
theorem k_X4_isIn {l : Launch} {D : va_G} {tys : List (ClassId × FieldType)} (a0 : Int32) (a1 : Int32)  (r : Int32) (h : f_X4_isIn a0 a1 = some r) : zI l yX4_isIn wsX4_isIn (zRm 0 0) D tys zNw (fun _ : Unit => []) [.int a0, .int a1] () (r, ()) := by
  refine zI_of (cc := cX4_isIn) (maxL := 2) (ty := .boolean) (by decide +kernel) rfl (Nat.le_of_ble_eq_true rfl) zNw_ok (fun E hE1 hE2 C0 hR => ?_)
  subst hE1; subst hE2
  replace C0 : zCx E (zRm 0 0) cX4_isIn 2 RX4 wsX4_isIn tys zNw := C0
  show zV E (fun _ : Unit => []) 2 () 0 [(0, .int a0), (1, .int a1)] []
  delta f_X4_isIn at h
  refine zV_iload_n (n := 1) C0 0 dX4_isIn_0 rfl rfl ?_
  refine zV_iload_n (n := 2) C0 1 dX4_isIn_1 rfl rfl ?_
  refine zV_iushr (n := 3) C0 dX4_isIn_2  rfl ?_
  refine zV_iconst (n := 4) (v := (1 : Int32)) C0 dX4_isIn_3 rfl rfl ?_
  refine zV_iand (n := 5) C0 dX4_isIn_4  rfl ?_
  refine zjoin_of h (fun k_2 hk_2 h => ?_)
  have Jk_2 : ∀ (s_1 : Int32), k_2 (s_1) = some r → zV E (fun _ : Unit => []) 2 () 13 [] [.int s_1] := by
    intro s_1 h
    replace h := hk_2 _ h
    obtain ⟨hz, h⟩ := gd_of h
    exact zretI1 hR h (znz hz) dX4_isIn_13
  clear hk_2
  refine zV_if_eq (tgt := 12) (n := 8) C0 dX4_isIn_5 rfl rfl (fun hb_3 => ?_) (fun hb_3 => ?_)
  · replace h := if_t hb_3 h
    refine zV_iconst (n := 13) (v := (0 : Int32)) C0 dX4_isIn_12 rfl rfl ?_
    refine zV_sub [] rfl ?_
    exact Jk_2 (0 : Int32) h
  · replace h := if_f hb_3 h
    refine zV_iconst (n := 9) (v := (1 : Int32)) C0 dX4_isIn_8 rfl rfl ?_
    refine zV_goto (tgt := 13) C0 dX4_isIn_9 rfl ?_
    refine zV_sub [] rfl ?_
    exact Jk_2 (1 : Int32) h
set_option maxRecDepth 20000 in
set_option maxHeartbeats 4000000 in
theorem k_X4_minutesOver {l : Launch} {D : va_G} {tys : List (ClassId × FieldType)} (a0 : Int32)  (r : Int32) (h : f_X4_minutesOver a0 = some r) : zI l yX4_minutesOver wsX4_minutesOver (zRm 0 0) D tys zNw (fun _ : Unit => []) [.int a0] () (r, ()) := by
  refine zI_of (cc := cX4_minutesOver) (maxL := 1) (ty := .int) (by decide +kernel) rfl (Nat.le_of_ble_eq_true rfl) zNw_ok (fun E hE1 hE2 C0 hR => ?_)
  subst hE1; subst hE2
  replace C0 : zCx E (zRm 0 0) cX4_minutesOver 1 RX4 wsX4_minutesOver tys zNw := C0
  show zV E (fun _ : Unit => []) 1 () 0 [(0, .int a0)] []
  delta f_X4_minutesOver at h
  refine zV_iload_n (n := 1) C0 0 dX4_minutesOver_0 rfl rfl ?_
  by_cases hs_1 : a0 = (1 : Int32)
  · replace h := if_t hs_1 h
    refine zV_lookup (off := 27) (tgt := 28) C0 dX4_minutesOver_1 rfl (by rw [hs_1]; rfl) rfl ?_
    refine zV_iconst (n := 29) (v := (2 : Int32)) C0 dX4_minutesOver_28 rfl rfl ?_
    exact zretI1 hR h rfl dX4_minutesOver_29
  replace h := if_f hs_1 h
  by_cases hs_2 : a0 = (3 : Int32)
  · replace h := if_t hs_2 h
    refine zV_lookup (off := 29) (tgt := 30) C0 dX4_minutesOver_1 rfl (by rw [hs_2]; rfl) rfl ?_
    refine zV_iconst (n := 31) (v := (3 : Int32)) C0 dX4_minutesOver_30 rfl rfl ?_
    exact zretI1 hR h rfl dX4_minutesOver_31
  replace h := if_f hs_2 h
  refine zV_lookup (off := 31) (tgt := 32) C0 dX4_minutesOver_1 rfl (by show Op.lookupswitch.offset [(1, 27), (3, 29)] 31 a0.toInt = 31; rw [Op.lookupswitch.offset_cons, if_neg (fun e => zne (1 : Int32) (n := 1) rfl hs_1 e.symm)]; rw [Op.lookupswitch.offset_cons, if_neg (fun e => zne (3 : Int32) (n := 3) rfl hs_2 e.symm)]; rfl) rfl ?_
  refine zV_iconst (n := 33) (v := (1 : Int32)) C0 dX4_minutesOver_32 rfl rfl ?_
  exact zretI1 hR h rfl dX4_minutesOver_33
set_option maxRecDepth 20000 in
set_option maxHeartbeats 4000000 in
theorem k_X4_placeBehind {l : Launch} {D : va_G} {tys : List (ClassId × FieldType)} (a0 : Int32) (a1 : Int32)  (r : Int32) (h : f_X4_placeBehind a0 a1 = some r) : zI l yX4_placeBehind wsX4_placeBehind (zRm 0 0) D tys zNw (fun _ : Unit => []) [.int a0, .int a1] () (r, ()) := by
  refine zI_of (cc := cX4_placeBehind) (maxL := 2) (ty := .int) (by decide +kernel) rfl (Nat.le_of_ble_eq_true rfl) zNw_ok (fun E hE1 hE2 C0 hR => ?_)
  subst hE1; subst hE2
  replace C0 : zCx E (zRm 0 0) cX4_placeBehind 2 RX4 wsX4_placeBehind tys zNw := C0
  show zV E (fun _ : Unit => []) 2 () 0 [(0, .int a0), (1, .int a1)] []
  delta f_X4_placeBehind at h
  refine zV_iload_n (n := 1) C0 0 dX4_placeBehind_0 rfl rfl ?_
  refine zV_iload_n (n := 2) C0 1 dX4_placeBehind_1 rfl rfl ?_
  refine zV_iconst (n := 3) (v := (2 : Int32)) C0 dX4_placeBehind_2 rfl rfl ?_
  refine zjoin_of h (fun k_2 hk_2 h => ?_)
  have Jk_2 : ∀ (s_1 : Int32), k_2 (s_1) = some r → zV E (fun _ : Unit => []) 2 () 11 [] [.int s_1, .int a0] := by
    intro s_1 h
    replace h := hk_2 _ h
    refine zV_iadd (n := 12) C0 dX4_placeBehind_11  rfl ?_
    refine zV_iconst (n := 13) (v := (4 : Int32)) C0 dX4_placeBehind_12 rfl rfl ?_
    refine zV_irem (n := 14) C0 dX4_placeBehind_13 (by decide) rfl ?_
    exact zretI1 hR h rfl dX4_placeBehind_14
  clear hk_2
  refine zV_icmp_ne (tgt := 10) (n := 6) C0 dX4_placeBehind_3 rfl rfl (fun hb_3 => ?_) (fun hb_3 => ?_)
  · replace h := if_f hb_3 h
    refine zV_iconst (n := 11) (v := (1 : Int32)) C0 dX4_placeBehind_10 rfl rfl ?_
    refine zV_sub [] rfl ?_
    exact Jk_2 (1 : Int32) h
  · replace h := if_t hb_3 h
    refine zV_iconst (n := 7) (v := (2 : Int32)) C0 dX4_placeBehind_6 rfl rfl ?_
    refine zV_goto (tgt := 11) C0 dX4_placeBehind_7 rfl ?_
    refine zV_sub [] rfl ?_
    exact Jk_2 (2 : Int32) h
set_option maxRecDepth 20000 in
set_option maxHeartbeats 4000000 in
theorem k_X4_tireOne {l : Launch} {D : va_G} {tys : List (ClassId × FieldType)} (a0 : Int32) (a1 : Int32)  (r : Int32) (h : f_X4_tireOne a0 a1 = some r) : zI l yX4_tireOne wsX4_tireOne (zRm 1 21) D tys zNw (fun _ : Unit => []) [.int a0, .int a1] () (r, ()) := by
  refine zI_of (cc := cX4_tireOne) (maxL := 2) (ty := .int) (by decide +kernel) rfl (Nat.le_of_ble_eq_true rfl) zNw_ok (fun E hE1 hE2 C0 hR => ?_)
  subst hE1; subst hE2
  replace C0 : zCx E (zRm 1 21) cX4_tireOne 2 RX4 wsX4_tireOne tys zNw := C0
  show zV E (fun _ : Unit => []) 2 () 0 [(0, .int a0), (1, .int a1)] []
  delta f_X4_tireOne at h
  refine zV_iload_n (n := 1) C0 0 dX4_tireOne_0 rfl rfl ?_
  refine zV_iload_n (n := 2) C0 1 dX4_tireOne_1 rfl rfl ?_
  obtain ⟨r_2, hc_1, h⟩ := ob_of h
  refine zV_callS0 (n := 5) (st := []) (As := [.int a0, .int a1]) C0 (k_X4_timesTired a0 a1 _ hc_1) gX4_tireOne_X4_timesTired rfl (hd_X4_timesTired) rfl ⟨rfl, rfl⟩ ⟨Nat.le_of_ble_eq_true rfl, Nat.le_of_ble_eq_true rfl⟩ rfl (Nat.le_of_ble_eq_true rfl) dX4_tireOne_2 rfl ?_
  refine zV_iconst (n := 6) (v := (3 : Int32)) C0 dX4_tireOne_5 rfl rfl ?_
  refine zjoin_of h (fun k_4 hk_4 h => ?_)
  have Jk_4 : ∀ (s_3 : Int32), k_4 (s_3) = some r → zV E (fun _ : Unit => []) 2 () 20 [] [.int s_3] := by
    intro s_3 h
    replace h := hk_4 _ h
    exact zretI1 hR h rfl dX4_tireOne_20
  clear hk_4
  refine zV_icmp_lt (tgt := 13) (n := 9) C0 dX4_tireOne_6 rfl rfl (fun hb_5 => ?_) (fun hb_5 => ?_)
  · replace h := if_t hb_5 h
    refine zV_iload_n (n := 14) C0 0 dX4_tireOne_13 rfl rfl ?_
    refine zV_iconst (n := 15) (v := (1 : Int32)) C0 dX4_tireOne_14 rfl rfl ?_
    refine zV_iconst (n := 16) (v := (2 : Int32)) C0 dX4_tireOne_15 rfl rfl ?_
    refine zV_iload_n (n := 17) C0 1 dX4_tireOne_16 rfl rfl ?_
    refine zV_imul (n := 18) C0 dX4_tireOne_17  rfl ?_
    refine zV_ishl (n := 19) C0 dX4_tireOne_18  rfl ?_
    refine zV_iadd (n := 20) C0 dX4_tireOne_19  rfl ?_
    refine zV_sub [] rfl ?_
    exact Jk_4 (a0 + (zshl (1 : Int32) ((2 : Int32) * a1))) h
  · replace h := if_f hb_5 h
    refine zV_iload_n (n := 10) C0 0 dX4_tireOne_9 rfl rfl ?_
    refine zV_goto (tgt := 20) C0 dX4_tireOne_10 rfl ?_
    refine zV_sub [] rfl ?_
    exact Jk_4 a0 h
set_option maxRecDepth 20000 in
set_option maxHeartbeats 4000000 in
theorem k_X4_tireBoth {l : Launch} {D : va_G} {tys : List (ClassId × FieldType)} (a0 : Int32) (a1 : Int32) (a2 : Int32)  (r : Int32) (h : f_X4_tireBoth a0 a1 a2 = some r) : zI l yX4_tireBoth wsX4_tireBoth (zRm 2 42) D tys zNw (fun _ : Unit => []) [.int a0, .int a1, .int a2] () (r, ()) := by
  refine zI_of (cc := cX4_tireBoth) (maxL := 3) (ty := .int) (by decide +kernel) rfl (Nat.le_of_ble_eq_true rfl) zNw_ok (fun E hE1 hE2 C0 hR => ?_)
  subst hE1; subst hE2
  replace C0 : zCx E (zRm 2 42) cX4_tireBoth 3 RX4 wsX4_tireBoth tys zNw := C0
  show zV E (fun _ : Unit => []) 3 () 0 [(0, .int a0), (1, .int a1), (2, .int a2)] []
  delta f_X4_tireBoth at h
  refine zV_iload_n (n := 1) C0 0 dX4_tireBoth_0 rfl rfl ?_
  refine zV_iload_n (n := 2) C0 1 dX4_tireBoth_1 rfl rfl ?_
  obtain ⟨r_2, hc_1, h⟩ := ob_of h
  refine zV_callS0 (n := 5) (st := []) (As := [.int a0, .int a1]) C0 (k_X4_tireOne a0 a1 _ hc_1) gX4_tireBoth_X4_tireOne rfl (hd_X4_tireOne) rfl ⟨rfl, rfl⟩ ⟨Nat.le_of_ble_eq_true rfl, Nat.le_of_ble_eq_true rfl⟩ rfl (Nat.le_of_ble_eq_true rfl) dX4_tireBoth_2 rfl ?_
  refine zV_iload_n (n := 6) C0 2 dX4_tireBoth_5 rfl rfl ?_
  obtain ⟨r_4, hc_3, h⟩ := ob_of h
  refine zV_callS0 (n := 9) (st := []) (As := [.int r_2, .int a2]) C0 (k_X4_tireOne r_2 a2 _ hc_3) gX4_tireBoth_X4_tireOne rfl (hd_X4_tireOne) rfl ⟨rfl, rfl⟩ ⟨Nat.le_of_ble_eq_true rfl, Nat.le_of_ble_eq_true rfl⟩ rfl (Nat.le_of_ble_eq_true rfl) dX4_tireBoth_6 rfl ?_
  exact zretI1 hR h rfl dX4_tireBoth_9
set_option maxRecDepth 20000 in
set_option maxHeartbeats 4000000 in
theorem k_X4_legTold {l : Launch} {D : va_G} {tys : List (ClassId × FieldType)} (a0 : Int32) (a1 : Int32)  (r : Int32) (h : f_X4_legTold a0 a1 = some r) : zI l yX4_legTold wsX4_legTold (zRm 0 0) D tys zNw (fun _ : Unit => []) [.int a0, .int a1] () (r, ()) := by
  refine zI_of (cc := cX4_legTold) (maxL := 4) (ty := .int) (by decide +kernel) rfl (Nat.le_of_ble_eq_true rfl) zNw_ok (fun E hE1 hE2 C0 hR => ?_)
  subst hE1; subst hE2
  replace C0 : zCx E (zRm 0 0) cX4_legTold 4 RX4 wsX4_legTold tys zNw := C0
  show zV E (fun _ : Unit => []) 4 () 0 [(0, .int a0), (1, .int a1)] []
  delta f_X4_legTold at h
  refine zV_iload_n (n := 1) C0 0 dX4_legTold_0 rfl rfl ?_
  refine zV_istore_n (n := 2) C0 [(2, .int a0), (0, .int a0), (1, .int a1)] dX4_legTold_1 rfl rfl (Nat.le_of_ble_eq_true rfl) rfl ?_
  refine zV_iconst (n := 3) (v := (0 : Int32)) C0 dX4_legTold_2 rfl rfl ?_
  refine zV_istore_n (n := 4) C0 [(3, .int (0 : Int32)), (2, .int a0), (0, .int a0), (1, .int a1)] dX4_legTold_3 rfl rfl (Nat.le_of_ble_eq_true rfl) rfl ?_
  refine zV_sub [3, 1, 0] rfl ?_
  refine zfix_ind (fun e => zV E (fun _ : Unit => []) 4 () 4 [(1, .int a1), (2, .int e.1), (3, .int e.2)] []) (fun rec_3 hrec_3 e h => ?_) zN (a0, (0 : Int32)) h
  obtain ⟨x2_1, x3_2⟩ := e
  have Jrec_3 : ∀ (x2_1 : Int32) (x3_2 : Int32), rec_3 (x2_1, x3_2) = some r → zV E (fun _ : Unit => []) 4 () 4 [(1, .int a1), (2, .int x2_1), (3, .int x3_2)] [] := fun x2_1 x3_2 h => hrec_3 _ h
  clear hrec_3
  dsimp only [F_X4_legTold_4] at h
  show zV E (fun _ : Unit => []) 4 () 4 [(1, .int a1), (2, .int x2_1), (3, .int x3_2)] []
  refine zV_iload_n (n := 5) C0 2 dX4_legTold_4 rfl rfl ?_
  refine zV_iload_n (n := 6) C0 0 dX4_legTold_5 rfl rfl ?_
  refine zV_icmp_ge (tgt := 21) (n := 9) C0 dX4_legTold_6 rfl rfl (fun hb_5 => ?_) (fun hb_5 => ?_)
  · replace h := if_t hb_5 h
    refine zV_iload_n (n := 22) C0 1 dX4_legTold_21 rfl rfl ?_
    exact zretI1 hR h rfl dX4_legTold_22
  · replace h := if_f hb_5 h
    refine zV_iload_n (n := 10) C0 1 dX4_legTold_9 rfl rfl ?_
    refine zV_sipush (n := 13) (v := (1000 : Int32)) C0 dX4_legTold_10 rfl rfl ?_
    refine zV_idiv (n := 14) C0 dX4_legTold_13 (by decide) rfl ?_
    refine zV_topi (fun x2_4 ex2_4 => ?_)
    replace h := zlet_of ex2_4 h
    clear ex2_4
    refine zV_istore_n (n := 15) C0 [(2, .int x2_4), (1, .int a1), (3, .int x3_2)] dX4_legTold_14 rfl rfl (Nat.le_of_ble_eq_true rfl) rfl ?_
    refine zV_iinc (n := 18) C0 2 (v := (x3_2 + (1 : Int32))) [(3, .int (x3_2 + (1 : Int32))), (2, .int x2_4), (1, .int a1)] dX4_legTold_15 rfl rfl rfl (Nat.le_of_ble_eq_true rfl) rfl ?_
    refine zV_goto (tgt := 4) C0 dX4_legTold_18 rfl ?_
    refine zV_sub [2, 1, 0] rfl ?_
    exact Jrec_3 x2_4 (x3_2 + (1 : Int32)) h
set_option maxRecDepth 20000 in
theorem mJ6_bitCount_0f7a4_0 : Cond.constant RJ6 265 (1431655765 : Int32) ∈ wsJ6_bitCount_0f7a4 := by decide +kernel
set_option maxRecDepth 20000 in
theorem mJ6_bitCount_0f7a4_1 : Cond.constant RJ6 266 (858993459 : Int32) ∈ wsJ6_bitCount_0f7a4 := by decide +kernel
set_option maxRecDepth 20000 in
theorem mJ6_bitCount_0f7a4_2 : Cond.constant RJ6 267 (252645135 : Int32) ∈ wsJ6_bitCount_0f7a4 := by decide +kernel
set_option maxRecDepth 20000 in
set_option maxHeartbeats 4000000 in
theorem k_J6_bitCount_0f7a4 {l : Launch} {D : va_G} {tys : List (ClassId × FieldType)} (a0 : Int32)  (r : Int32) (h : f_J6_bitCount_0f7a4 a0 = some r) : zI l yJ6_bitCount_0f7a4 wsJ6_bitCount_0f7a4 (zRm 0 0) D tys zNw (fun _ : Unit => []) [.int a0] () (r, ()) := by
  refine zI_of (cc := cJ6_bitCount_0f7a4) (maxL := 1) (ty := .int) (by decide +kernel) rfl (Nat.le_of_ble_eq_true rfl) zNw_ok (fun E hE1 hE2 C0 hR => ?_)
  subst hE1; subst hE2
  replace C0 : zCx E (zRm 0 0) cJ6_bitCount_0f7a4 1 RJ6 wsJ6_bitCount_0f7a4 tys zNw := C0
  show zV E (fun _ : Unit => []) 1 () 0 [(0, .int a0)] []
  delta f_J6_bitCount_0f7a4 at h
  refine zV_iload_n (n := 1) C0 0 dJ6_bitCount_0f7a4_0 rfl rfl ?_
  refine zV_iload_n (n := 2) C0 0 dJ6_bitCount_0f7a4_1 rfl rfl ?_
  refine zV_iconst (n := 3) (v := (1 : Int32)) C0 dJ6_bitCount_0f7a4_2 rfl rfl ?_
  refine zV_iushr (n := 4) C0 dJ6_bitCount_0f7a4_3  rfl ?_
  refine zV_ldcw (n := 7) (v := (1431655765 : Int32)) C0 dJ6_bitCount_0f7a4_4 mJ6_bitCount_0f7a4_0 rfl ?_
  refine zV_iand (n := 8) C0 dJ6_bitCount_0f7a4_7  rfl ?_
  refine zV_isub (n := 9) C0 dJ6_bitCount_0f7a4_8  rfl ?_
  refine zV_topi (fun x0_1 ex0_1 => ?_)
  replace h := zlet_of ex0_1 h
  clear ex0_1
  refine zV_istore_n (n := 10) C0 [(0, .int x0_1)] dJ6_bitCount_0f7a4_9 rfl rfl (Nat.le_of_ble_eq_true rfl) rfl ?_
  refine zV_iload_n (n := 11) C0 0 dJ6_bitCount_0f7a4_10 rfl rfl ?_
  refine zV_ldcw (n := 14) (v := (858993459 : Int32)) C0 dJ6_bitCount_0f7a4_11 mJ6_bitCount_0f7a4_1 rfl ?_
  refine zV_iand (n := 15) C0 dJ6_bitCount_0f7a4_14  rfl ?_
  refine zV_iload_n (n := 16) C0 0 dJ6_bitCount_0f7a4_15 rfl rfl ?_
  refine zV_iconst (n := 17) (v := (2 : Int32)) C0 dJ6_bitCount_0f7a4_16 rfl rfl ?_
  refine zV_iushr (n := 18) C0 dJ6_bitCount_0f7a4_17  rfl ?_
  refine zV_ldcw (n := 21) (v := (858993459 : Int32)) C0 dJ6_bitCount_0f7a4_18 mJ6_bitCount_0f7a4_1 rfl ?_
  refine zV_iand (n := 22) C0 dJ6_bitCount_0f7a4_21  rfl ?_
  refine zV_iadd (n := 23) C0 dJ6_bitCount_0f7a4_22  rfl ?_
  refine zV_topi (fun x0_2 ex0_2 => ?_)
  replace h := zlet_of ex0_2 h
  clear ex0_2
  refine zV_istore_n (n := 24) C0 [(0, .int x0_2)] dJ6_bitCount_0f7a4_23 rfl rfl (Nat.le_of_ble_eq_true rfl) rfl ?_
  refine zV_iload_n (n := 25) C0 0 dJ6_bitCount_0f7a4_24 rfl rfl ?_
  refine zV_iload_n (n := 26) C0 0 dJ6_bitCount_0f7a4_25 rfl rfl ?_
  refine zV_iconst (n := 27) (v := (4 : Int32)) C0 dJ6_bitCount_0f7a4_26 rfl rfl ?_
  refine zV_iushr (n := 28) C0 dJ6_bitCount_0f7a4_27  rfl ?_
  refine zV_iadd (n := 29) C0 dJ6_bitCount_0f7a4_28  rfl ?_
  refine zV_ldcw (n := 32) (v := (252645135 : Int32)) C0 dJ6_bitCount_0f7a4_29 mJ6_bitCount_0f7a4_2 rfl ?_
  refine zV_iand (n := 33) C0 dJ6_bitCount_0f7a4_32  rfl ?_
  refine zV_topi (fun x0_3 ex0_3 => ?_)
  replace h := zlet_of ex0_3 h
  clear ex0_3
  refine zV_istore_n (n := 34) C0 [(0, .int x0_3)] dJ6_bitCount_0f7a4_33 rfl rfl (Nat.le_of_ble_eq_true rfl) rfl ?_
  refine zV_iload_n (n := 35) C0 0 dJ6_bitCount_0f7a4_34 rfl rfl ?_
  refine zV_iload_n (n := 36) C0 0 dJ6_bitCount_0f7a4_35 rfl rfl ?_
  refine zV_bipush (n := 38) (v := (8 : Int32)) C0 dJ6_bitCount_0f7a4_36 rfl rfl ?_
  refine zV_iushr (n := 39) C0 dJ6_bitCount_0f7a4_38  rfl ?_
  refine zV_iadd (n := 40) C0 dJ6_bitCount_0f7a4_39  rfl ?_
  refine zV_topi (fun x0_4 ex0_4 => ?_)
  replace h := zlet_of ex0_4 h
  clear ex0_4
  refine zV_istore_n (n := 41) C0 [(0, .int x0_4)] dJ6_bitCount_0f7a4_40 rfl rfl (Nat.le_of_ble_eq_true rfl) rfl ?_
  refine zV_iload_n (n := 42) C0 0 dJ6_bitCount_0f7a4_41 rfl rfl ?_
  refine zV_iload_n (n := 43) C0 0 dJ6_bitCount_0f7a4_42 rfl rfl ?_
  refine zV_bipush (n := 45) (v := (16 : Int32)) C0 dJ6_bitCount_0f7a4_43 rfl rfl ?_
  refine zV_iushr (n := 46) C0 dJ6_bitCount_0f7a4_45  rfl ?_
  refine zV_iadd (n := 47) C0 dJ6_bitCount_0f7a4_46  rfl ?_
  refine zV_topi (fun x0_5 ex0_5 => ?_)
  replace h := zlet_of ex0_5 h
  clear ex0_5
  refine zV_istore_n (n := 48) C0 [(0, .int x0_5)] dJ6_bitCount_0f7a4_47 rfl rfl (Nat.le_of_ble_eq_true rfl) rfl ?_
  refine zV_iload_n (n := 49) C0 0 dJ6_bitCount_0f7a4_48 rfl rfl ?_
  refine zV_bipush (n := 51) (v := (63 : Int32)) C0 dJ6_bitCount_0f7a4_49 rfl rfl ?_
  refine zV_iand (n := 52) C0 dJ6_bitCount_0f7a4_51  rfl ?_
  exact zretI1 hR h rfl dJ6_bitCount_0f7a4_52
set_option maxRecDepth 20000 in
set_option maxHeartbeats 4000000 in
theorem k_X4_factorial {l : Launch} {D : va_G} {tys : List (ClassId × FieldType)} (a0 : Int32)  (r : Int32) (h : f_X4_factorial a0 = some r) : zI l yX4_factorial wsX4_factorial (zRm 0 0) D tys zNw (fun _ : Unit => []) [.int a0] () (r, ()) := by
  refine zI_of (cc := cX4_factorial) (maxL := 3) (ty := .int) (by decide +kernel) rfl (Nat.le_of_ble_eq_true rfl) zNw_ok (fun E hE1 hE2 C0 hR => ?_)
  subst hE1; subst hE2
  replace C0 : zCx E (zRm 0 0) cX4_factorial 3 RX4 wsX4_factorial tys zNw := C0
  show zV E (fun _ : Unit => []) 3 () 0 [(0, .int a0)] []
  delta f_X4_factorial at h
  refine zV_iconst (n := 1) (v := (1 : Int32)) C0 dX4_factorial_0 rfl rfl ?_
  refine zV_istore_n (n := 2) C0 [(1, .int (1 : Int32)), (0, .int a0)] dX4_factorial_1 rfl rfl (Nat.le_of_ble_eq_true rfl) rfl ?_
  refine zV_iconst (n := 3) (v := (2 : Int32)) C0 dX4_factorial_2 rfl rfl ?_
  refine zV_istore_n (n := 4) C0 [(2, .int (2 : Int32)), (1, .int (1 : Int32)), (0, .int a0)] dX4_factorial_3 rfl rfl (Nat.le_of_ble_eq_true rfl) rfl ?_
  refine zV_sub [2, 1, 0] rfl ?_
  refine zfix_ind (fun e => zV E (fun _ : Unit => []) 3 () 4 [(0, .int a0), (1, .int e.1), (2, .int e.2)] []) (fun rec_3 hrec_3 e h => ?_) zN ((1 : Int32), (2 : Int32)) h
  obtain ⟨x1_1, x2_2⟩ := e
  have Jrec_3 : ∀ (x1_1 : Int32) (x2_2 : Int32), rec_3 (x1_1, x2_2) = some r → zV E (fun _ : Unit => []) 3 () 4 [(0, .int a0), (1, .int x1_1), (2, .int x2_2)] [] := fun x1_1 x2_2 h => hrec_3 _ h
  clear hrec_3
  dsimp only [F_X4_factorial_4] at h
  show zV E (fun _ : Unit => []) 3 () 4 [(0, .int a0), (1, .int x1_1), (2, .int x2_2)] []
  refine zV_iload_n (n := 5) C0 2 dX4_factorial_4 rfl rfl ?_
  refine zV_iload_n (n := 6) C0 0 dX4_factorial_5 rfl rfl ?_
  refine zV_icmp_gt (tgt := 19) (n := 9) C0 dX4_factorial_6 rfl rfl (fun hb_5 => ?_) (fun hb_5 => ?_)
  · replace h := if_t hb_5 h
    refine zV_iload_n (n := 20) C0 1 dX4_factorial_19 rfl rfl ?_
    exact zretI1 hR h rfl dX4_factorial_20
  · replace h := if_f hb_5 h
    refine zV_iload_n (n := 10) C0 1 dX4_factorial_9 rfl rfl ?_
    refine zV_iload_n (n := 11) C0 2 dX4_factorial_10 rfl rfl ?_
    refine zV_imul (n := 12) C0 dX4_factorial_11  rfl ?_
    refine zV_topi (fun x1_4 ex1_4 => ?_)
    replace h := zlet_of ex1_4 h
    clear ex1_4
    refine zV_istore_n (n := 13) C0 [(1, .int x1_4), (0, .int a0), (2, .int x2_2)] dX4_factorial_12 rfl rfl (Nat.le_of_ble_eq_true rfl) rfl ?_
    refine zV_iinc (n := 16) C0 2 (v := (x2_2 + (1 : Int32))) [(2, .int (x2_2 + (1 : Int32))), (1, .int x1_4), (0, .int a0)] dX4_factorial_13 rfl rfl rfl (Nat.le_of_ble_eq_true rfl) rfl ?_
    refine zV_goto (tgt := 4) C0 dX4_factorial_16 rfl ?_
    refine zV_sub [2, 1, 0] rfl ?_
    exact Jrec_3 x1_4 (x2_2 + (1 : Int32)) h
set_option maxRecDepth 20000 in
set_option maxHeartbeats 4000000 in
theorem k_X4_fraction {l : Launch} {D : va_G} {tys : List (ClassId × FieldType)} (a0 : Int32) (a1 : Int32) (a2 : Int32)  (r : Int32) (h : f_X4_fraction a0 a1 a2 = some r) : zI l yX4_fraction wsX4_fraction (zRm 0 0) D tys zNw (fun _ : Unit => []) [.int a0, .int a1, .int a2] () (r, ()) := by
  refine zI_of (cc := cX4_fraction) (maxL := 7) (ty := .int) (by decide +kernel) rfl (Nat.le_of_ble_eq_true rfl) zNw_ok (fun E hE1 hE2 C0 hR => ?_)
  subst hE1; subst hE2
  replace C0 : zCx E (zRm 0 0) cX4_fraction 7 RX4 wsX4_fraction tys zNw := C0
  show zV E (fun _ : Unit => []) 7 () 0 [(0, .int a0), (1, .int a1), (2, .int a2)] []
  delta f_X4_fraction at h
  refine zV_iload_n (n := 1) C0 1 dX4_fraction_0 rfl rfl ?_
  refine zV_istore_n (n := 2) C0 [(3, .int a1), (0, .int a0), (1, .int a1), (2, .int a2)] dX4_fraction_1 rfl rfl (Nat.le_of_ble_eq_true rfl) rfl ?_
  refine zV_iload_n (n := 3) C0 1 dX4_fraction_2 rfl rfl ?_
  refine zV_istore (n := 5) C0 [(4, .int a0), (3, .int a1), (0, .int a0), (1, .int a1), (2, .int a2)] dX4_fraction_3 rfl (Nat.le_of_ble_eq_true rfl) rfl ?_
  refine zV_iconst (n := 6) (v := (0 : Int32)) C0 dX4_fraction_5 rfl rfl ?_
  refine zV_istore (n := 8) C0 [(5, .int (0 : Int32)), (4, .int a0), (3, .int a1), (0, .int a0), (1, .int a1), (2, .int a2)] dX4_fraction_6 rfl (Nat.le_of_ble_eq_true rfl) rfl ?_
  refine zV_sub [3, 4, 5, 2, 1, 0] rfl ?_
  refine zfix_ind (fun e => zV E (fun _ : Unit => []) 7 () 8 [(0, .int a0), (1, .int a1), (2, .int a2), (3, .int e.1), (4, .int e.2.1), (5, .int e.2.2)] []) (fun rec_4 hrec_4 e h => ?_) zN (a1, a0, (0 : Int32)) h
  obtain ⟨x3_1, x4_2, x5_3⟩ := e
  have Jrec_4 : ∀ (x3_1 : Int32) (x4_2 : Int32) (x5_3 : Int32), rec_4 (x3_1, x4_2, x5_3) = some r → zV E (fun _ : Unit => []) 7 () 8 [(0, .int a0), (1, .int a1), (2, .int a2), (3, .int x3_1), (4, .int x4_2), (5, .int x5_3)] [] := fun x3_1 x4_2 x5_3 h => hrec_4 _ h
  clear hrec_4
  dsimp only [F_X4_fraction_8] at h
  show zV E (fun _ : Unit => []) 7 () 8 [(0, .int a0), (1, .int a1), (2, .int a2), (3, .int x3_1), (4, .int x4_2), (5, .int x5_3)] []
  refine zV_iload (n := 10) C0 5 dX4_fraction_8 rfl rfl ?_
  refine zV_bipush (n := 12) (v := (100 : Int32)) C0 dX4_fraction_10 rfl rfl ?_
  refine zjoin_of h (fun k_5 hk_5 h => ?_)
  have Jk_5 : k_5 () = some r → zV E (fun _ : Unit => []) 7 () 39 [(0, .int a0), (1, .int a1), (2, .int a2), (3, .int x3_1)] [] := by
    intro  h
    replace h := hk_5 _ h
    refine zV_iload_n (n := 40) C0 2 dX4_fraction_39 rfl rfl ?_
    refine zjoin_of h (fun k_7 hk_7 h => ?_)
    have Jk_7 : ∀ (s_6 : Int32), k_7 (s_6) = some r → zV E (fun _ : Unit => []) 7 () 48 [(3, .int x3_1)] [.int s_6] := by
      intro s_6 h
      replace h := hk_7 _ h
      refine zV_istore (n := 50) C0 [(5, .int s_6), (3, .int x3_1)] dX4_fraction_48 rfl (Nat.le_of_ble_eq_true rfl) rfl ?_
      refine zV_iload_n (n := 51) C0 1 dX4_fraction_50 rfl rfl ?_
      refine zjoin_of h (fun k_9 hk_9 h => ?_)
      have Jk_9 : ∀ (s_8 : Int32), k_9 (s_8) = some r → zV E (fun _ : Unit => []) 7 () 63 [] [.int s_8] := by
        intro s_8 h
        replace h := hk_9 _ h
        exact zretI1 hR h rfl dX4_fraction_63
      clear hk_9
      refine zV_if_ne (tgt := 59) (n := 54) C0 dX4_fraction_51 rfl rfl (fun hb_11 => ?_) (fun hb_11 => ?_)
      · replace h := if_f hb_11 h
        refine zV_iload (n := 61) C0 0 dX4_fraction_59 rfl rfl ?_
        refine zV_iload_n (n := 62) C0 1 dX4_fraction_61 rfl rfl ?_
        obtain ⟨hg_10, h⟩ := gd_of h
        refine zV_idiv (n := 63) C0 dX4_fraction_62 hg_10 rfl ?_
        refine zV_sub [] rfl ?_
        exact Jk_9 (s_6 / x3_1) h
      · replace h := if_t hb_11 h
        refine zV_iload (n := 56) C0 0 dX4_fraction_54 rfl rfl ?_
        refine zV_goto (tgt := 63) C0 dX4_fraction_56 rfl ?_
        refine zV_sub [] rfl ?_
        exact Jk_9 s_6 h
    clear hk_7
    refine zV_if_eq (tgt := 47) (n := 43) C0 dX4_fraction_40 rfl rfl (fun hb_12 => ?_) (fun hb_12 => ?_)
    · replace h := if_t hb_12 h
      refine zV_iload_n (n := 48) C0 1 dX4_fraction_47 rfl rfl ?_
      refine zV_sub [3] rfl ?_
      exact Jk_7 a1 h
    · replace h := if_f hb_12 h
      refine zV_iload_n (n := 44) C0 0 dX4_fraction_43 rfl rfl ?_
      refine zV_goto (tgt := 48) C0 dX4_fraction_44 rfl ?_
      refine zV_sub [3] rfl ?_
      exact Jk_7 a0 h
  clear hk_5
  refine zV_icmp_ge (tgt := 39) (n := 15) C0 dX4_fraction_12 rfl rfl (fun hb_16 => ?_) (fun hb_16 => ?_)
  · replace h := if_t hb_16 h
    refine zV_sub [0, 1, 2, 3] rfl ?_
    exact Jk_5  h
  · replace h := if_f hb_16 h
    refine zV_iload (n := 17) C0 4 dX4_fraction_15 rfl rfl ?_
    refine zV_if_eq (tgt := 39) (n := 20) C0 dX4_fraction_17 rfl rfl (fun hb_15 => ?_) (fun hb_15 => ?_)
    · replace h := if_t hb_15 h
      refine zV_sub [0, 1, 2, 3] rfl ?_
      exact Jk_5  h
    · replace h := if_f hb_15 h
      refine zV_iload_n (n := 21) C0 3 dX4_fraction_20 rfl rfl ?_
      refine zV_iload (n := 23) C0 4 dX4_fraction_21 rfl rfl ?_
      obtain ⟨hg_13, h⟩ := gd_of h
      refine zV_irem (n := 24) C0 dX4_fraction_23 hg_13 rfl ?_
      refine zV_topi (fun x6_14 ex6_14 => ?_)
      replace h := zlet_of ex6_14 h
      clear ex6_14
      refine zV_istore (n := 26) C0 [(6, .int x6_14), (0, .int a0), (1, .int a1), (2, .int a2), (3, .int x3_1), (4, .int x4_2), (5, .int x5_3)] dX4_fraction_24 rfl (Nat.le_of_ble_eq_true rfl) rfl ?_
      refine zV_iload (n := 28) C0 5 dX4_fraction_26 rfl rfl ?_
      refine zV_istore_n (n := 29) C0 [(3, .int x4_2), (6, .int x6_14), (0, .int a0), (1, .int a1), (2, .int a2), (4, .int x4_2), (5, .int x5_3)] dX4_fraction_28 rfl rfl (Nat.le_of_ble_eq_true rfl) rfl ?_
      refine zV_iload (n := 31) C0 1 dX4_fraction_29 rfl rfl ?_
      refine zV_istore (n := 33) C0 [(4, .int x6_14), (3, .int x4_2), (6, .int x6_14), (0, .int a0), (1, .int a1), (2, .int a2), (5, .int x5_3)] dX4_fraction_31 rfl (Nat.le_of_ble_eq_true rfl) rfl ?_
      refine zV_iinc (n := 36) C0 6 (v := (x5_3 + (1 : Int32))) [(5, .int (x5_3 + (1 : Int32))), (4, .int x6_14), (3, .int x4_2), (6, .int x6_14), (0, .int a0), (1, .int a1), (2, .int a2)] dX4_fraction_33 rfl rfl rfl (Nat.le_of_ble_eq_true rfl) rfl ?_
      refine zV_goto (tgt := 8) C0 dX4_fraction_36 rfl ?_
      refine zV_sub [4, 5, 6, 2, 1, 0] rfl ?_
      exact Jrec_4 x4_2 x6_14 (x5_3 + (1 : Int32)) h
set_option maxRecDepth 20000 in
set_option maxHeartbeats 4000000 in
theorem k_X4_loss {l : Launch} {D : va_G} {tys : List (ClassId × FieldType)} (a0 : Int32) (a1 : Int32) (a2 : Int32)  (r : Int32) (h : f_X4_loss a0 a1 a2 = some r) : zI l yX4_loss wsX4_loss (zRm 0 0) D tys zNw (fun _ : Unit => []) [.int a0, .int a1, .int a2] () (r, ()) := by
  refine zI_of (cc := cX4_loss) (maxL := 3) (ty := .int) (by decide +kernel) rfl (Nat.le_of_ble_eq_true rfl) zNw_ok (fun E hE1 hE2 C0 hR => ?_)
  subst hE1; subst hE2
  replace C0 : zCx E (zRm 0 0) cX4_loss 3 RX4 wsX4_loss tys zNw := C0
  show zV E (fun _ : Unit => []) 3 () 0 [(0, .int a0), (1, .int a1), (2, .int a2)] []
  delta f_X4_loss at h
  refine zV_iload_n (n := 1) C0 1 dX4_loss_0 rfl rfl ?_
  refine zV_iload_n (n := 2) C0 2 dX4_loss_1 rfl rfl ?_
  refine zV_icmp_ne (tgt := 10) (n := 5) C0 dX4_loss_2 rfl rfl (fun hb_4 => ?_) (fun hb_4 => ?_)
  · replace h := if_f hb_4 h
    refine zV_iload_n (n := 11) C0 1 dX4_loss_10 rfl rfl ?_
    refine zV_iload_n (n := 12) C0 2 dX4_loss_11 rfl rfl ?_
    refine zjoin_of h (fun k_2 hk_2 h => ?_)
    have Jk_2 : ∀ (s_1 : Int32), k_2 (s_1) = some r → zV E (fun _ : Unit => []) 3 () 22 [] [.int s_1] := by
      intro s_1 h
      replace h := hk_2 _ h
      exact zretI1 hR h rfl dX4_loss_22
    clear hk_2
    refine zV_icmp_le (tgt := 21) (n := 15) C0 dX4_loss_12 rfl rfl (fun hb_3 => ?_) (fun hb_3 => ?_)
    · replace h := if_t hb_3 h
      refine zV_iload_n (n := 22) C0 1 dX4_loss_21 rfl rfl ?_
      refine zV_sub [] rfl ?_
      exact Jk_2 a1 h
    · replace h := if_f hb_3 h
      refine zV_iload_n (n := 16) C0 0 dX4_loss_15 rfl rfl ?_
      refine zV_iload_n (n := 17) C0 1 dX4_loss_16 rfl rfl ?_
      refine zV_iadd (n := 18) C0 dX4_loss_17  rfl ?_
      refine zV_goto (tgt := 22) C0 dX4_loss_18 rfl ?_
      refine zV_sub [] rfl ?_
      exact Jk_2 (a0 + a1) h
  · replace h := if_t hb_4 h
    refine zV_bipush (n := 7) (v := (6 : Int32)) C0 dX4_loss_5 rfl rfl ?_
    refine zV_iload_n (n := 8) C0 0 dX4_loss_7 rfl rfl ?_
    refine zV_iadd (n := 9) C0 dX4_loss_8  rfl ?_
    exact zretI1 hR h rfl dX4_loss_9
set_option maxRecDepth 20000 in
set_option maxHeartbeats 4000000 in
theorem k_X4_staysWith {l : Launch} {D : va_G} {tys : List (ClassId × FieldType)} (a0 : Int32) (a1 : Int32) (a2 : Int32)  (r : Int32) (h : f_X4_staysWith a0 a1 a2 = some r) : zI l yX4_staysWith wsX4_staysWith (zRm 1 22) D tys zNw (fun _ : Unit => []) [.int a0, .int a1, .int a2] () (r, ()) := by
  refine zI_of (cc := cX4_staysWith) (maxL := 4) (ty := .boolean) (by decide +kernel) rfl (Nat.le_of_ble_eq_true rfl) zNw_ok (fun E hE1 hE2 C0 hR => ?_)
  subst hE1; subst hE2
  replace C0 : zCx E (zRm 1 22) cX4_staysWith 4 RX4 wsX4_staysWith tys zNw := C0
  show zV E (fun _ : Unit => []) 4 () 0 [(0, .int a0), (1, .int a1), (2, .int a2)] []
  delta f_X4_staysWith at h
  refine zV_iconst (n := 1) (v := (0 : Int32)) C0 dX4_staysWith_0 rfl rfl ?_
  refine zV_istore_n (n := 2) C0 [(3, .int (0 : Int32)), (0, .int a0), (1, .int a1), (2, .int a2)] dX4_staysWith_1 rfl rfl (Nat.le_of_ble_eq_true rfl) rfl ?_
  refine zV_sub [1, 2, 3, 0] rfl ?_
  refine zfix_ind (fun e => zV E (fun _ : Unit => []) 4 () 2 [(0, .int a0), (1, .int a1), (2, .int a2), (3, .int e)] []) (fun rec_2 hrec_2 x3_1 h => ?_) zN (0 : Int32) h
  have Jrec_2 : ∀ (x3_1 : Int32), rec_2 x3_1 = some r → zV E (fun _ : Unit => []) 4 () 2 [(0, .int a0), (1, .int a1), (2, .int a2), (3, .int x3_1)] [] := fun x3_1 h => hrec_2 _ h
  clear hrec_2
  dsimp only [F_X4_staysWith_2] at h
  show zV E (fun _ : Unit => []) 4 () 2 [(0, .int a0), (1, .int a1), (2, .int a2), (3, .int x3_1)] []
  refine zV_iload_n (n := 3) C0 3 dX4_staysWith_2 rfl rfl ?_
  refine zV_iconst (n := 4) (v := (3 : Int32)) C0 dX4_staysWith_3 rfl rfl ?_
  refine zV_icmp_gt (tgt := 30) (n := 7) C0 dX4_staysWith_4 rfl rfl (fun hb_8 => ?_) (fun hb_8 => ?_)
  · replace h := if_t hb_8 h
    refine zV_iconst (n := 31) (v := (1 : Int32)) C0 dX4_staysWith_30 rfl rfl ?_
    exact zretI1 hR h rfl dX4_staysWith_31
  · replace h := if_f hb_8 h
    refine zV_iload_n (n := 8) C0 0 dX4_staysWith_7 rfl rfl ?_
    refine zV_iload_n (n := 9) C0 3 dX4_staysWith_8 rfl rfl ?_
    refine zV_iload_n (n := 10) C0 2 dX4_staysWith_9 rfl rfl ?_
    obtain ⟨r_4, hc_3, h⟩ := ob_of h
    refine zV_callS0 (n := 13) (st := []) (As := [.int a0, .int x3_1, .int a2]) C0 (k_X4_loss a0 x3_1 a2 _ hc_3) gX4_staysWith_X4_loss rfl (hd_X4_loss) rfl ⟨rfl, rfl⟩ ⟨Nat.le_of_ble_eq_true rfl, Nat.le_of_ble_eq_true rfl⟩ rfl (Nat.le_of_ble_eq_true rfl) dX4_staysWith_10 rfl ?_
    refine zV_iload_n (n := 14) C0 0 dX4_staysWith_13 rfl rfl ?_
    refine zV_iload_n (n := 15) C0 1 dX4_staysWith_14 rfl rfl ?_
    refine zV_iload_n (n := 16) C0 2 dX4_staysWith_15 rfl rfl ?_
    obtain ⟨r_6, hc_5, h⟩ := ob_of h
    refine zV_callS0 (n := 19) (st := [.int r_4]) (As := [.int a0, .int a1, .int a2]) C0 (k_X4_loss a0 a1 a2 _ hc_5) gX4_staysWith_X4_loss rfl (hd_X4_loss) rfl ⟨rfl, rfl⟩ ⟨Nat.le_of_ble_eq_true rfl, Nat.le_of_ble_eq_true rfl⟩ rfl (Nat.le_of_ble_eq_true rfl) dX4_staysWith_16 rfl ?_
    refine zV_icmp_ge (tgt := 24) (n := 22) C0 dX4_staysWith_19 rfl rfl (fun hb_7 => ?_) (fun hb_7 => ?_)
    · replace h := if_t hb_7 h
      refine zV_iinc (n := 27) C0 3 (v := (x3_1 + (1 : Int32))) [(3, .int (x3_1 + (1 : Int32))), (0, .int a0), (1, .int a1), (2, .int a2)] dX4_staysWith_24 rfl rfl rfl (Nat.le_of_ble_eq_true rfl) rfl ?_
      refine zV_goto (tgt := 2) C0 dX4_staysWith_27 rfl ?_
      refine zV_sub [1, 2, 3, 0] rfl ?_
      exact Jrec_2 (x3_1 + (1 : Int32)) h
    · replace h := if_f hb_7 h
      refine zV_iconst (n := 23) (v := (0 : Int32)) C0 dX4_staysWith_22 rfl rfl ?_
      exact zretI1 hR h rfl dX4_staysWith_23
set_option maxRecDepth 20000 in
set_option maxHeartbeats 4000000 in
theorem k_X5_in {l : Launch} {D : va_G} {tys : List (ClassId × FieldType)} (b0 : Int64) (b2 : Int64) (b4 : Int64)  (r : Int32) (h : f_X5_in b0 b2 b4 = some r) : zI l yX5_in wsX5_in (zRm 0 0) D tys zNw (fun _ : Unit => []) [.long b0, .long b2, .long b4] () (r, ()) := by
  refine zI_of (cc := cX5_in) (maxL := 6) (ty := .boolean) (by decide +kernel) rfl (Nat.le_of_ble_eq_true rfl) zNw_ok (fun E hE1 hE2 C0 hR => ?_)
  subst hE1; subst hE2
  replace C0 : zCx E (zRm 0 0) cX5_in 6 RX5 wsX5_in tys zNw := C0
  show zV E (fun _ : Unit => []) 6 () 0 [(0, .long b0), (2, .long b2), (4, .long b4)] []
  delta f_X5_in at h
  refine zV_lload_n (n := 1) C0 0 dX5_in_0 rfl rfl ?_
  refine zV_lload_n (n := 2) C0 1 dX5_in_1 rfl rfl ?_
  refine zV_lcmp (n := 3) C0 dX5_in_2  rfl ?_
  refine zjoin_of h (fun k_2 hk_2 h => ?_)
  have Jk_2 : ∀ (s_1 : Int32), k_2 (s_1) = some r → zV E (fun _ : Unit => []) 6 () 18 [] [.int s_1] := by
    intro s_1 h
    replace h := hk_2 _ h
    obtain ⟨hz, h⟩ := gd_of h
    exact zretI1 hR h (znz hz) dX5_in_18
  clear hk_2
  refine zjoin_of h (fun k_3 hk_3 h => ?_)
  have Jk_3 : k_3 () = some r → zV E (fun _ : Unit => []) 6 () 17 [] [] := by
    intro  h
    replace h := hk_3 _ h
    refine zV_iconst (n := 18) (v := (0 : Int32)) C0 dX5_in_17 rfl rfl ?_
    exact Jk_2 (0 : Int32) h
  clear hk_3
  refine zV_if_lt (tgt := 17) (n := 6) C0 dX5_in_3 rfl rfl (fun hb_5 => ?_) (fun hb_5 => ?_)
  · replace h := if_t hb_5 h
    refine zV_sub [] rfl ?_
    exact Jk_3  h
  · replace h := if_f hb_5 h
    refine zV_lload_n (n := 7) C0 0 dX5_in_6 rfl rfl ?_
    refine zV_lload (n := 9) C0 2 dX5_in_7 rfl rfl ?_
    refine zV_lcmp (n := 10) C0 dX5_in_9  rfl ?_
    refine zV_if_gt (tgt := 17) (n := 13) C0 dX5_in_10 rfl rfl (fun hb_4 => ?_) (fun hb_4 => ?_)
    · replace h := if_t hb_4 h
      refine zV_sub [] rfl ?_
      exact Jk_3  h
    · replace h := if_f hb_4 h
      refine zV_iconst (n := 14) (v := (1 : Int32)) C0 dX5_in_13 rfl rfl ?_
      refine zV_goto (tgt := 18) C0 dX5_in_14 rfl ?_
      refine zV_sub [] rfl ?_
      exact Jk_2 (1 : Int32) h
set_option maxRecDepth 20000 in
set_option maxHeartbeats 4000000 in
theorem k_X5_has {l : Launch} {D : va_G} {tys : List (ClassId × FieldType)} (a0 : Int32) (a1 : Int32)  (r : Int32) (h : f_X5_has a0 a1 = some r) : zI l yX5_has wsX5_has (zRm 0 0) D tys zNw (fun _ : Unit => []) [.int a0, .int a1] () (r, ()) := by
  refine zI_of (cc := cX5_has) (maxL := 2) (ty := .boolean) (by decide +kernel) rfl (Nat.le_of_ble_eq_true rfl) zNw_ok (fun E hE1 hE2 C0 hR => ?_)
  subst hE1; subst hE2
  replace C0 : zCx E (zRm 0 0) cX5_has 2 RX5 wsX5_has tys zNw := C0
  show zV E (fun _ : Unit => []) 2 () 0 [(0, .int a0), (1, .int a1)] []
  delta f_X5_has at h
  refine zV_iload_n (n := 1) C0 0 dX5_has_0 rfl rfl ?_
  refine zV_iload_n (n := 2) C0 1 dX5_has_1 rfl rfl ?_
  refine zV_ishr (n := 3) C0 dX5_has_2  rfl ?_
  refine zV_iconst (n := 4) (v := (1 : Int32)) C0 dX5_has_3 rfl rfl ?_
  refine zV_iand (n := 5) C0 dX5_has_4  rfl ?_
  refine zV_iconst (n := 6) (v := (1 : Int32)) C0 dX5_has_5 rfl rfl ?_
  refine zjoin_of h (fun k_2 hk_2 h => ?_)
  have Jk_2 : ∀ (s_1 : Int32), k_2 (s_1) = some r → zV E (fun _ : Unit => []) 2 () 14 [] [.int s_1] := by
    intro s_1 h
    replace h := hk_2 _ h
    obtain ⟨hz, h⟩ := gd_of h
    exact zretI1 hR h (znz hz) dX5_has_14
  clear hk_2
  refine zV_icmp_ne (tgt := 13) (n := 9) C0 dX5_has_6 rfl rfl (fun hb_3 => ?_) (fun hb_3 => ?_)
  · replace h := if_f hb_3 h
    refine zV_iconst (n := 14) (v := (0 : Int32)) C0 dX5_has_13 rfl rfl ?_
    refine zV_sub [] rfl ?_
    exact Jk_2 (0 : Int32) h
  · replace h := if_t hb_3 h
    refine zV_iconst (n := 10) (v := (1 : Int32)) C0 dX5_has_9 rfl rfl ?_
    refine zV_goto (tgt := 14) C0 dX5_has_10 rfl ?_
    refine zV_sub [] rfl ?_
    exact Jk_2 (1 : Int32) h
set_option maxRecDepth 20000 in
set_option maxHeartbeats 4000000 in
theorem k_X5_many {l : Launch} {D : va_G} {tys : List (ClassId × FieldType)} (a0 : Int32)  (r : Int32) (h : f_X5_many a0 = some r) : zI l yX5_many wsX5_many (zRm 0 0) D tys zNw (fun _ : Unit => []) [.int a0] () (r, ()) := by
  refine zI_of (cc := cX5_many) (maxL := 3) (ty := .int) (by decide +kernel) rfl (Nat.le_of_ble_eq_true rfl) zNw_ok (fun E hE1 hE2 C0 hR => ?_)
  subst hE1; subst hE2
  replace C0 : zCx E (zRm 0 0) cX5_many 3 RX5 wsX5_many tys zNw := C0
  show zV E (fun _ : Unit => []) 3 () 0 [(0, .int a0)] []
  delta f_X5_many at h
  refine zV_iconst (n := 1) (v := (0 : Int32)) C0 dX5_many_0 rfl rfl ?_
  refine zV_istore_n (n := 2) C0 [(1, .int (0 : Int32)), (0, .int a0)] dX5_many_1 rfl rfl (Nat.le_of_ble_eq_true rfl) rfl ?_
  refine zV_iconst (n := 3) (v := (0 : Int32)) C0 dX5_many_2 rfl rfl ?_
  refine zV_istore_n (n := 4) C0 [(2, .int (0 : Int32)), (1, .int (0 : Int32)), (0, .int a0)] dX5_many_3 rfl rfl (Nat.le_of_ble_eq_true rfl) rfl ?_
  refine zV_sub [2, 1, 0] rfl ?_
  refine zfix_ind (fun e => zV E (fun _ : Unit => []) 3 () 4 [(0, .int a0), (1, .int e.1), (2, .int e.2)] []) (fun rec_3 hrec_3 e h => ?_) zN ((0 : Int32), (0 : Int32)) h
  obtain ⟨x1_1, x2_2⟩ := e
  have Jrec_3 : ∀ (x1_1 : Int32) (x2_2 : Int32), rec_3 (x1_1, x2_2) = some r → zV E (fun _ : Unit => []) 3 () 4 [(0, .int a0), (1, .int x1_1), (2, .int x2_2)] [] := fun x1_1 x2_2 h => hrec_3 _ h
  clear hrec_3
  dsimp only [F_X5_many_4] at h
  show zV E (fun _ : Unit => []) 3 () 4 [(0, .int a0), (1, .int x1_1), (2, .int x2_2)] []
  refine zV_iload_n (n := 5) C0 2 dX5_many_4 rfl rfl ?_
  refine zV_bipush (n := 7) (v := (8 : Int32)) C0 dX5_many_5 rfl rfl ?_
  refine zV_icmp_ge (tgt := 24) (n := 10) C0 dX5_many_7 rfl rfl (fun hb_5 => ?_) (fun hb_5 => ?_)
  · replace h := if_t hb_5 h
    refine zV_iload_n (n := 25) C0 1 dX5_many_24 rfl rfl ?_
    exact zretI1 hR h rfl dX5_many_25
  · replace h := if_f hb_5 h
    refine zV_iload_n (n := 11) C0 1 dX5_many_10 rfl rfl ?_
    refine zV_iload_n (n := 12) C0 0 dX5_many_11 rfl rfl ?_
    refine zV_iload_n (n := 13) C0 2 dX5_many_12 rfl rfl ?_
    refine zV_ishr (n := 14) C0 dX5_many_13  rfl ?_
    refine zV_iconst (n := 15) (v := (1 : Int32)) C0 dX5_many_14 rfl rfl ?_
    refine zV_iand (n := 16) C0 dX5_many_15  rfl ?_
    refine zV_iadd (n := 17) C0 dX5_many_16  rfl ?_
    refine zV_topi (fun x1_4 ex1_4 => ?_)
    replace h := zlet_of ex1_4 h
    clear ex1_4
    refine zV_istore_n (n := 18) C0 [(1, .int x1_4), (0, .int a0), (2, .int x2_2)] dX5_many_17 rfl rfl (Nat.le_of_ble_eq_true rfl) rfl ?_
    refine zV_iinc (n := 21) C0 2 (v := (x2_2 + (1 : Int32))) [(2, .int (x2_2 + (1 : Int32))), (1, .int x1_4), (0, .int a0)] dX5_many_18 rfl rfl rfl (Nat.le_of_ble_eq_true rfl) rfl ?_
    refine zV_goto (tgt := 4) C0 dX5_many_21 rfl ?_
    refine zV_sub [2, 1, 0] rfl ?_
    exact Jrec_3 x1_4 (x2_2 + (1 : Int32)) h
set_option maxRecDepth 20000 in
set_option maxHeartbeats 4000000 in
theorem k_X5_minutes {l : Launch} {D : va_G} {tys : List (ClassId × FieldType)} (a0 : Int32)  (r : Int32) (h : f_X5_minutes a0 = some r) : zI l yX5_minutes wsX5_minutes (zRm 0 0) D tys zNw (fun _ : Unit => []) [.int a0] () (r, ()) := by
  refine zI_of (cc := cX5_minutes) (maxL := 1) (ty := .int) (by decide +kernel) rfl (Nat.le_of_ble_eq_true rfl) zNw_ok (fun E hE1 hE2 C0 hR => ?_)
  subst hE1; subst hE2
  replace C0 : zCx E (zRm 0 0) cX5_minutes 1 RX5 wsX5_minutes tys zNw := C0
  show zV E (fun _ : Unit => []) 1 () 0 [(0, .int a0)] []
  delta f_X5_minutes at h
  refine zV_iload_n (n := 1) C0 0 dX5_minutes_0 rfl rfl ?_
  refine zV_iconst (n := 2) (v := (1 : Int32)) C0 dX5_minutes_1 rfl rfl ?_
  refine zjoin_of h (fun k_2 hk_2 h => ?_)
  have Jk_2 : ∀ (s_1 : Int32), k_2 (s_1) = some r → zV E (fun _ : Unit => []) 1 () 19 [] [.int s_1] := by
    intro s_1 h
    replace h := hk_2 _ h
    exact zretI1 hR h rfl dX5_minutes_19
  clear hk_2
  refine zV_icmp_ne (tgt := 9) (n := 5) C0 dX5_minutes_2 rfl rfl (fun hb_4 => ?_) (fun hb_4 => ?_)
  · replace h := if_f hb_4 h
    refine zV_iload_n (n := 10) C0 0 dX5_minutes_9 rfl rfl ?_
    refine zV_iconst (n := 11) (v := (3 : Int32)) C0 dX5_minutes_10 rfl rfl ?_
    refine zV_icmp_ne (tgt := 18) (n := 14) C0 dX5_minutes_11 rfl rfl (fun hb_3 => ?_) (fun hb_3 => ?_)
    · replace h := if_f hb_3 h
      refine zV_iconst (n := 19) (v := (1 : Int32)) C0 dX5_minutes_18 rfl rfl ?_
      refine zV_sub [] rfl ?_
      exact Jk_2 (1 : Int32) h
    · replace h := if_t hb_3 h
      refine zV_iconst (n := 15) (v := (3 : Int32)) C0 dX5_minutes_14 rfl rfl ?_
      refine zV_goto (tgt := 19) C0 dX5_minutes_15 rfl ?_
      refine zV_sub [] rfl ?_
      exact Jk_2 (3 : Int32) h
  · replace h := if_t hb_4 h
    refine zV_iconst (n := 6) (v := (2 : Int32)) C0 dX5_minutes_5 rfl rfl ?_
    refine zV_goto (tgt := 19) C0 dX5_minutes_6 rfl ?_
    refine zV_sub [] rfl ?_
    exact Jk_2 (2 : Int32) h
set_option maxRecDepth 20000 in
set_option maxHeartbeats 4000000 in
theorem k_X5_next {l : Launch} {D : va_G} {tys : List (ClassId × FieldType)} (a0 : Int32) (a1 : Int32)  (r : Int32) (h : f_X5_next a0 a1 = some r) : zI l yX5_next wsX5_next (zRm 0 0) D tys zNw (fun _ : Unit => []) [.int a0, .int a1] () (r, ()) := by
  refine zI_of (cc := cX5_next) (maxL := 2) (ty := .int) (by decide +kernel) rfl (Nat.le_of_ble_eq_true rfl) zNw_ok (fun E hE1 hE2 C0 hR => ?_)
  subst hE1; subst hE2
  replace C0 : zCx E (zRm 0 0) cX5_next 2 RX5 wsX5_next tys zNw := C0
  show zV E (fun _ : Unit => []) 2 () 0 [(0, .int a0), (1, .int a1)] []
  delta f_X5_next at h
  refine zV_iload_n (n := 1) C0 0 dX5_next_0 rfl rfl ?_
  refine zV_iload_n (n := 2) C0 1 dX5_next_1 rfl rfl ?_
  refine zV_iconst (n := 3) (v := (2 : Int32)) C0 dX5_next_2 rfl rfl ?_
  refine zjoin_of h (fun k_2 hk_2 h => ?_)
  have Jk_2 : ∀ (s_1 : Int32), k_2 (s_1) = some r → zV E (fun _ : Unit => []) 2 () 11 [] [.int s_1, .int a0] := by
    intro s_1 h
    replace h := hk_2 _ h
    refine zV_iadd (n := 12) C0 dX5_next_11  rfl ?_
    refine zV_iconst (n := 13) (v := (4 : Int32)) C0 dX5_next_12 rfl rfl ?_
    refine zV_irem (n := 14) C0 dX5_next_13 (by decide) rfl ?_
    exact zretI1 hR h rfl dX5_next_14
  clear hk_2
  refine zV_icmp_ne (tgt := 10) (n := 6) C0 dX5_next_3 rfl rfl (fun hb_3 => ?_) (fun hb_3 => ?_)
  · replace h := if_f hb_3 h
    refine zV_iconst (n := 11) (v := (1 : Int32)) C0 dX5_next_10 rfl rfl ?_
    refine zV_sub [] rfl ?_
    exact Jk_2 (1 : Int32) h
  · replace h := if_t hb_3 h
    refine zV_iconst (n := 7) (v := (2 : Int32)) C0 dX5_next_6 rfl rfl ?_
    refine zV_goto (tgt := 11) C0 dX5_next_7 rfl ?_
    refine zV_sub [] rfl ?_
    exact Jk_2 (2 : Int32) h
set_option maxRecDepth 20000 in
set_option maxHeartbeats 4000000 in
theorem k_X5_power {l : Launch} {D : va_G} {tys : List (ClassId × FieldType)} (a0 : Int32) (a1 : Int32)  (r : Int32) (h : f_X5_power a0 a1 = some r) : zI l yX5_power wsX5_power (zRm 0 0) D tys zNw (fun _ : Unit => []) [.int a0, .int a1] () (r, ()) := by
  refine zI_of (cc := cX5_power) (maxL := 4) (ty := .int) (by decide +kernel) rfl (Nat.le_of_ble_eq_true rfl) zNw_ok (fun E hE1 hE2 C0 hR => ?_)
  subst hE1; subst hE2
  replace C0 : zCx E (zRm 0 0) cX5_power 4 RX5 wsX5_power tys zNw := C0
  show zV E (fun _ : Unit => []) 4 () 0 [(0, .int a0), (1, .int a1)] []
  delta f_X5_power at h
  refine zV_iconst (n := 1) (v := (1 : Int32)) C0 dX5_power_0 rfl rfl ?_
  refine zV_istore_n (n := 2) C0 [(2, .int (1 : Int32)), (0, .int a0), (1, .int a1)] dX5_power_1 rfl rfl (Nat.le_of_ble_eq_true rfl) rfl ?_
  refine zV_iconst (n := 3) (v := (0 : Int32)) C0 dX5_power_2 rfl rfl ?_
  refine zV_istore_n (n := 4) C0 [(3, .int (0 : Int32)), (2, .int (1 : Int32)), (0, .int a0), (1, .int a1)] dX5_power_3 rfl rfl (Nat.le_of_ble_eq_true rfl) rfl ?_
  refine zV_sub [2, 3, 1, 0] rfl ?_
  refine zfix_ind (fun e => zV E (fun _ : Unit => []) 4 () 4 [(0, .int a0), (1, .int a1), (2, .int e.1), (3, .int e.2)] []) (fun rec_3 hrec_3 e h => ?_) zN ((1 : Int32), (0 : Int32)) h
  obtain ⟨x2_1, x3_2⟩ := e
  have Jrec_3 : ∀ (x2_1 : Int32) (x3_2 : Int32), rec_3 (x2_1, x3_2) = some r → zV E (fun _ : Unit => []) 4 () 4 [(0, .int a0), (1, .int a1), (2, .int x2_1), (3, .int x3_2)] [] := fun x2_1 x3_2 h => hrec_3 _ h
  clear hrec_3
  dsimp only [F_X5_power_4] at h
  show zV E (fun _ : Unit => []) 4 () 4 [(0, .int a0), (1, .int a1), (2, .int x2_1), (3, .int x3_2)] []
  refine zV_iload_n (n := 5) C0 3 dX5_power_4 rfl rfl ?_
  refine zV_iload_n (n := 6) C0 1 dX5_power_5 rfl rfl ?_
  refine zV_icmp_ge (tgt := 19) (n := 9) C0 dX5_power_6 rfl rfl (fun hb_5 => ?_) (fun hb_5 => ?_)
  · replace h := if_t hb_5 h
    refine zV_iload_n (n := 20) C0 2 dX5_power_19 rfl rfl ?_
    exact zretI1 hR h rfl dX5_power_20
  · replace h := if_f hb_5 h
    refine zV_iload_n (n := 10) C0 2 dX5_power_9 rfl rfl ?_
    refine zV_iload_n (n := 11) C0 0 dX5_power_10 rfl rfl ?_
    refine zV_imul (n := 12) C0 dX5_power_11  rfl ?_
    refine zV_topi (fun x2_4 ex2_4 => ?_)
    replace h := zlet_of ex2_4 h
    clear ex2_4
    refine zV_istore_n (n := 13) C0 [(2, .int x2_4), (0, .int a0), (1, .int a1), (3, .int x3_2)] dX5_power_12 rfl rfl (Nat.le_of_ble_eq_true rfl) rfl ?_
    refine zV_iinc (n := 16) C0 3 (v := (x3_2 + (1 : Int32))) [(3, .int (x3_2 + (1 : Int32))), (2, .int x2_4), (0, .int a0), (1, .int a1)] dX5_power_13 rfl rfl rfl (Nat.le_of_ble_eq_true rfl) rfl ?_
    refine zV_goto (tgt := 4) C0 dX5_power_16 rfl ?_
    refine zV_sub [2, 3, 1, 0] rfl ?_
    exact Jrec_3 x2_4 (x3_2 + (1 : Int32)) h
set_option maxRecDepth 20000 in
set_option maxHeartbeats 4000000 in
theorem k_X5_ways {l : Launch} {D : va_G} {tys : List (ClassId × FieldType)} (a0 : Int32)  (r : Int32) (h : f_X5_ways a0 = some r) : zI l yX5_ways wsX5_ways (zRm 0 0) D tys zNw (fun _ : Unit => []) [.int a0] () (r, ()) := by
  refine zI_of (cc := cX5_ways) (maxL := 3) (ty := .int) (by decide +kernel) rfl (Nat.le_of_ble_eq_true rfl) zNw_ok (fun E hE1 hE2 C0 hR => ?_)
  subst hE1; subst hE2
  replace C0 : zCx E (zRm 0 0) cX5_ways 3 RX5 wsX5_ways tys zNw := C0
  show zV E (fun _ : Unit => []) 3 () 0 [(0, .int a0)] []
  delta f_X5_ways at h
  refine zV_iconst (n := 1) (v := (1 : Int32)) C0 dX5_ways_0 rfl rfl ?_
  refine zV_istore_n (n := 2) C0 [(1, .int (1 : Int32)), (0, .int a0)] dX5_ways_1 rfl rfl (Nat.le_of_ble_eq_true rfl) rfl ?_
  refine zV_iconst (n := 3) (v := (2 : Int32)) C0 dX5_ways_2 rfl rfl ?_
  refine zV_istore_n (n := 4) C0 [(2, .int (2 : Int32)), (1, .int (1 : Int32)), (0, .int a0)] dX5_ways_3 rfl rfl (Nat.le_of_ble_eq_true rfl) rfl ?_
  refine zV_sub [2, 1, 0] rfl ?_
  refine zfix_ind (fun e => zV E (fun _ : Unit => []) 3 () 4 [(0, .int a0), (1, .int e.1), (2, .int e.2)] []) (fun rec_3 hrec_3 e h => ?_) zN ((1 : Int32), (2 : Int32)) h
  obtain ⟨x1_1, x2_2⟩ := e
  have Jrec_3 : ∀ (x1_1 : Int32) (x2_2 : Int32), rec_3 (x1_1, x2_2) = some r → zV E (fun _ : Unit => []) 3 () 4 [(0, .int a0), (1, .int x1_1), (2, .int x2_2)] [] := fun x1_1 x2_2 h => hrec_3 _ h
  clear hrec_3
  dsimp only [F_X5_ways_4] at h
  show zV E (fun _ : Unit => []) 3 () 4 [(0, .int a0), (1, .int x1_1), (2, .int x2_2)] []
  refine zV_iload_n (n := 5) C0 2 dX5_ways_4 rfl rfl ?_
  refine zV_iload_n (n := 6) C0 0 dX5_ways_5 rfl rfl ?_
  refine zV_icmp_gt (tgt := 19) (n := 9) C0 dX5_ways_6 rfl rfl (fun hb_5 => ?_) (fun hb_5 => ?_)
  · replace h := if_t hb_5 h
    refine zV_iload_n (n := 20) C0 1 dX5_ways_19 rfl rfl ?_
    exact zretI1 hR h rfl dX5_ways_20
  · replace h := if_f hb_5 h
    refine zV_iload_n (n := 10) C0 1 dX5_ways_9 rfl rfl ?_
    refine zV_iload_n (n := 11) C0 2 dX5_ways_10 rfl rfl ?_
    refine zV_imul (n := 12) C0 dX5_ways_11  rfl ?_
    refine zV_topi (fun x1_4 ex1_4 => ?_)
    replace h := zlet_of ex1_4 h
    clear ex1_4
    refine zV_istore_n (n := 13) C0 [(1, .int x1_4), (0, .int a0), (2, .int x2_2)] dX5_ways_12 rfl rfl (Nat.le_of_ble_eq_true rfl) rfl ?_
    refine zV_iinc (n := 16) C0 2 (v := (x2_2 + (1 : Int32))) [(2, .int (x2_2 + (1 : Int32))), (1, .int x1_4), (0, .int a0)] dX5_ways_13 rfl rfl rfl (Nat.le_of_ble_eq_true rfl) rfl ?_
    refine zV_goto (tgt := 4) C0 dX5_ways_16 rfl ?_
    refine zV_sub [2, 1, 0] rfl ?_
    exact Jrec_3 x1_4 (x2_2 + (1 : Int32)) h
set_option maxRecDepth 20000 in
set_option maxHeartbeats 4000000 in
theorem k_X5_divisor {l : Launch} {D : va_G} {tys : List (ClassId × FieldType)} (a0 : Int32) (a1 : Int32)  (r : Int32) (h : f_X5_divisor a0 a1 = some r) : zI l yX5_divisor wsX5_divisor (zRm 0 0) D tys zNw (fun _ : Unit => []) [.int a0, .int a1] () (r, ()) := by
  refine zI_of (cc := cX5_divisor) (maxL := 5) (ty := .int) (by decide +kernel) rfl (Nat.le_of_ble_eq_true rfl) zNw_ok (fun E hE1 hE2 C0 hR => ?_)
  subst hE1; subst hE2
  replace C0 : zCx E (zRm 0 0) cX5_divisor 5 RX5 wsX5_divisor tys zNw := C0
  show zV E (fun _ : Unit => []) 5 () 0 [(0, .int a0), (1, .int a1)] []
  delta f_X5_divisor at h
  refine zV_iload_n (n := 1) C0 0 dX5_divisor_0 rfl rfl ?_
  refine zjoin_of h (fun k_2 hk_2 h => ?_)
  have Jk_2 : ∀ (s_1 : Int32), k_2 (s_1) = some r → zV E (fun _ : Unit => []) 5 () 10 [(1, .int a1)] [.int s_1] := by
    intro s_1 h
    replace h := hk_2 _ h
    refine zV_istore_n (n := 11) C0 [(2, .int s_1), (1, .int a1)] dX5_divisor_10 rfl rfl (Nat.le_of_ble_eq_true rfl) rfl ?_
    refine zV_iload_n (n := 12) C0 1 dX5_divisor_11 rfl rfl ?_
    refine zV_istore_n (n := 13) C0 [(3, .int a1), (2, .int s_1), (1, .int a1)] dX5_divisor_12 rfl rfl (Nat.le_of_ble_eq_true rfl) rfl ?_
    refine zV_sub [1, 0] rfl ?_
    refine zfix_ind (fun e => zV E (fun _ : Unit => []) 5 () 13 [(2, .int e.1), (3, .int e.2)] []) (fun rec_5 hrec_5 e h => ?_) zN (s_1, a1) h
    obtain ⟨x2_3, x3_4⟩ := e
    have Jrec_5 : ∀ (x2_3 : Int32) (x3_4 : Int32), rec_5 (x2_3, x3_4) = some r → zV E (fun _ : Unit => []) 5 () 13 [(2, .int x2_3), (3, .int x3_4)] [] := fun x2_3 x3_4 h => hrec_5 _ h
    clear hrec_5
    dsimp only [F_X5_divisor_13] at h
    show zV E (fun _ : Unit => []) 5 () 13 [(2, .int x2_3), (3, .int x3_4)] []
    refine zV_iload_n (n := 14) C0 1 dX5_divisor_13 rfl rfl ?_
    refine zV_if_eq (tgt := 30) (n := 17) C0 dX5_divisor_14 rfl rfl (fun hb_8 => ?_) (fun hb_8 => ?_)
    · replace h := if_t hb_8 h
      refine zV_iload_n (n := 31) C0 0 dX5_divisor_30 rfl rfl ?_
      exact zretI1 hR h rfl dX5_divisor_31
    · replace h := if_f hb_8 h
      refine zV_iload_n (n := 18) C0 0 dX5_divisor_17 rfl rfl ?_
      refine zV_iload_n (n := 19) C0 1 dX5_divisor_18 rfl rfl ?_
      obtain ⟨hg_6, h⟩ := gd_of h
      refine zV_irem (n := 20) C0 dX5_divisor_19 hg_6 rfl ?_
      refine zV_topi (fun x4_7 ex4_7 => ?_)
      replace h := zlet_of ex4_7 h
      clear ex4_7
      refine zV_istore (n := 22) C0 [(4, .int x4_7), (2, .int x2_3), (3, .int x3_4)] dX5_divisor_20 rfl (Nat.le_of_ble_eq_true rfl) rfl ?_
      refine zV_iload_n (n := 23) C0 2 dX5_divisor_22 rfl rfl ?_
      refine zV_istore_n (n := 24) C0 [(2, .int x3_4), (4, .int x4_7), (3, .int x3_4)] dX5_divisor_23 rfl rfl (Nat.le_of_ble_eq_true rfl) rfl ?_
      refine zV_iload (n := 26) C0 1 dX5_divisor_24 rfl rfl ?_
      refine zV_istore_n (n := 27) C0 [(3, .int x4_7), (2, .int x3_4), (4, .int x4_7)] dX5_divisor_26 rfl rfl (Nat.le_of_ble_eq_true rfl) rfl ?_
      refine zV_goto (tgt := 13) C0 dX5_divisor_27 rfl ?_
      refine zV_sub [1, 0] rfl ?_
      exact Jrec_5 x3_4 x4_7 h
  clear hk_2
  refine zV_if_ge (tgt := 9) (n := 4) C0 dX5_divisor_1 rfl rfl (fun hb_9 => ?_) (fun hb_9 => ?_)
  · replace h := if_t hb_9 h
    refine zV_iload_n (n := 10) C0 0 dX5_divisor_9 rfl rfl ?_
    refine zV_sub [1] rfl ?_
    exact Jk_2 a0 h
  · replace h := if_f hb_9 h
    refine zV_iload_n (n := 5) C0 0 dX5_divisor_4 rfl rfl ?_
    refine zV_ineg (n := 6) C0 dX5_divisor_5  rfl ?_
    refine zV_goto (tgt := 10) C0 dX5_divisor_6 rfl ?_
    refine zV_sub [1] rfl ?_
    exact Jk_2 (-a0) h
set_option maxRecDepth 20000 in
set_option maxHeartbeats 4000000 in
theorem k_X5_fraction {l : Launch} {D : va_G} {tys : List (ClassId × FieldType)} (a0 : Int32) (a1 : Int32) (a2 : Int32)  (r : Int32) (h : f_X5_fraction a0 a1 a2 = some r) : zI l yX5_fraction wsX5_fraction (zRm 1 24) D tys zNw (fun _ : Unit => []) [.int a0, .int a1, .int a2] () (r, ()) := by
  refine zI_of (cc := cX5_fraction) (maxL := 4) (ty := .int) (by decide +kernel) rfl (Nat.le_of_ble_eq_true rfl) zNw_ok (fun E hE1 hE2 C0 hR => ?_)
  subst hE1; subst hE2
  replace C0 : zCx E (zRm 1 24) cX5_fraction 4 RX5 wsX5_fraction tys zNw := C0
  show zV E (fun _ : Unit => []) 4 () 0 [(0, .int a0), (1, .int a1), (2, .int a2)] []
  delta f_X5_fraction at h
  refine zV_iload_n (n := 1) C0 0 dX5_fraction_0 rfl rfl ?_
  refine zV_iload_n (n := 2) C0 1 dX5_fraction_1 rfl rfl ?_
  obtain ⟨r_2, hc_1, h⟩ := ob_of h
  refine zV_callS0 (n := 5) (st := []) (As := [.int a0, .int a1]) C0 (k_X5_divisor a0 a1 _ hc_1) gX5_fraction_X5_divisor rfl (hd_X5_divisor) rfl ⟨rfl, rfl⟩ ⟨Nat.le_of_ble_eq_true rfl, Nat.le_of_ble_eq_true rfl⟩ rfl (Nat.le_of_ble_eq_true rfl) dX5_fraction_2 rfl ?_
  refine zV_istore_n (n := 6) C0 [(3, .int r_2), (0, .int a0), (1, .int a1), (2, .int a2)] dX5_fraction_5 rfl rfl (Nat.le_of_ble_eq_true rfl) rfl ?_
  refine zV_iload_n (n := 7) C0 3 dX5_fraction_6 rfl rfl ?_
  refine zjoin_of h (fun k_4 hk_4 h => ?_)
  have Jk_4 : ∀ (s_3 : Int32), k_4 (s_3) = some r → zV E (fun _ : Unit => []) 4 () 19 [] [.int s_3] := by
    intro s_3 h
    replace h := hk_4 _ h
    exact zretI1 hR h rfl dX5_fraction_19
  clear hk_4
  refine zV_if_eq (tgt := 16) (n := 10) C0 dX5_fraction_7 rfl rfl (fun hb_7 => ?_) (fun hb_7 => ?_)
  · replace h := if_t hb_7 h
    refine zV_iload_n (n := 17) C0 2 dX5_fraction_16 rfl rfl ?_
    refine zV_iload_n (n := 18) C0 0 dX5_fraction_17 rfl rfl ?_
    obtain ⟨hg_5, h⟩ := gd_of h
    refine zV_idiv (n := 19) C0 dX5_fraction_18 hg_5 rfl ?_
    refine zV_sub [] rfl ?_
    exact Jk_4 (a1 / r_2) h
  · replace h := if_f hb_7 h
    refine zV_iload_n (n := 11) C0 1 dX5_fraction_10 rfl rfl ?_
    refine zV_iload_n (n := 12) C0 0 dX5_fraction_11 rfl rfl ?_
    obtain ⟨hg_6, h⟩ := gd_of h
    refine zV_idiv (n := 13) C0 dX5_fraction_12 hg_6 rfl ?_
    refine zV_goto (tgt := 19) C0 dX5_fraction_13 rfl ?_
    refine zV_sub [] rfl ?_
    exact Jk_4 (a0 / r_2) h
set_option maxRecDepth 20000 in
set_option maxHeartbeats 4000000 in
theorem k_X5_loss {l : Launch} {D : va_G} {tys : List (ClassId × FieldType)} (a0 : Int32) (a1 : Int32) (a2 : Int32)  (r : Int32) (h : f_X5_loss a0 a1 a2 = some r) : zI l yX5_loss wsX5_loss (zRm 0 0) D tys zNw (fun _ : Unit => []) [.int a0, .int a1, .int a2] () (r, ()) := by
  refine zI_of (cc := cX5_loss) (maxL := 3) (ty := .int) (by decide +kernel) rfl (Nat.le_of_ble_eq_true rfl) zNw_ok (fun E hE1 hE2 C0 hR => ?_)
  subst hE1; subst hE2
  replace C0 : zCx E (zRm 0 0) cX5_loss 3 RX5 wsX5_loss tys zNw := C0
  show zV E (fun _ : Unit => []) 3 () 0 [(0, .int a0), (1, .int a1), (2, .int a2)] []
  delta f_X5_loss at h
  refine zV_iload_n (n := 1) C0 0 dX5_loss_0 rfl rfl ?_
  refine zV_iload_n (n := 2) C0 1 dX5_loss_1 rfl rfl ?_
  refine zV_icmp_ne (tgt := 10) (n := 5) C0 dX5_loss_2 rfl rfl (fun hb_4 => ?_) (fun hb_4 => ?_)
  · replace h := if_f hb_4 h
    refine zV_iload_n (n := 11) C0 0 dX5_loss_10 rfl rfl ?_
    refine zV_iload_n (n := 12) C0 1 dX5_loss_11 rfl rfl ?_
    refine zjoin_of h (fun k_2 hk_2 h => ?_)
    have Jk_2 : ∀ (s_1 : Int32), k_2 (s_1) = some r → zV E (fun _ : Unit => []) 3 () 22 [] [.int s_1] := by
      intro s_1 h
      replace h := hk_2 _ h
      exact zretI1 hR h rfl dX5_loss_22
    clear hk_2
    refine zV_icmp_le (tgt := 21) (n := 15) C0 dX5_loss_12 rfl rfl (fun hb_3 => ?_) (fun hb_3 => ?_)
    · replace h := if_t hb_3 h
      refine zV_iload_n (n := 22) C0 0 dX5_loss_21 rfl rfl ?_
      refine zV_sub [] rfl ?_
      exact Jk_2 a0 h
    · replace h := if_f hb_3 h
      refine zV_iload_n (n := 16) C0 2 dX5_loss_15 rfl rfl ?_
      refine zV_iload_n (n := 17) C0 0 dX5_loss_16 rfl rfl ?_
      refine zV_iadd (n := 18) C0 dX5_loss_17  rfl ?_
      refine zV_goto (tgt := 22) C0 dX5_loss_18 rfl ?_
      refine zV_sub [] rfl ?_
      exact Jk_2 (a2 + a0) h
  · replace h := if_t hb_4 h
    refine zV_bipush (n := 7) (v := (6 : Int32)) C0 dX5_loss_5 rfl rfl ?_
    refine zV_iload_n (n := 8) C0 2 dX5_loss_7 rfl rfl ?_
    refine zV_iadd (n := 9) C0 dX5_loss_8  rfl ?_
    exact zretI1 hR h rfl dX5_loss_9
