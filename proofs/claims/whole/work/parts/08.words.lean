theorem zd_J0_charAt_5068e : yJ0_charAt_5068e.cls = RJ0 ∧ yJ0_charAt_5068e.cls ≠ "java/lang/invoke/MethodHandle" ∧ yJ0_charAt_5068e.cls ≠ "java/lang/invoke/VarHandle" ∧ (parseMethodDescriptor yJ0_charAt_5068e.desc).map (fun d => d.parameters.length) = some 1 := by decide +kernel
theorem zd_J0_checkIndex_df160 : yJ0_checkIndex_df160.cls ≠ "java/lang/invoke/MethodHandle" ∧ yJ0_checkIndex_df160.cls ≠ "java/lang/invoke/VarHandle" ∧ (parseMethodDescriptor yJ0_checkIndex_df160.desc).map (fun d => d.parameters.length) = some 2 := by decide +kernel
theorem zd_J0_coder_7d493 : yJ0_coder_7d493.cls = RJ0 ∧ yJ0_coder_7d493.cls ≠ "java/lang/invoke/MethodHandle" ∧ yJ0_coder_7d493.cls ≠ "java/lang/invoke/VarHandle" ∧ (parseMethodDescriptor yJ0_coder_7d493.desc).map (fun d => d.parameters.length) = some 0 := by decide +kernel
theorem zd_J0_indexOf_0f7a4 : yJ0_indexOf_0f7a4.cls = RJ0 ∧ yJ0_indexOf_0f7a4.cls ≠ "java/lang/invoke/MethodHandle" ∧ yJ0_indexOf_0f7a4.cls ≠ "java/lang/invoke/VarHandle" ∧ (parseMethodDescriptor yJ0_indexOf_0f7a4.desc).map (fun d => d.parameters.length) = some 1 := by decide +kernel
theorem zd_J0_indexOf_7cf53 : yJ0_indexOf_7cf53.cls = RJ0 ∧ yJ0_indexOf_7cf53.cls ≠ "java/lang/invoke/MethodHandle" ∧ yJ0_indexOf_7cf53.cls ≠ "java/lang/invoke/VarHandle" ∧ (parseMethodDescriptor yJ0_indexOf_7cf53.desc).map (fun d => d.parameters.length) = some 2 := by decide +kernel
theorem zd_J0_isLatin1_aae02 : yJ0_isLatin1_aae02.cls = RJ0 ∧ yJ0_isLatin1_aae02.cls ≠ "java/lang/invoke/MethodHandle" ∧ yJ0_isLatin1_aae02.cls ≠ "java/lang/invoke/VarHandle" ∧ (parseMethodDescriptor yJ0_isLatin1_aae02.desc).map (fun d => d.parameters.length) = some 0 := by decide +kernel
theorem zd_J0_length_8abf5 : yJ0_length_8abf5.cls = RJ0 ∧ yJ0_length_8abf5.cls ≠ "java/lang/invoke/MethodHandle" ∧ yJ0_length_8abf5.cls ≠ "java/lang/invoke/VarHandle" ∧ (parseMethodDescriptor yJ0_length_8abf5.desc).map (fun d => d.parameters.length) = some 0 := by decide +kernel
theorem zd_J1_canEncode_9a6ad : yJ1_canEncode_9a6ad.cls ≠ "java/lang/invoke/MethodHandle" ∧ yJ1_canEncode_9a6ad.cls ≠ "java/lang/invoke/VarHandle" ∧ (parseMethodDescriptor yJ1_canEncode_9a6ad.desc).map (fun d => d.parameters.length) = some 1 := by decide +kernel
theorem zd_J1_charAt_3b067 : yJ1_charAt_3b067.cls ≠ "java/lang/invoke/MethodHandle" ∧ yJ1_charAt_3b067.cls ≠ "java/lang/invoke/VarHandle" ∧ (parseMethodDescriptor yJ1_charAt_3b067.desc).map (fun d => d.parameters.length) = some 2 := by decide +kernel
theorem zd_J1_indexOfChar_4cfef : yJ1_indexOfChar_4cfef.cls ≠ "java/lang/invoke/MethodHandle" ∧ yJ1_indexOfChar_4cfef.cls ≠ "java/lang/invoke/VarHandle" ∧ (parseMethodDescriptor yJ1_indexOfChar_4cfef.desc).map (fun d => d.parameters.length) = some 4 := by decide +kernel
theorem zd_J1_indexOf_4cfef : yJ1_indexOf_4cfef.cls ≠ "java/lang/invoke/MethodHandle" ∧ yJ1_indexOf_4cfef.cls ≠ "java/lang/invoke/VarHandle" ∧ (parseMethodDescriptor yJ1_indexOf_4cfef.desc).map (fun d => d.parameters.length) = some 4 := by decide +kernel
theorem zd_J6_bitCount_0f7a4 : yJ6_bitCount_0f7a4.cls ≠ "java/lang/invoke/MethodHandle" ∧ yJ6_bitCount_0f7a4.cls ≠ "java/lang/invoke/VarHandle" ∧ (parseMethodDescriptor yJ6_bitCount_0f7a4.desc).map (fun d => d.parameters.length) = some 1 := by decide +kernel
theorem zd_X0_addOrders : yX0_addOrders.cls = RX0 ∧ yX0_addOrders.cls ≠ "java/lang/invoke/MethodHandle" ∧ yX0_addOrders.cls ≠ "java/lang/invoke/VarHandle" ∧ (parseMethodDescriptor yX0_addOrders.desc).map (fun d => d.parameters.length) = some 1 := by decide +kernel
theorem zd_X0_choose : yX0_choose.cls = RX0 ∧ yX0_choose.cls ≠ "java/lang/invoke/MethodHandle" ∧ yX0_choose.cls ≠ "java/lang/invoke/VarHandle" ∧ (parseMethodDescriptor yX0_choose.desc).map (fun d => d.parameters.length) = some 1 := by decide +kernel
theorem zd_X0_commonPart : yX0_commonPart.cls ≠ "java/lang/invoke/MethodHandle" ∧ yX0_commonPart.cls ≠ "java/lang/invoke/VarHandle" ∧ (parseMethodDescriptor yX0_commonPart.desc).map (fun d => d.parameters.length) = some 2 := by decide +kernel
theorem zd_X0_overWith : yX0_overWith.cls = RX0 ∧ yX0_overWith.cls ≠ "java/lang/invoke/MethodHandle" ∧ yX0_overWith.cls ≠ "java/lang/invoke/VarHandle" ∧ (parseMethodDescriptor yX0_overWith.desc).map (fun d => d.parameters.length) = some 5 := by decide +kernel
theorem zd_X0_weigh : yX0_weigh.cls = RX0 ∧ yX0_weigh.cls ≠ "java/lang/invoke/MethodHandle" ∧ yX0_weigh.cls ≠ "java/lang/invoke/VarHandle" ∧ (parseMethodDescriptor yX0_weigh.desc).map (fun d => d.parameters.length) = some 5 := by decide +kernel
theorem zd_X10_canStand : yX10_canStand.cls ≠ "java/lang/invoke/MethodHandle" ∧ yX10_canStand.cls ≠ "java/lang/invoke/VarHandle" ∧ (parseMethodDescriptor yX10_canStand.desc).map (fun d => d.parameters.length) = some 2 := by decide +kernel
theorem zd_X10_isHouse : yX10_isHouse.cls = RX10 ∧ yX10_isHouse.cls ≠ "java/lang/invoke/MethodHandle" ∧ yX10_isHouse.cls ≠ "java/lang/invoke/VarHandle" ∧ (parseMethodDescriptor yX10_isHouse.desc).map (fun d => d.parameters.length) = some 1 := by decide +kernel
theorem zd_X10_isStorm : yX10_isStorm.cls = RX10 ∧ yX10_isStorm.cls ≠ "java/lang/invoke/MethodHandle" ∧ yX10_isStorm.cls ≠ "java/lang/invoke/VarHandle" ∧ (parseMethodDescriptor yX10_isStorm.desc).map (fun d => d.parameters.length) = some 1 := by decide +kernel
theorem zd_X10_overAsNow : yX10_overAsNow.cls = RX10 ∧ yX10_overAsNow.cls ≠ "java/lang/invoke/MethodHandle" ∧ yX10_overAsNow.cls ≠ "java/lang/invoke/VarHandle" ∧ (parseMethodDescriptor yX10_overAsNow.desc).map (fun d => d.parameters.length) = some 1 := by decide +kernel
theorem zd_X10_overIfDrained : yX10_overIfDrained.cls = RX10 ∧ yX10_overIfDrained.cls ≠ "java/lang/invoke/MethodHandle" ∧ yX10_overIfDrained.cls ≠ "java/lang/invoke/VarHandle" ∧ (parseMethodDescriptor yX10_overIfDrained.desc).map (fun d => d.parameters.length) = some 2 := by decide +kernel
theorem zd_X10_planStorm : yX10_planStorm.cls = RX10 ∧ yX10_planStorm.cls ≠ "java/lang/invoke/MethodHandle" ∧ yX10_planStorm.cls ≠ "java/lang/invoke/VarHandle" ∧ (parseMethodDescriptor yX10_planStorm.desc).map (fun d => d.parameters.length) = some 1 := by decide +kernel
theorem zd_X10_planStorms : yX10_planStorms.cls = RX10 ∧ yX10_planStorms.cls ≠ "java/lang/invoke/MethodHandle" ∧ yX10_planStorms.cls ≠ "java/lang/invoke/VarHandle" ∧ (parseMethodDescriptor yX10_planStorms.desc).map (fun d => d.parameters.length) = some 4 := by decide +kernel
theorem zd_X10_tellSize : yX10_tellSize.cls = RX10 ∧ yX10_tellSize.cls ≠ "java/lang/invoke/MethodHandle" ∧ yX10_tellSize.cls ≠ "java/lang/invoke/VarHandle" ∧ (parseMethodDescriptor yX10_tellSize.desc).map (fun d => d.parameters.length) = some 1 := by decide +kernel
theorem zd_X10_tellThaw : yX10_tellThaw.cls = RX10 ∧ yX10_tellThaw.cls ≠ "java/lang/invoke/MethodHandle" ∧ yX10_tellThaw.cls ≠ "java/lang/invoke/VarHandle" ∧ (parseMethodDescriptor yX10_tellThaw.desc).map (fun d => d.parameters.length) = some 1 := by decide +kernel
theorem zd_X10_widerPrice : yX10_widerPrice.cls = RX10 ∧ yX10_widerPrice.cls ≠ "java/lang/invoke/MethodHandle" ∧ yX10_widerPrice.cls ≠ "java/lang/invoke/VarHandle" ∧ (parseMethodDescriptor yX10_widerPrice.desc).map (fun d => d.parameters.length) = some 0 := by decide +kernel
theorem zd_X10_within : yX10_within.cls ≠ "java/lang/invoke/MethodHandle" ∧ yX10_within.cls ≠ "java/lang/invoke/VarHandle" ∧ (parseMethodDescriptor yX10_within.desc).map (fun d => d.parameters.length) = some 3 := by decide +kernel
theorem zd_X11_aLine : yX11_aLine.cls = RX11 ∧ yX11_aLine.cls ≠ "java/lang/invoke/MethodHandle" ∧ yX11_aLine.cls ≠ "java/lang/invoke/VarHandle" ∧ (parseMethodDescriptor yX11_aLine.desc).map (fun d => d.parameters.length) = some 0 := by decide +kernel
theorem zd_X11_any : yX11_any.cls = RX11 ∧ yX11_any.cls ≠ "java/lang/invoke/MethodHandle" ∧ yX11_any.cls ≠ "java/lang/invoke/VarHandle" ∧ (parseMethodDescriptor yX11_any.desc).map (fun d => d.parameters.length) = some 0 := by decide +kernel
theorem zd_X11_bad : yX11_bad.cls = RX11 ∧ yX11_bad.cls ≠ "java/lang/invoke/MethodHandle" ∧ yX11_bad.cls ≠ "java/lang/invoke/VarHandle" ∧ (parseMethodDescriptor yX11_bad.desc).map (fun d => d.parameters.length) = some 1 := by decide +kernel
theorem zd_X11_both : yX11_both.cls ≠ "java/lang/invoke/MethodHandle" ∧ yX11_both.cls ≠ "java/lang/invoke/VarHandle" ∧ (parseMethodDescriptor yX11_both.desc).map (fun d => d.parameters.length) = some 3 := by decide +kernel
theorem zd_X11_comesTo : yX11_comesTo.cls = RX11 ∧ yX11_comesTo.cls ≠ "java/lang/invoke/MethodHandle" ∧ yX11_comesTo.cls ≠ "java/lang/invoke/VarHandle" ∧ (parseMethodDescriptor yX11_comesTo.desc).map (fun d => d.parameters.length) = some 2 := by decide +kernel
theorem zd_X11_count : yX11_count.cls ≠ "java/lang/invoke/MethodHandle" ∧ yX11_count.cls ≠ "java/lang/invoke/VarHandle" ∧ (parseMethodDescriptor yX11_count.desc).map (fun d => d.parameters.length) = some 1 := by decide +kernel
theorem zd_X11_every : yX11_every.cls = RX11 ∧ yX11_every.cls ≠ "java/lang/invoke/MethodHandle" ∧ yX11_every.cls ≠ "java/lang/invoke/VarHandle" ∧ (parseMethodDescriptor yX11_every.desc).map (fun d => d.parameters.length) = some 0 := by decide +kernel
theorem zd_X11_fallOf : yX11_fallOf.cls = RX11 ∧ yX11_fallOf.cls ≠ "java/lang/invoke/MethodHandle" ∧ yX11_fallOf.cls ≠ "java/lang/invoke/VarHandle" ∧ (parseMethodDescriptor yX11_fallOf.desc).map (fun d => d.parameters.length) = some 2 := by decide +kernel
theorem zd_X11_gets : yX11_gets.cls = RX11 ∧ yX11_gets.cls ≠ "java/lang/invoke/MethodHandle" ∧ yX11_gets.cls ≠ "java/lang/invoke/VarHandle" ∧ (parseMethodDescriptor yX11_gets.desc).map (fun d => d.parameters.length) = some 2 := by decide +kernel
theorem zd_X11_gives : yX11_gives.cls = RX11 ∧ yX11_gives.cls ≠ "java/lang/invoke/MethodHandle" ∧ yX11_gives.cls ≠ "java/lang/invoke/VarHandle" ∧ (parseMethodDescriptor yX11_gives.desc).map (fun d => d.parameters.length) = some 3 := by decide +kernel
theorem zd_X11_goesOn : yX11_goesOn.cls = RX11 ∧ yX11_goesOn.cls ≠ "java/lang/invoke/MethodHandle" ∧ yX11_goesOn.cls ≠ "java/lang/invoke/VarHandle" ∧ (parseMethodDescriptor yX11_goesOn.desc).map (fun d => d.parameters.length) = some 2 := by decide +kernel
theorem zd_X11_hoursOf : yX11_hoursOf.cls = RX11 ∧ yX11_hoursOf.cls ≠ "java/lang/invoke/MethodHandle" ∧ yX11_hoursOf.cls ≠ "java/lang/invoke/VarHandle" ∧ (parseMethodDescriptor yX11_hoursOf.desc).map (fun d => d.parameters.length) = some 1 := by decide +kernel
theorem zd_X11_is : yX11_is.cls = RX11 ∧ yX11_is.cls ≠ "java/lang/invoke/MethodHandle" ∧ yX11_is.cls ≠ "java/lang/invoke/VarHandle" ∧ (parseMethodDescriptor yX11_is.desc).map (fun d => d.parameters.length) = some 1 := by decide +kernel
theorem zd_X11_isDigit : yX11_isDigit.cls ≠ "java/lang/invoke/MethodHandle" ∧ yX11_isDigit.cls ≠ "java/lang/invoke/VarHandle" ∧ (parseMethodDescriptor yX11_isDigit.desc).map (fun d => d.parameters.length) = some 1 := by decide +kernel
theorem zd_X11_isHouse : yX11_isHouse.cls = RX11 ∧ yX11_isHouse.cls ≠ "java/lang/invoke/MethodHandle" ∧ yX11_isHouse.cls ≠ "java/lang/invoke/VarHandle" ∧ (parseMethodDescriptor yX11_isHouse.desc).map (fun d => d.parameters.length) = some 1 := by decide +kernel
theorem zd_X11_isIn : yX11_isIn.cls ≠ "java/lang/invoke/MethodHandle" ∧ yX11_isIn.cls ≠ "java/lang/invoke/VarHandle" ∧ (parseMethodDescriptor yX11_isIn.desc).map (fun d => d.parameters.length) = some 3 := by decide +kernel
theorem zd_X11_isLetter : yX11_isLetter.cls ≠ "java/lang/invoke/MethodHandle" ∧ yX11_isLetter.cls ≠ "java/lang/invoke/VarHandle" ∧ (parseMethodDescriptor yX11_isLetter.desc).map (fun d => d.parameters.length) = some 1 := by decide +kernel
theorem zd_X11_isSnow : yX11_isSnow.cls = RX11 ∧ yX11_isSnow.cls ≠ "java/lang/invoke/MethodHandle" ∧ yX11_isSnow.cls ≠ "java/lang/invoke/VarHandle" ∧ (parseMethodDescriptor yX11_isSnow.desc).map (fun d => d.parameters.length) = some 2 := by decide +kernel
theorem zd_X11_isStorm : yX11_isStorm.cls = RX11 ∧ yX11_isStorm.cls ≠ "java/lang/invoke/MethodHandle" ∧ yX11_isStorm.cls ≠ "java/lang/invoke/VarHandle" ∧ (parseMethodDescriptor yX11_isStorm.desc).map (fun d => d.parameters.length) = some 1 := by decide +kernel
theorem zd_X11_lay : yX11_lay.cls = RX11 ∧ yX11_lay.cls ≠ "java/lang/invoke/MethodHandle" ∧ yX11_lay.cls ≠ "java/lang/invoke/VarHandle" ∧ (parseMethodDescriptor yX11_lay.desc).map (fun d => d.parameters.length) = some 2 := by decide +kernel
theorem zd_X11_laysHouses : yX11_laysHouses.cls = RX11 ∧ yX11_laysHouses.cls ≠ "java/lang/invoke/MethodHandle" ∧ yX11_laysHouses.cls ≠ "java/lang/invoke/VarHandle" ∧ (parseMethodDescriptor yX11_laysHouses.desc).map (fun d => d.parameters.length) = some 0 := by decide +kernel
theorem zd_X11_least : yX11_least.cls ≠ "java/lang/invoke/MethodHandle" ∧ yX11_least.cls ≠ "java/lang/invoke/VarHandle" ∧ (parseMethodDescriptor yX11_least.desc).map (fun d => d.parameters.length) = some 2 := by decide +kernel
theorem zd_X11_most : yX11_most.cls ≠ "java/lang/invoke/MethodHandle" ∧ yX11_most.cls ≠ "java/lang/invoke/VarHandle" ∧ (parseMethodDescriptor yX11_most.desc).map (fun d => d.parameters.length) = some 2 := by decide +kernel
theorem zd_X11_movesDown : yX11_movesDown.cls = RX11 ∧ yX11_movesDown.cls ≠ "java/lang/invoke/MethodHandle" ∧ yX11_movesDown.cls ≠ "java/lang/invoke/VarHandle" ∧ (parseMethodDescriptor yX11_movesDown.desc).map (fun d => d.parameters.length) = some 1 := by decide +kernel
theorem zd_X11_nameWord : yX11_nameWord.cls = RX11 ∧ yX11_nameWord.cls ≠ "java/lang/invoke/MethodHandle" ∧ yX11_nameWord.cls ≠ "java/lang/invoke/VarHandle" ∧ (parseMethodDescriptor yX11_nameWord.desc).map (fun d => d.parameters.length) = some 0 := by decide +kernel
theorem zd_X11_need : yX11_need.cls = RX11 ∧ yX11_need.cls ≠ "java/lang/invoke/MethodHandle" ∧ yX11_need.cls ≠ "java/lang/invoke/VarHandle" ∧ (parseMethodDescriptor yX11_need.desc).map (fun d => d.parameters.length) = some 1 := by decide +kernel
theorem zd_X11_next0 : yX11_next0.cls = RX11 ∧ yX11_next0.cls ≠ "java/lang/invoke/MethodHandle" ∧ yX11_next0.cls ≠ "java/lang/invoke/VarHandle" ∧ (parseMethodDescriptor yX11_next0.desc).map (fun d => d.parameters.length) = some 0 := by decide +kernel
theorem zd_X11_oneTest : yX11_oneTest.cls = RX11 ∧ yX11_oneTest.cls ≠ "java/lang/invoke/MethodHandle" ∧ yX11_oneTest.cls ≠ "java/lang/invoke/VarHandle" ∧ (parseMethodDescriptor yX11_oneTest.desc).map (fun d => d.parameters.length) = some 0 := by decide +kernel
theorem zd_X11_opens : yX11_opens.cls = RX11 ∧ yX11_opens.cls ≠ "java/lang/invoke/MethodHandle" ∧ yX11_opens.cls ≠ "java/lang/invoke/VarHandle" ∧ (parseMethodDescriptor yX11_opens.desc).map (fun d => d.parameters.length) = some 0 := by decide +kernel
theorem zd_X11_orders : yX11_orders.cls ≠ "java/lang/invoke/MethodHandle" ∧ yX11_orders.cls ≠ "java/lang/invoke/VarHandle" ∧ (parseMethodDescriptor yX11_orders.desc).map (fun d => d.parameters.length) = some 1 := by decide +kernel
theorem zd_X11_overAt : yX11_overAt.cls = RX11 ∧ yX11_overAt.cls ≠ "java/lang/invoke/MethodHandle" ∧ yX11_overAt.cls ≠ "java/lang/invoke/VarHandle" ∧ (parseMethodDescriptor yX11_overAt.desc).map (fun d => d.parameters.length) = some 3 := by decide +kernel
theorem zd_X11_own : yX11_own.cls = RX11 ∧ yX11_own.cls ≠ "java/lang/invoke/MethodHandle" ∧ yX11_own.cls ≠ "java/lang/invoke/VarHandle" ∧ (parseMethodDescriptor yX11_own.desc).map (fun d => d.parameters.length) = some 2 := by decide +kernel
theorem zd_X11_pays : yX11_pays.cls = RX11 ∧ yX11_pays.cls ≠ "java/lang/invoke/MethodHandle" ∧ yX11_pays.cls ≠ "java/lang/invoke/VarHandle" ∧ (parseMethodDescriptor yX11_pays.desc).map (fun d => d.parameters.length) = some 2 := by decide +kernel
theorem zd_X11_product : yX11_product.cls = RX11 ∧ yX11_product.cls ≠ "java/lang/invoke/MethodHandle" ∧ yX11_product.cls ≠ "java/lang/invoke/VarHandle" ∧ (parseMethodDescriptor yX11_product.desc).map (fun d => d.parameters.length) = some 0 := by decide +kernel
theorem zd_X11_runs : yX11_runs.cls = RX11 ∧ yX11_runs.cls ≠ "java/lang/invoke/MethodHandle" ∧ yX11_runs.cls ≠ "java/lang/invoke/VarHandle" ∧ (parseMethodDescriptor yX11_runs.desc).map (fun d => d.parameters.length) = some 1 := by decide +kernel
theorem zd_X11_see : yX11_see.cls = RX11 ∧ yX11_see.cls ≠ "java/lang/invoke/MethodHandle" ∧ yX11_see.cls ≠ "java/lang/invoke/VarHandle" ∧ (parseMethodDescriptor yX11_see.desc).map (fun d => d.parameters.length) = some 1 := by decide +kernel
theorem zd_X11_sumUp : yX11_sumUp.cls = RX11 ∧ yX11_sumUp.cls ≠ "java/lang/invoke/MethodHandle" ∧ yX11_sumUp.cls ≠ "java/lang/invoke/VarHandle" ∧ (parseMethodDescriptor yX11_sumUp.desc).map (fun d => d.parameters.length) = some 0 := by decide +kernel
theorem zd_X11_unit : yX11_unit.cls = RX11 ∧ yX11_unit.cls ≠ "java/lang/invoke/MethodHandle" ∧ yX11_unit.cls ≠ "java/lang/invoke/VarHandle" ∧ (parseMethodDescriptor yX11_unit.desc).map (fun d => d.parameters.length) = some 0 := by decide +kernel
theorem zd_X11_word : yX11_word.cls = RX11 ∧ yX11_word.cls ≠ "java/lang/invoke/MethodHandle" ∧ yX11_word.cls ≠ "java/lang/invoke/VarHandle" ∧ (parseMethodDescriptor yX11_word.desc).map (fun d => d.parameters.length) = some 0 := by decide +kernel
theorem zd_X11_writes : yX11_writes.cls = RX11 ∧ yX11_writes.cls ≠ "java/lang/invoke/MethodHandle" ∧ yX11_writes.cls ≠ "java/lang/invoke/VarHandle" ∧ (parseMethodDescriptor yX11_writes.desc).map (fun d => d.parameters.length) = some 4 := by decide +kernel
theorem zd_X1_bestTimes : yX1_bestTimes.cls = RX1 ∧ yX1_bestTimes.cls ≠ "java/lang/invoke/MethodHandle" ∧ yX1_bestTimes.cls ≠ "java/lang/invoke/VarHandle" ∧ (parseMethodDescriptor yX1_bestTimes.desc).map (fun d => d.parameters.length) = some 2 := by decide +kernel
theorem zd_X1_isAhead : yX1_isAhead.cls = RX1 ∧ yX1_isAhead.cls ≠ "java/lang/invoke/MethodHandle" ∧ yX1_isAhead.cls ≠ "java/lang/invoke/VarHandle" ∧ (parseMethodDescriptor yX1_isAhead.desc).map (fun d => d.parameters.length) = some 2 := by decide +kernel
theorem zd_X1_plan : yX1_plan.cls = RX1 ∧ yX1_plan.cls ≠ "java/lang/invoke/MethodHandle" ∧ yX1_plan.cls ≠ "java/lang/invoke/VarHandle" ∧ (parseMethodDescriptor yX1_plan.desc).map (fun d => d.parameters.length) = some 1 := by decide +kernel
theorem zd_X1_rain : yX1_rain.cls = RX1 ∧ yX1_rain.cls ≠ "java/lang/invoke/MethodHandle" ∧ yX1_rain.cls ≠ "java/lang/invoke/VarHandle" ∧ (parseMethodDescriptor yX1_rain.desc).map (fun d => d.parameters.length) = some 2 := by decide +kernel
theorem zd_X1_staysDry : yX1_staysDry.cls = RX1 ∧ yX1_staysDry.cls ≠ "java/lang/invoke/MethodHandle" ∧ yX1_staysDry.cls ≠ "java/lang/invoke/VarHandle" ∧ (parseMethodDescriptor yX1_staysDry.desc).map (fun d => d.parameters.length) = some 3 := by decide +kernel
theorem zd_X2_build : yX2_build.cls = RX2 ∧ yX2_build.cls ≠ "java/lang/invoke/MethodHandle" ∧ yX2_build.cls ≠ "java/lang/invoke/VarHandle" ∧ (parseMethodDescriptor yX2_build.desc).map (fun d => d.parameters.length) = some 4 := by decide +kernel
theorem zd_X2_carriedInAll : yX2_carriedInAll.cls = RX2 ∧ yX2_carriedInAll.cls ≠ "java/lang/invoke/MethodHandle" ∧ yX2_carriedInAll.cls ≠ "java/lang/invoke/VarHandle" ∧ (parseMethodDescriptor yX2_carriedInAll.desc).map (fun d => d.parameters.length) = some 1 := by decide +kernel
theorem zd_X2_carriesAt : yX2_carriesAt.cls = RX2 ∧ yX2_carriesAt.cls ≠ "java/lang/invoke/MethodHandle" ∧ yX2_carriesAt.cls ≠ "java/lang/invoke/VarHandle" ∧ (parseMethodDescriptor yX2_carriesAt.desc).map (fun d => d.parameters.length) = some 1 := by decide +kernel
theorem zd_X2_change : yX2_change.cls = RX2 ∧ yX2_change.cls ≠ "java/lang/invoke/MethodHandle" ∧ yX2_change.cls ≠ "java/lang/invoke/VarHandle" ∧ (parseMethodDescriptor yX2_change.desc).map (fun d => d.parameters.length) = some 2 := by decide +kernel
theorem zd_X2_closeStorm : yX2_closeStorm.cls = RX2 ∧ yX2_closeStorm.cls ≠ "java/lang/invoke/MethodHandle" ∧ yX2_closeStorm.cls ≠ "java/lang/invoke/VarHandle" ∧ (parseMethodDescriptor yX2_closeStorm.desc).map (fun d => d.parameters.length) = some 0 := by decide +kernel
theorem zd_X2_copy : yX2_copy.cls = RX2 ∧ yX2_copy.cls ≠ "java/lang/invoke/MethodHandle" ∧ yX2_copy.cls ≠ "java/lang/invoke/VarHandle" ∧ (parseMethodDescriptor yX2_copy.desc).map (fun d => d.parameters.length) = some 1 := by decide +kernel
theorem zd_X2_drink : yX2_drink.cls = RX2 ∧ yX2_drink.cls ≠ "java/lang/invoke/MethodHandle" ∧ yX2_drink.cls ≠ "java/lang/invoke/VarHandle" ∧ (parseMethodDescriptor yX2_drink.desc).map (fun d => d.parameters.length) = some 2 := by decide +kernel
theorem zd_X2_imagine : yX2_imagine.cls = RX2 ∧ yX2_imagine.cls ≠ "java/lang/invoke/MethodHandle" ∧ yX2_imagine.cls ≠ "java/lang/invoke/VarHandle" ∧ (parseMethodDescriptor yX2_imagine.desc).map (fun d => d.parameters.length) = some 1 := by decide +kernel
theorem zd_X2_land : yX2_land.cls = RX2 ∧ yX2_land.cls ≠ "java/lang/invoke/MethodHandle" ∧ yX2_land.cls ≠ "java/lang/invoke/VarHandle" ∧ (parseMethodDescriptor yX2_land.desc).map (fun d => d.parameters.length) = some 3 := by decide +kernel
theorem zd_X2_mostOf : yX2_mostOf.cls ≠ "java/lang/invoke/MethodHandle" ∧ yX2_mostOf.cls ≠ "java/lang/invoke/VarHandle" ∧ (parseMethodDescriptor yX2_mostOf.desc).map (fun d => d.parameters.length) = some 1 := by decide +kernel
theorem zd_X2_passBarrel : yX2_passBarrel.cls = RX2 ∧ yX2_passBarrel.cls ≠ "java/lang/invoke/MethodHandle" ∧ yX2_passBarrel.cls ≠ "java/lang/invoke/VarHandle" ∧ (parseMethodDescriptor yX2_passBarrel.desc).map (fun d => d.parameters.length) = some 1 := by decide +kernel
theorem zd_X2_told : yX2_told.cls = RX2 ∧ yX2_told.cls ≠ "java/lang/invoke/MethodHandle" ∧ yX2_told.cls ≠ "java/lang/invoke/VarHandle" ∧ (parseMethodDescriptor yX2_told.desc).map (fun d => d.parameters.length) = some 1 := by decide +kernel
theorem zd_X2_toldOf : yX2_toldOf.cls = RX2 ∧ yX2_toldOf.cls ≠ "java/lang/invoke/MethodHandle" ∧ yX2_toldOf.cls ≠ "java/lang/invoke/VarHandle" ∧ (parseMethodDescriptor yX2_toldOf.desc).map (fun d => d.parameters.length) = some 2 := by decide +kernel
theorem zd_X3_add : yX3_add.cls = RX3 ∧ yX3_add.cls ≠ "java/lang/invoke/MethodHandle" ∧ yX3_add.cls ≠ "java/lang/invoke/VarHandle" ∧ (parseMethodDescriptor yX3_add.desc).map (fun d => d.parameters.length) = some 1 := by decide +kernel
theorem zd_X3_asks : yX3_asks.cls = RX3 ∧ yX3_asks.cls ≠ "java/lang/invoke/MethodHandle" ∧ yX3_asks.cls ≠ "java/lang/invoke/VarHandle" ∧ (parseMethodDescriptor yX3_asks.desc).map (fun d => d.parameters.length) = some 1 := by decide +kernel
theorem zd_X3_clear : yX3_clear.cls = RX3 ∧ yX3_clear.cls ≠ "java/lang/invoke/MethodHandle" ∧ yX3_clear.cls ≠ "java/lang/invoke/VarHandle" ∧ (parseMethodDescriptor yX3_clear.desc).map (fun d => d.parameters.length) = some 0 := by decide +kernel
theorem zd_X3_closeLine : yX3_closeLine.cls = RX3 ∧ yX3_closeLine.cls ≠ "java/lang/invoke/MethodHandle" ∧ yX3_closeLine.cls ≠ "java/lang/invoke/VarHandle" ∧ (parseMethodDescriptor yX3_closeLine.desc).map (fun d => d.parameters.length) = some 0 := by decide +kernel
theorem zd_X3_closeSum : yX3_closeSum.cls = RX3 ∧ yX3_closeSum.cls ≠ "java/lang/invoke/MethodHandle" ∧ yX3_closeSum.cls ≠ "java/lang/invoke/VarHandle" ∧ (parseMethodDescriptor yX3_closeSum.desc).map (fun d => d.parameters.length) = some 0 := by decide +kernel
theorem zd_X3_copy : yX3_copy.cls = RX3 ∧ yX3_copy.cls ≠ "java/lang/invoke/MethodHandle" ∧ yX3_copy.cls ≠ "java/lang/invoke/VarHandle" ∧ (parseMethodDescriptor yX3_copy.desc).map (fun d => d.parameters.length) = some 1 := by decide +kernel
theorem zd_X3_joined : yX3_joined.cls ≠ "java/lang/invoke/MethodHandle" ∧ yX3_joined.cls ≠ "java/lang/invoke/VarHandle" ∧ (parseMethodDescriptor yX3_joined.desc).map (fun d => d.parameters.length) = some 3 := by decide +kernel
theorem zd_X3_worth : yX3_worth.cls = RX3 ∧ yX3_worth.cls ≠ "java/lang/invoke/MethodHandle" ∧ yX3_worth.cls ≠ "java/lang/invoke/VarHandle" ∧ (parseMethodDescriptor yX3_worth.desc).map (fun d => d.parameters.length) = some 3 := by decide +kernel
theorem zd_X4_await : yX4_await.cls = RX4 ∧ yX4_await.cls ≠ "java/lang/invoke/MethodHandle" ∧ yX4_await.cls ≠ "java/lang/invoke/VarHandle" ∧ (parseMethodDescriptor yX4_await.desc).map (fun d => d.parameters.length) = some 1 := by decide +kernel
theorem zd_X4_closeBracket : yX4_closeBracket.cls = RX4 ∧ yX4_closeBracket.cls ≠ "java/lang/invoke/MethodHandle" ∧ yX4_closeBracket.cls ≠ "java/lang/invoke/VarHandle" ∧ (parseMethodDescriptor yX4_closeBracket.desc).map (fun d => d.parameters.length) = some 0 := by decide +kernel
theorem zd_X4_closeLine : yX4_closeLine.cls = RX4 ∧ yX4_closeLine.cls ≠ "java/lang/invoke/MethodHandle" ∧ yX4_closeLine.cls ≠ "java/lang/invoke/VarHandle" ∧ (parseMethodDescriptor yX4_closeLine.desc).map (fun d => d.parameters.length) = some 0 := by decide +kernel
theorem zd_X4_join : yX4_join.cls = RX4 ∧ yX4_join.cls ≠ "java/lang/invoke/MethodHandle" ∧ yX4_join.cls ≠ "java/lang/invoke/VarHandle" ∧ (parseMethodDescriptor yX4_join.desc).map (fun d => d.parameters.length) = some 1 := by decide +kernel
theorem zd_X4_read : yX4_read.cls = RX4 ∧ yX4_read.cls ≠ "java/lang/invoke/MethodHandle" ∧ yX4_read.cls ≠ "java/lang/invoke/VarHandle" ∧ (parseMethodDescriptor yX4_read.desc).map (fun d => d.parameters.length) = some 1 := by decide +kernel
theorem zd_X4_take : yX4_take.cls = RX4 ∧ yX4_take.cls ≠ "java/lang/invoke/MethodHandle" ∧ yX4_take.cls ≠ "java/lang/invoke/VarHandle" ∧ (parseMethodDescriptor yX4_take.desc).map (fun d => d.parameters.length) = some 1 := by decide +kernel
theorem zd_X4_takeBehindCase : yX4_takeBehindCase.cls = RX4 ∧ yX4_takeBehindCase.cls ≠ "java/lang/invoke/MethodHandle" ∧ yX4_takeBehindCase.cls ≠ "java/lang/invoke/VarHandle" ∧ (parseMethodDescriptor yX4_takeBehindCase.desc).map (fun d => d.parameters.length) = some 1 := by decide +kernel
theorem zd_X4_takeBehindUnit : yX4_takeBehindUnit.cls = RX4 ∧ yX4_takeBehindUnit.cls ≠ "java/lang/invoke/MethodHandle" ∧ yX4_takeBehindUnit.cls ≠ "java/lang/invoke/VarHandle" ∧ (parseMethodDescriptor yX4_takeBehindUnit.desc).map (fun d => d.parameters.length) = some 1 := by decide +kernel
theorem zd_X4_takeCase : yX4_takeCase.cls = RX4 ∧ yX4_takeCase.cls ≠ "java/lang/invoke/MethodHandle" ∧ yX4_takeCase.cls ≠ "java/lang/invoke/VarHandle" ∧ (parseMethodDescriptor yX4_takeCase.desc).map (fun d => d.parameters.length) = some 1 := by decide +kernel
theorem zd_X4_takeLine : yX4_takeLine.cls = RX4 ∧ yX4_takeLine.cls ≠ "java/lang/invoke/MethodHandle" ∧ yX4_takeLine.cls ≠ "java/lang/invoke/VarHandle" ∧ (parseMethodDescriptor yX4_takeLine.desc).map (fun d => d.parameters.length) = some 1 := by decide +kernel
theorem zd_X4_takePart : yX4_takePart.cls = RX4 ∧ yX4_takePart.cls ≠ "java/lang/invoke/MethodHandle" ∧ yX4_takePart.cls ≠ "java/lang/invoke/VarHandle" ∧ (parseMethodDescriptor yX4_takePart.desc).map (fun d => d.parameters.length) = some 1 := by decide +kernel
theorem zd_X4_takeUnit : yX4_takeUnit.cls = RX4 ∧ yX4_takeUnit.cls ≠ "java/lang/invoke/MethodHandle" ∧ yX4_takeUnit.cls ≠ "java/lang/invoke/VarHandle" ∧ (parseMethodDescriptor yX4_takeUnit.desc).map (fun d => d.parameters.length) = some 1 := by decide +kernel
theorem zd_X4_writeDownTo : yX4_writeDownTo.cls = RX4 ∧ yX4_writeDownTo.cls ≠ "java/lang/invoke/MethodHandle" ∧ yX4_writeDownTo.cls ≠ "java/lang/invoke/VarHandle" ∧ (parseMethodDescriptor yX4_writeDownTo.desc).map (fun d => d.parameters.length) = some 1 := by decide +kernel
theorem zd_X5_copy : yX5_copy.cls = RX5 ∧ yX5_copy.cls ≠ "java/lang/invoke/MethodHandle" ∧ yX5_copy.cls ≠ "java/lang/invoke/VarHandle" ∧ (parseMethodDescriptor yX5_copy.desc).map (fun d => d.parameters.length) = some 1 := by decide +kernel
theorem zd_X5_imagine : yX5_imagine.cls = RX5 ∧ yX5_imagine.cls ≠ "java/lang/invoke/MethodHandle" ∧ yX5_imagine.cls ≠ "java/lang/invoke/VarHandle" ∧ (parseMethodDescriptor yX5_imagine.desc).map (fun d => d.parameters.length) = some 1 := by decide +kernel
theorem zd_X5_imagineAdded : yX5_imagineAdded.cls = RX5 ∧ yX5_imagineAdded.cls ≠ "java/lang/invoke/MethodHandle" ∧ yX5_imagineAdded.cls ≠ "java/lang/invoke/VarHandle" ∧ (parseMethodDescriptor yX5_imagineAdded.desc).map (fun d => d.parameters.length) = some 4 := by decide +kernel
theorem zd_X5_pass : yX5_pass.cls = RX5 ∧ yX5_pass.cls ≠ "java/lang/invoke/MethodHandle" ∧ yX5_pass.cls ≠ "java/lang/invoke/VarHandle" ∧ (parseMethodDescriptor yX5_pass.desc).map (fun d => d.parameters.length) = some 2 := by decide +kernel
theorem zd_X5_pour : yX5_pour.cls = RX5 ∧ yX5_pour.cls ≠ "java/lang/invoke/MethodHandle" ∧ yX5_pour.cls ≠ "java/lang/invoke/VarHandle" ∧ (parseMethodDescriptor yX5_pour.desc).map (fun d => d.parameters.length) = some 2 := by decide +kernel
theorem zd_X5_strip : yX5_strip.cls = RX5 ∧ yX5_strip.cls ≠ "java/lang/invoke/MethodHandle" ∧ yX5_strip.cls ≠ "java/lang/invoke/VarHandle" ∧ (parseMethodDescriptor yX5_strip.desc).map (fun d => d.parameters.length) = some 0 := by decide +kernel
theorem zd_X5_widen : yX5_widen.cls = RX5 ∧ yX5_widen.cls ≠ "java/lang/invoke/MethodHandle" ∧ yX5_widen.cls ≠ "java/lang/invoke/VarHandle" ∧ (parseMethodDescriptor yX5_widen.desc).map (fun d => d.parameters.length) = some 0 := by decide +kernel
theorem zd_X6_explain : yX6_explain.cls = RX6 ∧ yX6_explain.cls ≠ "java/lang/invoke/MethodHandle" ∧ yX6_explain.cls ≠ "java/lang/invoke/VarHandle" ∧ (parseMethodDescriptor yX6_explain.desc).map (fun d => d.parameters.length) = some 3 := by decide +kernel
theorem zd_X6_note : yX6_note.cls = RX6 ∧ yX6_note.cls ≠ "java/lang/invoke/MethodHandle" ∧ yX6_note.cls ≠ "java/lang/invoke/VarHandle" ∧ (parseMethodDescriptor yX6_note.desc).map (fun d => d.parameters.length) = some 1 := by decide +kernel
theorem zd_X6_runsOver : yX6_runsOver.cls ≠ "java/lang/invoke/MethodHandle" ∧ yX6_runsOver.cls ≠ "java/lang/invoke/VarHandle" ∧ (parseMethodDescriptor yX6_runsOver.desc).map (fun d => d.parameters.length) = some 4 := by decide +kernel
theorem zd_X6_told : yX6_told.cls = RX6 ∧ yX6_told.cls ≠ "java/lang/invoke/MethodHandle" ∧ yX6_told.cls ≠ "java/lang/invoke/VarHandle" ∧ (parseMethodDescriptor yX6_told.desc).map (fun d => d.parameters.length) = some 1 := by decide +kernel
theorem zd_X6_tryHouse : yX6_tryHouse.cls ≠ "java/lang/invoke/MethodHandle" ∧ yX6_tryHouse.cls ≠ "java/lang/invoke/VarHandle" ∧ (parseMethodDescriptor yX6_tryHouse.desc).map (fun d => d.parameters.length) = some 5 := by decide +kernel
theorem zd_X7_brew : yX7_brew.cls = RX7 ∧ yX7_brew.cls ≠ "java/lang/invoke/MethodHandle" ∧ yX7_brew.cls ≠ "java/lang/invoke/VarHandle" ∧ (parseMethodDescriptor yX7_brew.desc).map (fun d => d.parameters.length) = some 1 := by decide +kernel
theorem zd_X7_copy : yX7_copy.cls = RX7 ∧ yX7_copy.cls ≠ "java/lang/invoke/MethodHandle" ∧ yX7_copy.cls ≠ "java/lang/invoke/VarHandle" ∧ (parseMethodDescriptor yX7_copy.desc).map (fun d => d.parameters.length) = some 1 := by decide +kernel
theorem zd_X7_fallInAll : yX7_fallInAll.cls = RX7 ∧ yX7_fallInAll.cls ≠ "java/lang/invoke/MethodHandle" ∧ yX7_fallInAll.cls ≠ "java/lang/invoke/VarHandle" ∧ (parseMethodDescriptor yX7_fallInAll.desc).map (fun d => d.parameters.length) = some 0 := by decide +kernel
theorem zd_X7_told : yX7_told.cls = RX7 ∧ yX7_told.cls ≠ "java/lang/invoke/MethodHandle" ∧ yX7_told.cls ≠ "java/lang/invoke/VarHandle" ∧ (parseMethodDescriptor yX7_told.desc).map (fun d => d.parameters.length) = some 1 := by decide +kernel
theorem zd_X8_copy : yX8_copy.cls = RX8 ∧ yX8_copy.cls ≠ "java/lang/invoke/MethodHandle" ∧ yX8_copy.cls ≠ "java/lang/invoke/VarHandle" ∧ (parseMethodDescriptor yX8_copy.desc).map (fun d => d.parameters.length) = some 1 := by decide +kernel
theorem zd_X8_pay : yX8_pay.cls = RX8 ∧ yX8_pay.cls ≠ "java/lang/invoke/MethodHandle" ∧ yX8_pay.cls ≠ "java/lang/invoke/VarHandle" ∧ (parseMethodDescriptor yX8_pay.desc).map (fun d => d.parameters.length) = some 2 := by decide +kernel
theorem zd_X8_settle : yX8_settle.cls = RX8 ∧ yX8_settle.cls ≠ "java/lang/invoke/MethodHandle" ∧ yX8_settle.cls ≠ "java/lang/invoke/VarHandle" ∧ (parseMethodDescriptor yX8_settle.desc).map (fun d => d.parameters.length) = some 0 := by decide +kernel
theorem zd_X8_store : yX8_store.cls = RX8 ∧ yX8_store.cls ≠ "java/lang/invoke/MethodHandle" ∧ yX8_store.cls ≠ "java/lang/invoke/VarHandle" ∧ (parseMethodDescriptor yX8_store.desc).map (fun d => d.parameters.length) = some 1 := by decide +kernel
theorem zd_X8_told : yX8_told.cls = RX8 ∧ yX8_told.cls ≠ "java/lang/invoke/MethodHandle" ∧ yX8_told.cls ≠ "java/lang/invoke/VarHandle" ∧ (parseMethodDescriptor yX8_told.desc).map (fun d => d.parameters.length) = some 1 := by decide +kernel
theorem zd_X8_weather : yX8_weather.cls = RX8 ∧ yX8_weather.cls ≠ "java/lang/invoke/MethodHandle" ∧ yX8_weather.cls ≠ "java/lang/invoke/VarHandle" ∧ (parseMethodDescriptor yX8_weather.desc).map (fun d => d.parameters.length) = some 1 := by decide +kernel
theorem zd_X9_add : yX9_add.cls = RX9 ∧ yX9_add.cls ≠ "java/lang/invoke/MethodHandle" ∧ yX9_add.cls ≠ "java/lang/invoke/VarHandle" ∧ (parseMethodDescriptor yX9_add.desc).map (fun d => d.parameters.length) = some 1 := by decide +kernel
theorem zd_X9_hasRoom : yX9_hasRoom.cls = RX9 ∧ yX9_hasRoom.cls ≠ "java/lang/invoke/MethodHandle" ∧ yX9_hasRoom.cls ≠ "java/lang/invoke/VarHandle" ∧ (parseMethodDescriptor yX9_hasRoom.desc).map (fun d => d.parameters.length) = some 1 := by decide +kernel
theorem zd_X9_isDigit : yX9_isDigit.cls ≠ "java/lang/invoke/MethodHandle" ∧ yX9_isDigit.cls ≠ "java/lang/invoke/VarHandle" ∧ (parseMethodDescriptor yX9_isDigit.desc).map (fun d => d.parameters.length) = some 1 := by decide +kernel
theorem zd_X9_isLetter : yX9_isLetter.cls ≠ "java/lang/invoke/MethodHandle" ∧ yX9_isLetter.cls ≠ "java/lang/invoke/VarHandle" ∧ (parseMethodDescriptor yX9_isLetter.desc).map (fun d => d.parameters.length) = some 1 := by decide +kernel
theorem zd_X9_isWord : yX9_isWord.cls = RX9 ∧ yX9_isWord.cls ≠ "java/lang/invoke/MethodHandle" ∧ yX9_isWord.cls ≠ "java/lang/invoke/VarHandle" ∧ (parseMethodDescriptor yX9_isWord.desc).map (fun d => d.parameters.length) = some 1 := by decide +kernel
theorem zd_X9_rewind : yX9_rewind.cls = RX9 ∧ yX9_rewind.cls ≠ "java/lang/invoke/MethodHandle" ∧ yX9_rewind.cls ≠ "java/lang/invoke/VarHandle" ∧ (parseMethodDescriptor yX9_rewind.desc).map (fun d => d.parameters.length) = some 0 := by decide +kernel
theorem zd_X9_scan : yX9_scan.cls = RX9 ∧ yX9_scan.cls ≠ "java/lang/invoke/MethodHandle" ∧ yX9_scan.cls ≠ "java/lang/invoke/VarHandle" ∧ (parseMethodDescriptor yX9_scan.desc).map (fun d => d.parameters.length) = some 0 := by decide +kernel
theorem zd_X9_scanNumber : yX9_scanNumber.cls = RX9 ∧ yX9_scanNumber.cls ≠ "java/lang/invoke/MethodHandle" ∧ yX9_scanNumber.cls ≠ "java/lang/invoke/VarHandle" ∧ (parseMethodDescriptor yX9_scanNumber.desc).map (fun d => d.parameters.length) = some 0 := by decide +kernel
theorem zd_X9_scanWord : yX9_scanWord.cls = RX9 ∧ yX9_scanWord.cls ≠ "java/lang/invoke/MethodHandle" ∧ yX9_scanWord.cls ≠ "java/lang/invoke/VarHandle" ∧ (parseMethodDescriptor yX9_scanWord.desc).map (fun d => d.parameters.length) = some 0 := by decide +kernel
theorem zw_cl_4_117 : Cond.constantLong RX10 185 (-1) ∈ z_om := z_in4 117 rfl rfl
theorem zw_cl_6_167 : Cond.constantLong RX11 291 (-1) ∈ z_om := z_in6 167 rfl rfl
theorem zw_cn_2_231 : Cond.constant RX10 266 (999999) ∈ z_om := z_in2 231 rfl rfl
theorem zw_cn_4_103 : Cond.constant RX2 85 (-1000000000) ∈ z_om := z_in4 103 rfl rfl
theorem zw_cn_4_104 : Cond.constant RX10 174 (-1000000000) ∈ z_om := z_in4 104 rfl rfl
theorem zw_cn_4_147 : Cond.constant RJ6 265 (1431655765) ∈ z_om := z_in4 147 rfl rfl
theorem zw_cn_4_148 : Cond.constant RJ6 266 (858993459) ∈ z_om := z_in4 148 rfl rfl
theorem zw_cn_4_149 : Cond.constant RJ6 267 (252645135) ∈ z_om := z_in4 149 rfl rfl
theorem zw_cn_4_182 : Cond.constant RX5 45 (9999999) ∈ z_om := z_in4 182 rfl rfl
theorem zw_cn_5_70 : Cond.constant RX11 92 (999999) ∈ z_om := z_in5 70 rfl rfl
theorem zw_cn_6_158 : Cond.constant RX11 286 (-1000000000) ∈ z_om := z_in6 158 rfl rfl
theorem zw_co_2_207 : Cond.code yX10_canStand cX10_canStand 2 (some .boolean) ∈ z_om := z_in2 207 rfl rfl
theorem zw_co_2_210 : Cond.code yX10_within cX10_within 3 (some .boolean) ∈ z_om := z_in2 210 rfl rfl
theorem zw_co_2_214 : Cond.code yX2_build cX2_build 5 none ∈ z_om := z_in2 214 rfl rfl
theorem zw_co_2_222 : Cond.code yX10_isHouse cX10_isHouse 2 (some .boolean) ∈ z_om := z_in2 222 rfl rfl
theorem zw_co_2_230 : Cond.code yX10_tellSize cX10_tellSize 2 (some .boolean) ∈ z_om := z_in2 230 rfl rfl
theorem zw_co_2_235 : Cond.code yX10_tellThaw cX10_tellThaw 2 (some .boolean) ∈ z_om := z_in2 235 rfl rfl
theorem zw_co_2_239 : Cond.code yX2_change cX2_change 3 (some .boolean) ∈ z_om := z_in2 239 rfl rfl
theorem zw_co_3_11 : Cond.code yX7_brew cX7_brew 3 none ∈ z_om := z_in3 11 rfl rfl
theorem zw_co_3_119 : Cond.code yX9_isDigit cX9_isDigit 1 (some .boolean) ∈ z_om := z_in3 119 rfl rfl
theorem zw_co_3_123 : Cond.code yX9_scanNumber cX9_scanNumber 1 none ∈ z_om := z_in3 123 rfl rfl
theorem zw_co_3_128 : Cond.code yJ0_indexOf_0f7a4 cJ0_indexOf_0f7a4 2 (some .int) ∈ z_om := z_in3 128 rfl rfl
theorem zw_co_3_132 : Cond.code yJ0_indexOf_7cf53 cJ0_indexOf_7cf53 3 (some .int) ∈ z_om := z_in3 132 rfl rfl
theorem zw_co_3_136 : Cond.code yJ1_indexOf_4cfef cJ1_indexOf_4cfef 4 (some .int) ∈ z_om := z_in3 136 rfl rfl
theorem zw_co_3_139 : Cond.code yJ1_canEncode_9a6ad cJ1_canEncode_9a6ad 1 (some .boolean) ∈ z_om := z_in3 139 rfl rfl
theorem zw_co_3_142 : Cond.code Lib.Math.max.name Lib.Math.max.code 2 (some .int) ∈ z_om := z_in3 142 rfl rfl
theorem zw_co_3_145 : Cond.code Lib.Math.min.name Lib.Math.min.code 2 (some .int) ∈ z_om := z_in3 145 rfl rfl
theorem zw_co_3_148 : Cond.code yJ1_indexOfChar_4cfef cJ1_indexOfChar_4cfef 6 (some .int) ∈ z_om := z_in3 148 rfl rfl
theorem zw_co_3_187 : Cond.code yX4_take cX4_take 2 none ∈ z_om := z_in3 187 rfl rfl
theorem zw_co_3_19 : Cond.code yX10_isStorm cX10_isStorm 2 (some .boolean) ∈ z_om := z_in3 19 rfl rfl
theorem zw_co_3_191 : Cond.code yX4_takeLine cX4_takeLine 2 none ∈ z_om := z_in3 191 rfl rfl
theorem zw_co_3_195 : Cond.code yX4_takeUnit cX4_takeUnit 2 none ∈ z_om := z_in3 195 rfl rfl
theorem zw_co_3_199 : Cond.code yX3_add cX3_add 2 none ∈ z_om := z_in3 199 rfl rfl
theorem zw_co_3_2 : Cond.code yX2_mostOf cX2_mostOf 1 (some .int) ∈ z_om := z_in3 2 rfl rfl
theorem zw_co_3_204 : Cond.code yX4_takePart cX4_takePart 2 none ∈ z_om := z_in3 204 rfl rfl
theorem zw_co_3_208 : Cond.code yX4_takeCase cX4_takeCase 2 none ∈ z_om := z_in3 208 rfl rfl
theorem zw_co_3_212 : Cond.code yX4_await cX4_await 2 none ∈ z_om := z_in3 212 rfl rfl
theorem zw_co_3_216 : Cond.code yX4_takeBehindCase cX4_takeBehindCase 2 none ∈ z_om := z_in3 216 rfl rfl
theorem zw_co_3_220 : Cond.code yX4_join cX4_join 2 none ∈ z_om := z_in3 220 rfl rfl
theorem zw_co_3_226 : Cond.code yX4_writeDownTo cX4_writeDownTo 2 none ∈ z_om := z_in3 226 rfl rfl
theorem zw_co_3_230 : Cond.code yX4_closeBracket cX4_closeBracket 1 none ∈ z_om := z_in3 230 rfl rfl
theorem zw_co_3_234 : Cond.code yX4_closeLine cX4_closeLine 1 none ∈ z_om := z_in3 234 rfl rfl
theorem zw_co_3_238 : Cond.code yX3_closeLine cX3_closeLine 1 none ∈ z_om := z_in3 238 rfl rfl
theorem zw_co_3_27 : Cond.code yX9_hasRoom cX9_hasRoom 2 (some .boolean) ∈ z_om := z_in3 27 rfl rfl
theorem zw_co_3_31 : Cond.code yX9_add cX9_add 3 none ∈ z_om := z_in3 31 rfl rfl
theorem zw_co_3_43 : Cond.code yX4_read cX4_read 3 none ∈ z_om := z_in3 43 rfl rfl
theorem zw_co_3_47 : Cond.code yX3_clear cX3_clear 1 none ∈ z_om := z_in3 47 rfl rfl
theorem zw_co_3_51 : Cond.code yX9_rewind cX9_rewind 1 none ∈ z_om := z_in3 51 rfl rfl
theorem zw_co_3_55 : Cond.code yX9_scan cX9_scan 2 none ∈ z_om := z_in3 55 rfl rfl
theorem zw_co_3_58 : Cond.code yX9_isLetter cX9_isLetter 1 (some .boolean) ∈ z_om := z_in3 58 rfl rfl
theorem zw_co_3_63 : Cond.code yX9_scanWord cX9_scanWord 2 none ∈ z_om := z_in3 63 rfl rfl
theorem zw_co_3_68 : Cond.code yJ0_length_8abf5 cJ0_length_8abf5 1 (some .int) ∈ z_om := z_in3 68 rfl rfl
theorem zw_co_3_72 : Cond.code yJ0_coder_7d493 cJ0_coder_7d493 1 (some .byte) ∈ z_om := z_in3 72 rfl rfl
theorem zw_co_3_78 : Cond.code yX9_isWord cX9_isWord 5 (some .boolean) ∈ z_om := z_in3 78 rfl rfl
theorem zw_co_3_82 : Cond.code yJ0_charAt_5068e cJ0_charAt_5068e 2 (some .char) ∈ z_om := z_in3 82 rfl rfl
theorem zw_co_3_86 : Cond.code yJ0_isLatin1_aae02 cJ0_isLatin1_aae02 1 (some .boolean) ∈ z_om := z_in3 86 rfl rfl
theorem zw_co_3_89 : Cond.code yJ1_charAt_3b067 cJ1_charAt_3b067 2 (some .char) ∈ z_om := z_in3 89 rfl rfl
theorem zw_co_3_92 : Cond.code yJ0_checkIndex_df160 cJ0_checkIndex_df160 2 none ∈ z_om := z_in3 92 rfl rfl
theorem zw_co_4_10 : Cond.code yX3_copy cX3_copy 2 none ∈ z_om := z_in4 10 rfl rfl
theorem zw_co_4_102 : Cond.code yX2_told cX2_told 2 (some .int) ∈ z_om := z_in4 102 rfl rfl
theorem zw_co_4_112 : Cond.code yX2_toldOf cX2_toldOf 3 (some .int) ∈ z_om := z_in4 112 rfl rfl
theorem zw_co_4_121 : Cond.code yX0_choose cX0_choose 3 (some .boolean) ∈ z_om := z_in4 121 rfl rfl
theorem zw_co_4_125 : Cond.code yX0_overWith cX0_overWith 7 (some .int) ∈ z_om := z_in4 125 rfl rfl
theorem zw_co_4_129 : Cond.code yX5_imagine cX5_imagine 3 none ∈ z_om := z_in4 129 rfl rfl
theorem zw_co_4_133 : Cond.code yX2_imagine cX2_imagine 2 none ∈ z_om := z_in4 133 rfl rfl
theorem zw_co_4_138 : Cond.code yX0_weigh cX0_weigh 13 none ∈ z_om := z_in4 138 rfl rfl
theorem zw_co_4_143 : Cond.code yX0_addOrders cX0_addOrders 8 (some .long) ∈ z_om := z_in4 143 rfl rfl
theorem zw_co_4_146 : Cond.code yJ6_bitCount_0f7a4 cJ6_bitCount_0f7a4 1 (some .int) ∈ z_om := z_in4 146 rfl rfl
theorem zw_co_4_154 : Cond.code Lib.MathLoose.abs_long.x Lib.MathLoose.abs_long.code 2 (some .long) ∈ z_om := z_in4 154 rfl rfl
theorem zw_co_4_157 : Cond.code yX0_commonPart cX0_commonPart 7 (some .long) ∈ z_om := z_in4 157 rfl rfl
theorem zw_co_4_160 : Cond.code Lib.MathLoose.max_long.x Lib.MathLoose.max_long.code 4 (some .long) ∈ z_om := z_in4 160 rfl rfl
theorem zw_co_4_168 : Cond.code yX10_planStorms cX10_planStorms 5 (some .boolean) ∈ z_om := z_in4 168 rfl rfl
theorem zw_co_4_172 : Cond.code yX10_planStorm cX10_planStorm 2 (some .boolean) ∈ z_om := z_in4 172 rfl rfl
theorem zw_co_4_176 : Cond.code yX1_rain cX1_rain 5 none ∈ z_om := z_in4 176 rfl rfl
theorem zw_co_4_181 : Cond.code yX5_widen cX5_widen 2 none ∈ z_om := z_in4 181 rfl rfl
theorem zw_co_4_187 : Cond.code yX1_plan cX1_plan 5 (some .boolean) ∈ z_om := z_in4 187 rfl rfl
theorem zw_co_4_191 : Cond.code yX1_bestTimes cX1_bestTimes 5 (some .int) ∈ z_om := z_in4 191 rfl rfl
theorem zw_co_4_196 : Cond.code yX1_staysDry cX1_staysDry 6 (some .boolean) ∈ z_om := z_in4 196 rfl rfl
theorem zw_co_4_2 : Cond.code yX4_takeBehindUnit cX4_takeBehindUnit 2 none ∈ z_om := z_in4 2 rfl rfl
theorem zw_co_4_200 : Cond.code yX1_isAhead cX1_isAhead 3 (some .boolean) ∈ z_om := z_in4 200 rfl rfl
theorem zw_co_4_212 : Cond.code yX5_strip cX5_strip 2 none ∈ z_om := z_in4 212 rfl rfl
theorem zw_co_4_217 : Cond.code yX10_widerPrice cX10_widerPrice 4 (some .int) ∈ z_om := z_in4 217 rfl rfl
theorem zw_co_4_226 : Cond.code yX6_explain cX6_explain 5 none ∈ z_om := z_in4 226 rfl rfl
theorem zw_co_4_230 : Cond.code yX6_tryHouse cX6_tryHouse 6 none ∈ z_om := z_in4 230 rfl rfl
theorem zw_co_4_234 : Cond.code yX6_note cX6_note 2 none ∈ z_om := z_in4 234 rfl rfl
theorem zw_co_4_238 : Cond.code yX6_runsOver cX6_runsOver 5 (some .boolean) ∈ z_om := z_in4 238 rfl rfl
theorem zw_co_4_25 : Cond.code yX8_weather cX8_weather 6 (some .int) ∈ z_om := z_in4 25 rfl rfl
theorem zw_co_4_29 : Cond.code yX5_pour cX5_pour 5 (some .int) ∈ z_om := z_in4 29 rfl rfl
theorem zw_co_4_33 : Cond.code yX5_pass cX5_pass 6 none ∈ z_om := z_in4 33 rfl rfl
theorem zw_co_4_37 : Cond.code yX2_drink cX2_drink 6 none ∈ z_om := z_in4 37 rfl rfl
theorem zw_co_4_41 : Cond.code yX2_carriesAt cX2_carriesAt 2 (some .int) ∈ z_om := z_in4 41 rfl rfl
theorem zw_co_4_45 : Cond.code yX2_land cX2_land 6 (some .int) ∈ z_om := z_in4 45 rfl rfl
theorem zw_co_4_50 : Cond.code yX2_passBarrel cX2_passBarrel 3 (some .int) ∈ z_om := z_in4 50 rfl rfl
theorem zw_co_4_55 : Cond.code yX7_fallInAll cX7_fallInAll 3 (some .int) ∈ z_om := z_in4 55 rfl rfl
theorem zw_co_4_59 : Cond.code yX2_carriedInAll cX2_carriedInAll 4 (some .int) ∈ z_om := z_in4 59 rfl rfl
theorem zw_co_4_6 : Cond.code yX3_closeSum cX3_closeSum 1 none ∈ z_om := z_in4 6 rfl rfl
theorem zw_co_4_63 : Cond.code yX8_store cX8_store 3 none ∈ z_om := z_in4 63 rfl rfl
theorem zw_co_4_69 : Cond.code yX8_settle cX8_settle 3 none ∈ z_om := z_in4 69 rfl rfl
theorem zw_co_4_73 : Cond.code yX8_pay cX8_pay 6 none ∈ z_om := z_in4 73 rfl rfl
theorem zw_co_4_76 : Cond.code Lib.Math.abs.name Lib.Math.abs.code 1 (some .int) ∈ z_om := z_in4 76 rfl rfl
theorem zw_co_4_80 : Cond.code yX3_asks cX3_asks 6 (some .int) ∈ z_om := z_in4 80 rfl rfl
theorem zw_co_4_84 : Cond.code yX3_worth cX3_worth 7 (some .int) ∈ z_om := z_in4 84 rfl rfl
theorem zw_co_4_88 : Cond.code yX3_joined cX3_joined 3 (some .int) ∈ z_om := z_in4 88 rfl rfl
theorem zw_co_4_94 : Cond.code yX2_closeStorm cX2_closeStorm 1 none ∈ z_om := z_in4 94 rfl rfl
theorem zw_co_5_11 : Cond.code yX10_overAsNow cX10_overAsNow 2 (some .int) ∈ z_om := z_in5 11 rfl rfl
theorem zw_co_5_15 : Cond.code yX10_overIfDrained cX10_overIfDrained 3 (some .int) ∈ z_om := z_in5 15 rfl rfl
theorem zw_co_5_211 : Cond.code yX11_isIn cX11_isIn 3 (some .boolean) ∈ z_om := z_in5 211 rfl rfl
theorem zw_co_5_215 : Cond.code yX11_gives cX11_gives 4 none ∈ z_om := z_in5 215 rfl rfl
theorem zw_co_5_223 : Cond.code yX11_isHouse cX11_isHouse 2 (some .boolean) ∈ z_om := z_in5 223 rfl rfl
theorem zw_co_5_23 : Cond.code yX5_imagineAdded cX5_imagineAdded 8 none ∈ z_om := z_in5 23 rfl rfl
theorem zw_co_5_239 : Cond.code yX11_isStorm cX11_isStorm 2 (some .boolean) ∈ z_om := z_in5 239 rfl rfl
theorem zw_co_5_3 : Cond.code yX6_told cX6_told 2 (some .int) ∈ z_om := z_in5 3 rfl rfl
theorem zw_co_5_33 : Cond.code yX8_copy cX8_copy 3 none ∈ z_om := z_in5 33 rfl rfl
theorem zw_co_5_37 : Cond.code yX5_copy cX5_copy 3 none ∈ z_om := z_in5 37 rfl rfl
theorem zw_co_5_41 : Cond.code yX2_copy cX2_copy 2 none ∈ z_om := z_in5 41 rfl rfl
theorem zw_co_5_47 : Cond.code yX7_copy cX7_copy 3 none ∈ z_om := z_in5 47 rfl rfl
theorem zw_co_5_56 : Cond.code yX7_told cX7_told 2 (some .int) ∈ z_om := z_in5 56 rfl rfl
theorem zw_co_5_61 : Cond.code yX8_told cX8_told 2 (some .int) ∈ z_om := z_in5 61 rfl rfl
theorem zw_co_6_100 : Cond.code yX11_need cX11_need 2 (some .boolean) ∈ z_om := z_in6 100 rfl rfl
theorem zw_co_6_112 : Cond.code yX11_laysHouses cX11_laysHouses 2 none ∈ z_om := z_in6 112 rfl rfl
theorem zw_co_6_116 : Cond.code yX11_own cX11_own 3 (some .int) ∈ z_om := z_in6 116 rfl rfl
theorem zw_co_6_120 : Cond.code yX11_runs cX11_runs 9 (some .int) ∈ z_om := z_in6 120 rfl rfl
theorem zw_co_6_124 : Cond.code yX11_fallOf cX11_fallOf 3 (some .int) ∈ z_om := z_in6 124 rfl rfl
theorem zw_co_6_128 : Cond.code yX11_isSnow cX11_isSnow 3 (some .boolean) ∈ z_om := z_in6 128 rfl rfl
theorem zw_co_6_131 : Cond.code yX11_least cX11_least 2 (some .int) ∈ z_om := z_in6 131 rfl rfl
theorem zw_co_6_135 : Cond.code yX11_gets cX11_gets 4 (some .int) ∈ z_om := z_in6 135 rfl rfl
theorem zw_co_6_138 : Cond.code yX11_most cX11_most 2 (some .int) ∈ z_om := z_in6 138 rfl rfl
theorem zw_co_6_142 : Cond.code yX11_writes cX11_writes 6 none ∈ z_om := z_in6 142 rfl rfl
theorem zw_co_6_146 : Cond.code yX11_pays cX11_pays 4 (some .int) ∈ z_om := z_in6 146 rfl rfl
theorem zw_co_6_150 : Cond.code yX11_comesTo cX11_comesTo 7 (some .int) ∈ z_om := z_in6 150 rfl rfl
theorem zw_co_6_153 : Cond.code yX11_both cX11_both 3 (some .int) ∈ z_om := z_in6 153 rfl rfl
theorem zw_co_6_170 : Cond.code yX11_count cX11_count 3 (some .int) ∈ z_om := z_in6 170 rfl rfl
theorem zw_co_6_174 : Cond.code yX11_overAt cX11_overAt 5 (some .int) ∈ z_om := z_in6 174 rfl rfl
theorem zw_co_6_177 : Cond.code yX11_orders cX11_orders 1 (some .long) ∈ z_om := z_in6 177 rfl rfl
theorem zw_co_6_185 : Cond.code yX11_goesOn cX11_goesOn 5 none ∈ z_om := z_in6 185 rfl rfl
theorem zw_co_6_19 : Cond.code yX11_next0 cX11_next0 3 none ∈ z_om := z_in6 19 rfl rfl
theorem zw_co_6_205 : Cond.code yX11_movesDown cX11_movesDown 2 none ∈ z_om := z_in6 205 rfl rfl
theorem zw_co_6_23 : Cond.code yX11_see cX11_see 2 (some .int) ∈ z_om := z_in6 23 rfl rfl
theorem zw_co_6_26 : Cond.code yX11_isLetter cX11_isLetter 1 (some .boolean) ∈ z_om := z_in6 26 rfl rfl
theorem zw_co_6_3 : Cond.code yX11_hoursOf cX11_hoursOf 2 (some .int) ∈ z_om := z_in6 3 rfl rfl
theorem zw_co_6_30 : Cond.code yX11_word cX11_word 1 (some .int) ∈ z_om := z_in6 30 rfl rfl
theorem zw_co_6_35 : Cond.code yX11_is cX11_is 4 (some .boolean) ∈ z_om := z_in6 35 rfl rfl
theorem zw_co_6_45 : Cond.code yX11_nameWord cX11_nameWord 1 (some .int) ∈ z_om := z_in6 45 rfl rfl
theorem zw_co_6_56 : Cond.code yX11_isDigit cX11_isDigit 1 (some .boolean) ∈ z_om := z_in6 56 rfl rfl
theorem zw_co_6_60 : Cond.code yX11_aLine cX11_aLine 1 (some .boolean) ∈ z_om := z_in6 60 rfl rfl
theorem zw_co_6_64 : Cond.code yX11_bad cX11_bad 2 (some .boolean) ∈ z_om := z_in6 64 rfl rfl
theorem zw_co_6_68 : Cond.code yX11_sumUp cX11_sumUp 2 (some .boolean) ∈ z_om := z_in6 68 rfl rfl
theorem zw_co_6_72 : Cond.code yX11_product cX11_product 3 (some .boolean) ∈ z_om := z_in6 72 rfl rfl
theorem zw_co_6_76 : Cond.code yX11_unit cX11_unit 2 (some .boolean) ∈ z_om := z_in6 76 rfl rfl
theorem zw_co_6_80 : Cond.code yX11_lay cX11_lay 3 none ∈ z_om := z_in6 80 rfl rfl
theorem zw_co_6_84 : Cond.code yX11_any cX11_any 1 (some .boolean) ∈ z_om := z_in6 84 rfl rfl
theorem zw_co_6_88 : Cond.code yX11_every cX11_every 1 (some .boolean) ∈ z_om := z_in6 88 rfl rfl
theorem zw_co_6_92 : Cond.code yX11_oneTest cX11_oneTest 2 (some .boolean) ∈ z_om := z_in6 92 rfl rfl
theorem zw_co_6_96 : Cond.code yX11_opens cX11_opens 1 (some .boolean) ∈ z_om := z_in6 96 rfl rfl
theorem zw_fl_1_135 : Cond.fieldLink RX5 22 "DrinkingRoofs$Roofs" "count" "I" ∈ z_om := z_in1 135 rfl rfl
theorem zw_fl_1_136 : Cond.fieldLink RX10 68 "DrinkingRoofs$Roofs" "count" "I" ∈ z_om := z_in1 136 rfl rfl
theorem zw_fl_1_137 : Cond.fieldLink RX0 22 "DrinkingRoofs$Roofs" "count" "I" ∈ z_om := z_in1 137 rfl rfl
theorem zw_fl_1_138 : Cond.fieldLink RX1 47 "DrinkingRoofs$Roofs" "count" "I" ∈ z_om := z_in1 138 rfl rfl
theorem zw_fl_1_139 : Cond.fieldLink RX8 72 "DrinkingRoofs$Roofs" "count" "I" ∈ z_om := z_in1 139 rfl rfl
theorem zw_fl_1_140 : Cond.fieldLink RX6 53 "DrinkingRoofs$Roofs" "count" "I" ∈ z_om := z_in1 140 rfl rfl
theorem zw_fl_1_141 : Cond.fieldLink RX5 9 "DrinkingRoofs$Roofs" "thaw" "I" ∈ z_om := z_in1 141 rfl rfl
theorem zw_fl_1_142 : Cond.fieldLink RX8 78 "DrinkingRoofs$Roofs" "thaw" "I" ∈ z_om := z_in1 142 rfl rfl
theorem zw_fl_1_143 : Cond.fieldLink RX10 270 "DrinkingRoofs$Roofs" "thaw" "I" ∈ z_om := z_in1 143 rfl rfl
theorem zw_fl_1_144 : Cond.fieldLink RX5 17 "DrinkingRoofs$Roofs" "houses" "[LDrinkingRoofs$House;" ∈ z_om := z_in1 144 rfl rfl
theorem zw_fl_1_145 : Cond.fieldLink RX0 25 "DrinkingRoofs$Roofs" "houses" "[LDrinkingRoofs$House;" ∈ z_om := z_in1 145 rfl rfl
theorem zw_fl_1_146 : Cond.fieldLink RX10 80 "DrinkingRoofs$Roofs" "houses" "[LDrinkingRoofs$House;" ∈ z_om := z_in1 146 rfl rfl
theorem zw_fl_1_147 : Cond.fieldLink RX1 50 "DrinkingRoofs$Roofs" "houses" "[LDrinkingRoofs$House;" ∈ z_om := z_in1 147 rfl rfl
theorem zw_fl_1_148 : Cond.fieldLink RX8 89 "DrinkingRoofs$Roofs" "houses" "[LDrinkingRoofs$House;" ∈ z_om := z_in1 148 rfl rfl
theorem zw_fl_1_149 : Cond.fieldLink RX6 62 "DrinkingRoofs$Roofs" "houses" "[LDrinkingRoofs$House;" ∈ z_om := z_in1 149 rfl rfl
theorem zw_fl_1_165 : Cond.fieldLink RX3 24 "DrinkingRoofs$Law" "lines" "I" ∈ z_om := z_in1 165 rfl rfl
theorem zw_fl_1_166 : Cond.fieldLink RX8 75 "DrinkingRoofs$Law" "lines" "I" ∈ z_om := z_in1 166 rfl rfl
theorem zw_fl_1_167 : Cond.fieldLink RX4 89 "DrinkingRoofs$Law" "lines" "I" ∈ z_om := z_in1 167 rfl rfl
theorem zw_fl_1_168 : Cond.fieldLink RX10 160 "DrinkingRoofs$Law" "lines" "I" ∈ z_om := z_in1 168 rfl rfl
theorem zw_fl_1_169 : Cond.fieldLink RX3 28 "DrinkingRoofs$Law" "length" "I" ∈ z_om := z_in1 169 rfl rfl
theorem zw_fl_1_170 : Cond.fieldLink RX3 9 "DrinkingRoofs$Law" "code" "[I" ∈ z_om := z_in1 170 rfl rfl
theorem zw_fl_1_171 : Cond.fieldLink RX3 15 "DrinkingRoofs$Law" "sumFrom" "[I" ∈ z_om := z_in1 171 rfl rfl
theorem zw_fl_1_172 : Cond.fieldLink RX3 18 "DrinkingRoofs$Law" "whenFrom" "[I" ∈ z_om := z_in1 172 rfl rfl
theorem zw_fl_1_173 : Cond.fieldLink RX3 21 "DrinkingRoofs$Law" "stack" "[I" ∈ z_om := z_in1 173 rfl rfl
theorem zw_fl_1_193 : Cond.fieldLink RX7 19 "DrinkingRoofs$Storm" "hours" "I" ∈ z_om := z_in1 193 rfl rfl
theorem zw_fl_1_194 : Cond.fieldLink RX8 101 "DrinkingRoofs$Storm" "hours" "I" ∈ z_om := z_in1 194 rfl rfl
theorem zw_fl_1_195 : Cond.fieldLink RX10 122 "DrinkingRoofs$Storm" "hours" "I" ∈ z_om := z_in1 195 rfl rfl
theorem zw_fl_1_196 : Cond.fieldLink RX5 68 "DrinkingRoofs$Storm" "hours" "I" ∈ z_om := z_in1 196 rfl rfl
theorem zw_fl_1_197 : Cond.fieldLink RX2 92 "DrinkingRoofs$Storm" "hours" "I" ∈ z_om := z_in1 197 rfl rfl
theorem zw_fl_1_198 : Cond.fieldLink RX7 9 "DrinkingRoofs$Storm" "falls" "[I" ∈ z_om := z_in1 198 rfl rfl
theorem zw_fl_1_199 : Cond.fieldLink RX10 125 "DrinkingRoofs$Storm" "falls" "[I" ∈ z_om := z_in1 199 rfl rfl
theorem zw_fl_1_200 : Cond.fieldLink RX2 113 "DrinkingRoofs$Storm" "falls" "[I" ∈ z_om := z_in1 200 rfl rfl
theorem zw_fl_1_201 : Cond.fieldLink RX7 15 "DrinkingRoofs$Storm" "snows" "[Z" ∈ z_om := z_in1 201 rfl rfl
theorem zw_fl_1_202 : Cond.fieldLink RX10 129 "DrinkingRoofs$Storm" "snows" "[Z" ∈ z_om := z_in1 202 rfl rfl
theorem zw_fl_1_203 : Cond.fieldLink RX2 116 "DrinkingRoofs$Storm" "snows" "[Z" ∈ z_om := z_in1 203 rfl rfl
theorem zw_fl_1_212 : Cond.fieldLink RX8 12 "DrinkingRoofs$Street" "roofs" "LDrinkingRoofs$Roofs;" ∈ z_om := z_in1 212 rfl rfl
theorem zw_fl_1_213 : Cond.fieldLink RX1 21 "DrinkingRoofs$Street" "roofs" "LDrinkingRoofs$Roofs;" ∈ z_om := z_in1 213 rfl rfl
theorem zw_fl_1_214 : Cond.fieldLink RX10 65 "DrinkingRoofs$Street" "roofs" "LDrinkingRoofs$Roofs;" ∈ z_om := z_in1 214 rfl rfl
theorem zw_fl_1_215 : Cond.fieldLink RX6 27 "DrinkingRoofs$Street" "roofs" "LDrinkingRoofs$Roofs;" ∈ z_om := z_in1 215 rfl rfl
theorem zw_fl_1_216 : Cond.fieldLink RX8 45 "DrinkingRoofs$Street" "stormCount" "I" ∈ z_om := z_in1 216 rfl rfl
theorem zw_fl_1_217 : Cond.fieldLink RX6 39 "DrinkingRoofs$Street" "stormCount" "I" ∈ z_om := z_in1 217 rfl rfl
theorem zw_fl_1_218 : Cond.fieldLink RX10 106 "DrinkingRoofs$Street" "stormCount" "I" ∈ z_om := z_in1 218 rfl rfl
theorem zw_fl_1_219 : Cond.fieldLink RX8 20 "DrinkingRoofs$Street" "storms" "[LDrinkingRoofs$Storm;" ∈ z_om := z_in1 219 rfl rfl
theorem zw_fl_1_220 : Cond.fieldLink RX1 40 "DrinkingRoofs$Street" "storms" "[LDrinkingRoofs$Storm;" ∈ z_om := z_in1 220 rfl rfl
theorem zw_fl_1_221 : Cond.fieldLink RX6 45 "DrinkingRoofs$Street" "storms" "[LDrinkingRoofs$Storm;" ∈ z_om := z_in1 221 rfl rfl
theorem zw_fl_1_222 : Cond.fieldLink RX10 109 "DrinkingRoofs$Street" "storms" "[LDrinkingRoofs$Storm;" ∈ z_om := z_in1 222 rfl rfl
theorem zw_fl_1_223 : Cond.fieldLink RX8 27 "DrinkingRoofs$Street" "law" "LDrinkingRoofs$Law;" ∈ z_om := z_in1 223 rfl rfl
theorem zw_fl_1_224 : Cond.fieldLink RX10 149 "DrinkingRoofs$Street" "law" "LDrinkingRoofs$Law;" ∈ z_om := z_in1 224 rfl rfl
theorem zw_fl_1_225 : Cond.fieldLink RX8 32 "DrinkingRoofs$Street" "size" "I" ∈ z_om := z_in1 225 rfl rfl
theorem zw_fl_1_226 : Cond.fieldLink RX10 267 "DrinkingRoofs$Street" "size" "I" ∈ z_om := z_in1 226 rfl rfl
theorem zw_fl_1_227 : Cond.fieldLink RX8 54 "DrinkingRoofs$Street" "has" "I" ∈ z_om := z_in1 227 rfl rfl
theorem zw_fl_1_228 : Cond.fieldLink RX8 57 "DrinkingRoofs$Street" "off" "I" ∈ z_om := z_in1 228 rfl rfl
theorem zw_fl_1_229 : Cond.fieldLink RX8 60 "DrinkingRoofs$Street" "stormsCame" "I" ∈ z_om := z_in1 229 rfl rfl
theorem zw_fl_1_230 : Cond.fieldLink RX8 63 "DrinkingRoofs$Street" "fell" "I" ∈ z_om := z_in1 230 rfl rfl
theorem zw_fl_1_231 : Cond.fieldLink RX8 66 "DrinkingRoofs$Street" "latestHouses" "I" ∈ z_om := z_in1 231 rfl rfl
theorem zw_fl_1_232 : Cond.fieldLink RX10 175 "DrinkingRoofs$Street" "latestHouses" "I" ∈ z_om := z_in1 232 rfl rfl
theorem zw_fl_1_233 : Cond.fieldLink RX8 69 "DrinkingRoofs$Street" "latestHours" "I" ∈ z_om := z_in1 233 rfl rfl
theorem zw_fl_1_234 : Cond.fieldLink RX10 178 "DrinkingRoofs$Street" "latestHours" "I" ∈ z_om := z_in1 234 rfl rfl
theorem zw_fl_1_235 : Cond.fieldLink RX8 36 "DrinkingRoofs$Street" "measures" "[I" ∈ z_om := z_in1 235 rfl rfl
theorem zw_fl_1_48 : Cond.fieldLink RX2 24 "DrinkingRoofs$House" "area" "I" ∈ z_om := z_in1 48 rfl rfl
theorem zw_fl_1_49 : Cond.fieldLink RX8 93 "DrinkingRoofs$House" "area" "I" ∈ z_om := z_in1 49 rfl rfl
theorem zw_fl_1_50 : Cond.fieldLink RX2 28 "DrinkingRoofs$House" "carries" "I" ∈ z_om := z_in1 50 rfl rfl
theorem zw_fl_1_51 : Cond.fieldLink RX5 46 "DrinkingRoofs$House" "carries" "I" ∈ z_om := z_in1 51 rfl rfl
theorem zw_fl_1_52 : Cond.fieldLink RX10 281 "DrinkingRoofs$House" "carries" "I" ∈ z_om := z_in1 52 rfl rfl
theorem zw_fl_1_53 : Cond.fieldLink RX2 31 "DrinkingRoofs$House" "leaves" "I" ∈ z_om := z_in1 53 rfl rfl
theorem zw_fl_1_54 : Cond.fieldLink RX1 85 "DrinkingRoofs$House" "leaves" "I" ∈ z_om := z_in1 54 rfl rfl
theorem zw_fl_1_55 : Cond.fieldLink RX2 34 "DrinkingRoofs$House" "price" "I" ∈ z_om := z_in1 55 rfl rfl
theorem zw_fl_1_56 : Cond.fieldLink RX10 278 "DrinkingRoofs$House" "price" "I" ∈ z_om := z_in1 56 rfl rfl
theorem zw_fl_1_57 : Cond.fieldLink RX2 37 "DrinkingRoofs$House" "empties" "I" ∈ z_om := z_in1 57 rfl rfl
theorem zw_fl_1_58 : Cond.fieldLink RX10 94 "DrinkingRoofs$House" "empties" "I" ∈ z_om := z_in1 58 rfl rfl
theorem zw_fl_1_59 : Cond.fieldLink RX8 98 "DrinkingRoofs$House" "empties" "I" ∈ z_om := z_in1 59 rfl rfl
theorem zw_fl_1_60 : Cond.fieldLink RX5 38 "DrinkingRoofs$House" "empties" "I" ∈ z_om := z_in1 60 rfl rfl
theorem zw_fl_1_61 : Cond.fieldLink RX0 29 "DrinkingRoofs$House" "clog" "I" ∈ z_om := z_in1 61 rfl rfl
theorem zw_fl_1_62 : Cond.fieldLink RX2 40 "DrinkingRoofs$House" "clog" "I" ∈ z_om := z_in1 62 rfl rfl
theorem zw_fl_1_63 : Cond.fieldLink RX6 66 "DrinkingRoofs$House" "clog" "I" ∈ z_om := z_in1 63 rfl rfl
theorem zw_fl_1_64 : Cond.fieldLink RX5 49 "DrinkingRoofs$House" "clog" "I" ∈ z_om := z_in1 64 rfl rfl
theorem zw_fl_1_65 : Cond.fieldLink RX1 79 "DrinkingRoofs$House" "clog" "I" ∈ z_om := z_in1 65 rfl rfl
theorem zw_fl_1_66 : Cond.fieldLink RX8 134 "DrinkingRoofs$House" "clog" "I" ∈ z_om := z_in1 66 rfl rfl
theorem zw_fl_1_67 : Cond.fieldLink RX2 43 "DrinkingRoofs$House" "barrel" "I" ∈ z_om := z_in1 67 rfl rfl
theorem zw_fl_1_68 : Cond.fieldLink RX5 52 "DrinkingRoofs$House" "barrel" "I" ∈ z_om := z_in1 68 rfl rfl
theorem zw_fl_1_69 : Cond.fieldLink RX2 46 "DrinkingRoofs$House" "let" "I" ∈ z_om := z_in1 69 rfl rfl
theorem zw_fl_1_70 : Cond.fieldLink RX2 49 "DrinkingRoofs$House" "held" "I" ∈ z_om := z_in1 70 rfl rfl
theorem zw_fl_1_71 : Cond.fieldLink RX6 71 "DrinkingRoofs$House" "held" "I" ∈ z_om := z_in1 71 rfl rfl
theorem zw_fl_1_72 : Cond.fieldLink RX5 55 "DrinkingRoofs$House" "held" "I" ∈ z_om := z_in1 72 rfl rfl
theorem zw_fl_1_73 : Cond.fieldLink RX8 140 "DrinkingRoofs$House" "held" "I" ∈ z_om := z_in1 73 rfl rfl
theorem zw_fl_1_74 : Cond.fieldLink RX2 52 "DrinkingRoofs$House" "snow" "I" ∈ z_om := z_in1 74 rfl rfl
theorem zw_fl_1_75 : Cond.fieldLink RX6 74 "DrinkingRoofs$House" "snow" "I" ∈ z_om := z_in1 75 rfl rfl
theorem zw_fl_1_76 : Cond.fieldLink RX5 58 "DrinkingRoofs$House" "snow" "I" ∈ z_om := z_in1 76 rfl rfl
theorem zw_fl_1_77 : Cond.fieldLink RX2 55 "DrinkingRoofs$House" "coin" "I" ∈ z_om := z_in1 77 rfl rfl
theorem zw_fl_1_78 : Cond.fieldLink RX8 147 "DrinkingRoofs$House" "coin" "I" ∈ z_om := z_in1 78 rfl rfl
theorem zw_fl_1_79 : Cond.fieldLink RX2 58 "DrinkingRoofs$House" "wet" "I" ∈ z_om := z_in1 79 rfl rfl
theorem zw_fl_1_80 : Cond.fieldLink RX2 61 "DrinkingRoofs$House" "over" "I" ∈ z_om := z_in1 80 rfl rfl
theorem zw_fl_1_81 : Cond.fieldLink RX0 42 "DrinkingRoofs$House" "over" "I" ∈ z_om := z_in1 81 rfl rfl
theorem zw_fl_1_82 : Cond.fieldLink RX6 81 "DrinkingRoofs$House" "over" "I" ∈ z_om := z_in1 82 rfl rfl
theorem zw_fl_1_83 : Cond.fieldLink RX8 127 "DrinkingRoofs$House" "over" "I" ∈ z_om := z_in1 83 rfl rfl
theorem zw_fl_1_84 : Cond.fieldLink RX5 65 "DrinkingRoofs$House" "over" "I" ∈ z_om := z_in1 84 rfl rfl
theorem zw_fl_1_85 : Cond.fieldLink RX2 64 "DrinkingRoofs$House" "dry" "I" ∈ z_om := z_in1 85 rfl rfl
theorem zw_fl_1_86 : Cond.fieldLink RX1 54 "DrinkingRoofs$House" "mostGot" "I" ∈ z_om := z_in1 86 rfl rfl
theorem zw_fl_1_87 : Cond.fieldLink RX2 89 "DrinkingRoofs$House" "mostGot" "I" ∈ z_om := z_in1 87 rfl rfl
theorem zw_fl_1_88 : Cond.fieldLink RX10 242 "DrinkingRoofs$House" "mostGot" "I" ∈ z_om := z_in1 88 rfl rfl
theorem zw_fl_1_89 : Cond.fieldLink RX2 9 "DrinkingRoofs$House" "above" "[I" ∈ z_om := z_in1 89 rfl rfl
theorem zw_fl_1_90 : Cond.fieldLink RX5 73 "DrinkingRoofs$House" "above" "[I" ∈ z_om := z_in1 90 rfl rfl
theorem zw_fl_1_91 : Cond.fieldLink RX2 15 "DrinkingRoofs$House" "got" "[I" ∈ z_om := z_in1 91 rfl rfl
theorem zw_fl_1_92 : Cond.fieldLink RX2 18 "DrinkingRoofs$House" "carried" "[I" ∈ z_om := z_in1 92 rfl rfl
theorem zw_fl_1_93 : Cond.fieldLink RX5 77 "DrinkingRoofs$House" "carried" "[I" ∈ z_om := z_in1 93 rfl rfl
theorem zw_fl_1_94 : Cond.fieldLink RX2 21 "DrinkingRoofs$House" "spilt" "[I" ∈ z_om := z_in1 94 rfl rfl
theorem zw_fl_2_104 : Cond.fieldLink RX0 45 "DrinkingRoofs$Blame" "shareAbove" "J" ∈ z_om := z_in2 104 rfl rfl
theorem zw_fl_2_105 : Cond.fieldLink RX10 199 "DrinkingRoofs$Blame" "shareAbove" "J" ∈ z_om := z_in2 105 rfl rfl
theorem zw_fl_2_106 : Cond.fieldLink RX0 49 "DrinkingRoofs$Blame" "shareBelow" "J" ∈ z_om := z_in2 106 rfl rfl
theorem zw_fl_2_107 : Cond.fieldLink RX10 203 "DrinkingRoofs$Blame" "shareBelow" "J" ∈ z_om := z_in2 107 rfl rfl
theorem zw_fl_2_108 : Cond.fieldLink RX0 18 "DrinkingRoofs$Blame" "count" "I" ∈ z_om := z_in2 108 rfl rfl
theorem zw_fl_2_109 : Cond.fieldLink RX0 9 "DrinkingRoofs$Blame" "clogged" "[I" ∈ z_om := z_in2 109 rfl rfl
theorem zw_fl_2_110 : Cond.fieldLink RX0 15 "DrinkingRoofs$Blame" "overs" "[I" ∈ z_om := z_in2 110 rfl rfl
theorem zw_fl_2_128 : Cond.fieldLink RX1 36 "DrinkingRoofs$Cleaning" "stormCount" "I" ∈ z_om := z_in2 128 rfl rfl
theorem zw_fl_2_129 : Cond.fieldLink RX10 210 "DrinkingRoofs$Cleaning" "stormCount" "I" ∈ z_om := z_in2 129 rfl rfl
theorem zw_fl_2_130 : Cond.fieldLink RX1 58 "DrinkingRoofs$Cleaning" "fewest" "I" ∈ z_om := z_in2 130 rfl rfl
theorem zw_fl_2_131 : Cond.fieldLink RX10 218 "DrinkingRoofs$Cleaning" "fewest" "I" ∈ z_om := z_in2 131 rfl rfl
theorem zw_fl_2_132 : Cond.fieldLink RX1 9 "DrinkingRoofs$Cleaning" "storms" "[I" ∈ z_om := z_in2 132 rfl rfl
theorem zw_fl_2_133 : Cond.fieldLink RX10 276 "DrinkingRoofs$Cleaning" "storms" "[I" ∈ z_om := z_in2 133 rfl rfl
theorem zw_fl_2_134 : Cond.fieldLink RX1 15 "DrinkingRoofs$Cleaning" "sets" "[I" ∈ z_om := z_in2 134 rfl rfl
theorem zw_fl_2_135 : Cond.fieldLink RX10 221 "DrinkingRoofs$Cleaning" "sets" "[I" ∈ z_om := z_in2 135 rfl rfl
theorem zw_fl_2_136 : Cond.fieldLink RX1 18 "DrinkingRoofs$Cleaning" "mostGot" "[I" ∈ z_om := z_in2 136 rfl rfl
theorem zw_fl_2_154 : Cond.fieldLink RX6 9 "DrinkingRoofs$Stains" "seen" "I" ∈ z_om := z_in2 154 rfl rfl
theorem zw_fl_2_155 : Cond.fieldLink RX6 15 "DrinkingRoofs$Stains" "count" "I" ∈ z_om := z_in2 155 rfl rfl
theorem zw_fl_2_156 : Cond.fieldLink RX6 18 "DrinkingRoofs$Stains" "leastStorm" "I" ∈ z_om := z_in2 156 rfl rfl
theorem zw_fl_2_157 : Cond.fieldLink RX6 21 "DrinkingRoofs$Stains" "leastSet" "I" ∈ z_om := z_in2 157 rfl rfl
theorem zw_fl_2_158 : Cond.fieldLink RX6 24 "DrinkingRoofs$Stains" "inAll" "I" ∈ z_om := z_in2 158 rfl rfl
theorem zw_fl_2_159 : Cond.fieldLink RX6 42 "DrinkingRoofs$Stains" "storm" "I" ∈ z_om := z_in2 159 rfl rfl
theorem zw_fl_2_173 : Cond.fieldLink RX10 12 "DrinkingRoofs" "now" "LDrinkingRoofs$Street;" ∈ z_om := z_in2 173 rfl rfl
theorem zw_fl_2_174 : Cond.fieldLink RX10 16 "DrinkingRoofs" "kept" "LDrinkingRoofs$Street;" ∈ z_om := z_in2 174 rfl rfl
theorem zw_fl_2_175 : Cond.fieldLink RX10 22 "DrinkingRoofs" "thought" "LDrinkingRoofs$Roofs;" ∈ z_om := z_in2 175 rfl rfl
theorem zw_fl_2_176 : Cond.fieldLink RX10 29 "DrinkingRoofs" "tape" "LDrinkingRoofs$Tape;" ∈ z_om := z_in2 176 rfl rfl
theorem zw_fl_2_177 : Cond.fieldLink RX10 36 "DrinkingRoofs" "reader" "LDrinkingRoofs$Reader;" ∈ z_om := z_in2 177 rfl rfl
theorem zw_fl_2_178 : Cond.fieldLink RX10 43 "DrinkingRoofs" "blame" "LDrinkingRoofs$Blame;" ∈ z_om := z_in2 178 rfl rfl
theorem zw_fl_2_179 : Cond.fieldLink RX10 50 "DrinkingRoofs" "cleaning" "LDrinkingRoofs$Cleaning;" ∈ z_om := z_in2 179 rfl rfl
theorem zw_fl_2_180 : Cond.fieldLink RX10 57 "DrinkingRoofs" "stains" "LDrinkingRoofs$Stains;" ∈ z_om := z_in2 180 rfl rfl
theorem zw_fl_2_181 : Cond.fieldLink RX10 61 "DrinkingRoofs" "imageTaken" "Z" ∈ z_om := z_in2 181 rfl rfl
theorem zw_fl_2_29 : Cond.fieldLink RX9 15 "DrinkingRoofs$Tape" "length" "I" ∈ z_om := z_in2 29 rfl rfl
theorem zw_fl_2_30 : Cond.fieldLink RX10 139 "DrinkingRoofs$Tape" "length" "I" ∈ z_om := z_in2 30 rfl rfl
theorem zw_fl_2_31 : Cond.fieldLink RX9 9 "DrinkingRoofs$Tape" "bytes" "[B" ∈ z_om := z_in2 31 rfl rfl
theorem zw_fl_2_32 : Cond.fieldLink RX9 19 "DrinkingRoofs$Tape" "at" "I" ∈ z_om := z_in2 32 rfl rfl
theorem zw_fl_2_33 : Cond.fieldLink RX4 54 "DrinkingRoofs$Tape" "kind" "I" ∈ z_om := z_in2 33 rfl rfl
theorem zw_fl_2_34 : Cond.fieldLink RX9 25 "DrinkingRoofs$Tape" "kind" "I" ∈ z_om := z_in2 34 rfl rfl
theorem zw_fl_2_35 : Cond.fieldLink RX4 50 "DrinkingRoofs$Tape" "value" "I" ∈ z_om := z_in2 35 rfl rfl
theorem zw_fl_2_36 : Cond.fieldLink RX9 61 "DrinkingRoofs$Tape" "value" "I" ∈ z_om := z_in2 36 rfl rfl
theorem zw_fl_2_37 : Cond.fieldLink RX4 61 "DrinkingRoofs$Tape" "place" "I" ∈ z_om := z_in2 37 rfl rfl
theorem zw_fl_2_38 : Cond.fieldLink RX9 22 "DrinkingRoofs$Tape" "place" "I" ∈ z_om := z_in2 38 rfl rfl
theorem zw_fl_2_61 : Cond.fieldLink RX4 34 "DrinkingRoofs$Reader" "fault" "I" ∈ z_om := z_in2 61 rfl rfl
theorem zw_fl_2_62 : Cond.fieldLink RX10 146 "DrinkingRoofs$Reader" "fault" "I" ∈ z_om := z_in2 62 rfl rfl
theorem zw_fl_2_63 : Cond.fieldLink RX4 9 "DrinkingRoofs$Reader" "faultPlace" "I" ∈ z_om := z_in2 63 rfl rfl
theorem zw_fl_2_64 : Cond.fieldLink RX10 163 "DrinkingRoofs$Reader" "faultPlace" "I" ∈ z_om := z_in2 64 rfl rfl
theorem zw_fl_2_65 : Cond.fieldLink RX4 37 "DrinkingRoofs$Reader" "state" "I" ∈ z_om := z_in2 65 rfl rfl
theorem zw_fl_2_66 : Cond.fieldLink RX4 76 "DrinkingRoofs$Reader" "side" "I" ∈ z_om := z_in2 66 rfl rfl
theorem zw_fl_2_67 : Cond.fieldLink RX4 92 "DrinkingRoofs$Reader" "open" "I" ∈ z_om := z_in2 67 rfl rfl
theorem zw_fl_2_68 : Cond.fieldLink RX4 95 "DrinkingRoofs$Reader" "brackets" "I" ∈ z_om := z_in2 68 rfl rfl
theorem zw_fl_2_69 : Cond.fieldLink RX4 40 "DrinkingRoofs$Reader" "waits" "I" ∈ z_om := z_in2 69 rfl rfl
theorem zw_fl_2_70 : Cond.fieldLink RX4 15 "DrinkingRoofs$Reader" "waiting" "[I" ∈ z_om := z_in2 70 rfl rfl
theorem zw_fl_2_71 : Cond.fieldLink RX4 43 "DrinkingRoofs$Reader" "ended" "Z" ∈ z_om := z_in2 71 rfl rfl
theorem zw_fl_2_72 : Cond.fieldLink RX4 53 "DrinkingRoofs$Reader" "value" "I" ∈ z_om := z_in2 72 rfl rfl
theorem zw_fl_2_73 : Cond.fieldLink RX4 22 "DrinkingRoofs$Reader" "law" "LDrinkingRoofs$Law;" ∈ z_om := z_in2 73 rfl rfl
theorem zw_fl_2_74 : Cond.fieldLink RX10 153 "DrinkingRoofs$Reader" "law" "LDrinkingRoofs$Law;" ∈ z_om := z_in2 74 rfl rfl
theorem zw_fl_3_73 : Cond.fieldLink RJ0 38 "java/lang/String" "COMPACT_STRINGS" "Z" ∈ z_om := z_in3 73 rfl rfl
theorem zw_fl_5_100 : Cond.fieldLink RX11 62 "DrinkingRoofsModel" "above" "[I" ∈ z_om := z_in5 100 rfl rfl
theorem zw_fl_5_101 : Cond.fieldLink RX11 238 "DrinkingRoofsModel" "many" "I" ∈ z_om := z_in5 101 rfl rfl
theorem zw_fl_5_102 : Cond.fieldLink RX11 250 "DrinkingRoofsModel" "drained" "I" ∈ z_om := z_in5 102 rfl rfl
theorem zw_fl_5_103 : Cond.fieldLink RX11 253 "DrinkingRoofsModel" "fell" "I" ∈ z_om := z_in5 103 rfl rfl
theorem zw_fl_5_104 : Cond.fieldLink RX11 266 "DrinkingRoofsModel" "isWritten" "Z" ∈ z_om := z_in5 104 rfl rfl
theorem zw_fl_5_105 : Cond.fieldLink RX11 65 "DrinkingRoofsModel" "overWith" "[J" ∈ z_om := z_in5 105 rfl rfl
theorem zw_fl_5_106 : Cond.fieldLink RX11 69 "DrinkingRoofsModel" "rowOf" "[I" ∈ z_om := z_in5 106 rfl rfl
theorem zw_fl_5_107 : Cond.fieldLink RX11 72 "DrinkingRoofsModel" "triedSet" "[I" ∈ z_om := z_in5 107 rfl rfl
theorem zw_fl_5_108 : Cond.fieldLink RX11 75 "DrinkingRoofsModel" "bestSet" "[I" ∈ z_om := z_in5 108 rfl rfl
theorem zw_fl_5_109 : Cond.fieldLink RX11 80 "DrinkingRoofsModel" "clogAt" "[[I" ∈ z_om := z_in5 109 rfl rfl
theorem zw_fl_5_110 : Cond.fieldLink RX11 83 "DrinkingRoofsModel" "heldAt" "[[I" ∈ z_om := z_in5 110 rfl rfl
theorem zw_fl_5_111 : Cond.fieldLink RX11 86 "DrinkingRoofsModel" "snowAt" "[[I" ∈ z_om := z_in5 111 rfl rfl
theorem zw_fl_5_112 : Cond.fieldLink RX11 302 "DrinkingRoofsModel" "rowMany" "I" ∈ z_om := z_in5 112 rfl rfl
theorem zw_fl_5_113 : Cond.fieldLink RX11 299 "DrinkingRoofsModel" "leastCleaned" "I" ∈ z_om := z_in5 113 rfl rfl
theorem zw_fl_5_114 : Cond.fieldLink RX11 89 "DrinkingRoofsModel" "must" "[I" ∈ z_om := z_in5 114 rfl rfl
theorem zw_fl_5_71 : Cond.fieldLink RX11 7 "DrinkingRoofsModel" "w" "[I" ∈ z_om := z_in5 71 rfl rfl
theorem zw_fl_5_72 : Cond.fieldLink RX11 13 "DrinkingRoofsModel" "kept" "[I" ∈ z_om := z_in5 72 rfl rfl
theorem zw_fl_5_73 : Cond.fieldLink RX11 312 "DrinkingRoofsModel" "hasImage" "Z" ∈ z_om := z_in5 73 rfl rfl
theorem zw_fl_5_74 : Cond.fieldLink RX11 16 "DrinkingRoofsModel" "freshLine" "[I" ∈ z_om := z_in5 74 rfl rfl
theorem zw_fl_5_75 : Cond.fieldLink RX11 19 "DrinkingRoofsModel" "freshStep" "[I" ∈ z_om := z_in5 75 rfl rfl
theorem zw_fl_5_76 : Cond.fieldLink RX11 22 "DrinkingRoofsModel" "tape" "[I" ∈ z_om := z_in5 76 rfl rfl
theorem zw_fl_5_77 : Cond.fieldLink RX11 25 "DrinkingRoofsModel" "pile" "[I" ∈ z_om := z_in5 77 rfl rfl
theorem zw_fl_5_78 : Cond.fieldLink RX11 28 "DrinkingRoofsModel" "facts" "[I" ∈ z_om := z_in5 78 rfl rfl
theorem zw_fl_5_79 : Cond.fieldLink RX11 225 "DrinkingRoofsModel" "lines" "I" ∈ z_om := z_in5 79 rfl rfl
theorem zw_fl_5_80 : Cond.fieldLink RX11 190 "DrinkingRoofsModel" "steps" "I" ∈ z_om := z_in5 80 rfl rfl
theorem zw_fl_5_81 : Cond.fieldLink RX11 112 "DrinkingRoofsModel" "taped" "I" ∈ z_om := z_in5 81 rfl rfl
theorem zw_fl_5_82 : Cond.fieldLink RX11 115 "DrinkingRoofsModel" "at" "I" ∈ z_om := z_in5 82 rfl rfl
theorem zw_fl_5_83 : Cond.fieldLink RX11 163 "DrinkingRoofsModel" "token" "I" ∈ z_om := z_in5 83 rfl rfl
theorem zw_fl_5_84 : Cond.fieldLink RX11 118 "DrinkingRoofsModel" "tokenAt" "I" ∈ z_om := z_in5 84 rfl rfl
theorem zw_fl_5_85 : Cond.fieldLink RX11 175 "DrinkingRoofsModel" "value" "I" ∈ z_om := z_in5 85 rfl rfl
theorem zw_fl_5_86 : Cond.fieldLink RX11 178 "DrinkingRoofsModel" "wrong" "I" ∈ z_om := z_in5 86 rfl rfl
theorem zw_fl_5_87 : Cond.fieldLink RX11 181 "DrinkingRoofsModel" "wrongAt" "I" ∈ z_om := z_in5 87 rfl rfl
theorem zw_fl_5_88 : Cond.fieldLink RX11 231 "DrinkingRoofsModel" "faultKind" "I" ∈ z_om := z_in5 88 rfl rfl
theorem zw_fl_5_89 : Cond.fieldLink RX11 193 "DrinkingRoofsModel" "depth" "I" ∈ z_om := z_in5 89 rfl rfl
theorem zw_fl_5_90 : Cond.fieldLink RX11 31 "DrinkingRoofsModel" "faultPlace" "I" ∈ z_om := z_in5 90 rfl rfl
theorem zw_fl_5_91 : Cond.fieldLink RX11 35 "DrinkingRoofsModel" "area" "[I" ∈ z_om := z_in5 91 rfl rfl
theorem zw_fl_5_92 : Cond.fieldLink RX11 38 "DrinkingRoofsModel" "carries" "[I" ∈ z_om := z_in5 92 rfl rfl
theorem zw_fl_5_93 : Cond.fieldLink RX11 41 "DrinkingRoofsModel" "next" "[I" ∈ z_om := z_in5 93 rfl rfl
theorem zw_fl_5_94 : Cond.fieldLink RX11 44 "DrinkingRoofsModel" "clog" "[I" ∈ z_om := z_in5 94 rfl rfl
theorem zw_fl_5_95 : Cond.fieldLink RX11 47 "DrinkingRoofsModel" "barrel" "[I" ∈ z_om := z_in5 95 rfl rfl
theorem zw_fl_5_96 : Cond.fieldLink RX11 50 "DrinkingRoofsModel" "lets" "[I" ∈ z_om := z_in5 96 rfl rfl
theorem zw_fl_5_97 : Cond.fieldLink RX11 53 "DrinkingRoofsModel" "held" "[I" ∈ z_om := z_in5 97 rfl rfl
theorem zw_fl_5_98 : Cond.fieldLink RX11 56 "DrinkingRoofsModel" "snow" "[I" ∈ z_om := z_in5 98 rfl rfl
theorem zw_fl_5_99 : Cond.fieldLink RX11 59 "DrinkingRoofsModel" "over" "[I" ∈ z_om := z_in5 99 rfl rfl
theorem zw_fl_6_214 : Cond.fieldLink RJ0 9 "java/lang/String" "value" "[B" ∈ z_om := z_in6 214 rfl rfl
theorem zw_fl_6_215 : Cond.fieldLink RJ0 15 "java/lang/String" "coder" "B" ∈ z_om := z_in6 215 rfl rfl
theorem zw_im_2_212 : Cond.instanceMethod yX2_build ∈ z_om := z_in2 212 rfl rfl
theorem zw_im_2_221 : Cond.instanceMethod yX10_isHouse ∈ z_om := z_in2 221 rfl rfl
theorem zw_im_2_229 : Cond.instanceMethod yX10_tellSize ∈ z_om := z_in2 229 rfl rfl
theorem zw_im_2_234 : Cond.instanceMethod yX10_tellThaw ∈ z_om := z_in2 234 rfl rfl
theorem zw_im_2_237 : Cond.instanceMethod yX2_change ∈ z_om := z_in2 237 rfl rfl
theorem zw_im_3_122 : Cond.instanceMethod yX9_scanNumber ∈ z_om := z_in3 122 rfl rfl
theorem zw_im_3_126 : Cond.instanceMethod yJ0_indexOf_0f7a4 ∈ z_om := z_in3 126 rfl rfl
theorem zw_im_3_130 : Cond.instanceMethod yJ0_indexOf_7cf53 ∈ z_om := z_in3 130 rfl rfl
theorem zw_im_3_18 : Cond.instanceMethod yX10_isStorm ∈ z_om := z_in3 18 rfl rfl
theorem zw_im_3_186 : Cond.instanceMethod yX4_take ∈ z_om := z_in3 186 rfl rfl
theorem zw_im_3_190 : Cond.instanceMethod yX4_takeLine ∈ z_om := z_in3 190 rfl rfl
theorem zw_im_3_194 : Cond.instanceMethod yX4_takeUnit ∈ z_om := z_in3 194 rfl rfl
theorem zw_im_3_197 : Cond.instanceMethod yX3_add ∈ z_om := z_in3 197 rfl rfl
theorem zw_im_3_203 : Cond.instanceMethod yX4_takePart ∈ z_om := z_in3 203 rfl rfl
theorem zw_im_3_207 : Cond.instanceMethod yX4_takeCase ∈ z_om := z_in3 207 rfl rfl
theorem zw_im_3_211 : Cond.instanceMethod yX4_await ∈ z_om := z_in3 211 rfl rfl
theorem zw_im_3_215 : Cond.instanceMethod yX4_takeBehindCase ∈ z_om := z_in3 215 rfl rfl
theorem zw_im_3_219 : Cond.instanceMethod yX4_join ∈ z_om := z_in3 219 rfl rfl
theorem zw_im_3_225 : Cond.instanceMethod yX4_writeDownTo ∈ z_om := z_in3 225 rfl rfl
theorem zw_im_3_229 : Cond.instanceMethod yX4_closeBracket ∈ z_om := z_in3 229 rfl rfl
theorem zw_im_3_233 : Cond.instanceMethod yX4_closeLine ∈ z_om := z_in3 233 rfl rfl
theorem zw_im_3_236 : Cond.instanceMethod yX3_closeLine ∈ z_om := z_in3 236 rfl rfl
theorem zw_im_3_25 : Cond.instanceMethod yX9_hasRoom ∈ z_om := z_in3 25 rfl rfl
theorem zw_im_3_29 : Cond.instanceMethod yX9_add ∈ z_om := z_in3 29 rfl rfl
theorem zw_im_3_41 : Cond.instanceMethod yX4_read ∈ z_om := z_in3 41 rfl rfl
theorem zw_im_3_45 : Cond.instanceMethod yX3_clear ∈ z_om := z_in3 45 rfl rfl
theorem zw_im_3_49 : Cond.instanceMethod yX9_rewind ∈ z_om := z_in3 49 rfl rfl
theorem zw_im_3_53 : Cond.instanceMethod yX9_scan ∈ z_om := z_in3 53 rfl rfl
theorem zw_im_3_62 : Cond.instanceMethod yX9_scanWord ∈ z_om := z_in3 62 rfl rfl
theorem zw_im_3_66 : Cond.instanceMethod yJ0_length_8abf5 ∈ z_om := z_in3 66 rfl rfl
theorem zw_im_3_70 : Cond.instanceMethod yJ0_coder_7d493 ∈ z_om := z_in3 70 rfl rfl
theorem zw_im_3_77 : Cond.instanceMethod yX9_isWord ∈ z_om := z_in3 77 rfl rfl
theorem zw_im_3_80 : Cond.instanceMethod yJ0_charAt_5068e ∈ z_om := z_in3 80 rfl rfl
theorem zw_im_3_84 : Cond.instanceMethod yJ0_isLatin1_aae02 ∈ z_om := z_in3 84 rfl rfl
theorem zw_im_3_9 : Cond.instanceMethod yX7_brew ∈ z_om := z_in3 9 rfl rfl
theorem zw_im_4_1 : Cond.instanceMethod yX4_takeBehindUnit ∈ z_om := z_in4 1 rfl rfl
theorem zw_im_4_100 : Cond.instanceMethod yX2_told ∈ z_om := z_in4 100 rfl rfl
theorem zw_im_4_110 : Cond.instanceMethod yX2_toldOf ∈ z_om := z_in4 110 rfl rfl
theorem zw_im_4_119 : Cond.instanceMethod yX0_choose ∈ z_om := z_in4 119 rfl rfl
theorem zw_im_4_123 : Cond.instanceMethod yX0_overWith ∈ z_om := z_in4 123 rfl rfl
theorem zw_im_4_127 : Cond.instanceMethod yX5_imagine ∈ z_om := z_in4 127 rfl rfl
theorem zw_im_4_131 : Cond.instanceMethod yX2_imagine ∈ z_om := z_in4 131 rfl rfl
theorem zw_im_4_136 : Cond.instanceMethod yX0_weigh ∈ z_om := z_in4 136 rfl rfl
theorem zw_im_4_142 : Cond.instanceMethod yX0_addOrders ∈ z_om := z_in4 142 rfl rfl
theorem zw_im_4_167 : Cond.instanceMethod yX10_planStorms ∈ z_om := z_in4 167 rfl rfl
theorem zw_im_4_171 : Cond.instanceMethod yX10_planStorm ∈ z_om := z_in4 171 rfl rfl
theorem zw_im_4_174 : Cond.instanceMethod yX1_rain ∈ z_om := z_in4 174 rfl rfl
theorem zw_im_4_179 : Cond.instanceMethod yX5_widen ∈ z_om := z_in4 179 rfl rfl
theorem zw_im_4_185 : Cond.instanceMethod yX1_plan ∈ z_om := z_in4 185 rfl rfl
theorem zw_im_4_190 : Cond.instanceMethod yX1_bestTimes ∈ z_om := z_in4 190 rfl rfl
theorem zw_im_4_195 : Cond.instanceMethod yX1_staysDry ∈ z_om := z_in4 195 rfl rfl
theorem zw_im_4_199 : Cond.instanceMethod yX1_isAhead ∈ z_om := z_in4 199 rfl rfl
theorem zw_im_4_210 : Cond.instanceMethod yX5_strip ∈ z_om := z_in4 210 rfl rfl
theorem zw_im_4_216 : Cond.instanceMethod yX10_widerPrice ∈ z_om := z_in4 216 rfl rfl
theorem zw_im_4_224 : Cond.instanceMethod yX6_explain ∈ z_om := z_in4 224 rfl rfl
theorem zw_im_4_23 : Cond.instanceMethod yX8_weather ∈ z_om := z_in4 23 rfl rfl
theorem zw_im_4_233 : Cond.instanceMethod yX6_note ∈ z_om := z_in4 233 rfl rfl
theorem zw_im_4_27 : Cond.instanceMethod yX5_pour ∈ z_om := z_in4 27 rfl rfl
theorem zw_im_4_31 : Cond.instanceMethod yX5_pass ∈ z_om := z_in4 31 rfl rfl
theorem zw_im_4_35 : Cond.instanceMethod yX2_drink ∈ z_om := z_in4 35 rfl rfl
theorem zw_im_4_39 : Cond.instanceMethod yX2_carriesAt ∈ z_om := z_in4 39 rfl rfl
theorem zw_im_4_4 : Cond.instanceMethod yX3_closeSum ∈ z_om := z_in4 4 rfl rfl
theorem zw_im_4_44 : Cond.instanceMethod yX2_land ∈ z_om := z_in4 44 rfl rfl
theorem zw_im_4_49 : Cond.instanceMethod yX2_passBarrel ∈ z_om := z_in4 49 rfl rfl
theorem zw_im_4_53 : Cond.instanceMethod yX7_fallInAll ∈ z_om := z_in4 53 rfl rfl
theorem zw_im_4_57 : Cond.instanceMethod yX2_carriedInAll ∈ z_om := z_in4 57 rfl rfl
theorem zw_im_4_62 : Cond.instanceMethod yX8_store ∈ z_om := z_in4 62 rfl rfl
theorem zw_im_4_68 : Cond.instanceMethod yX8_settle ∈ z_om := z_in4 68 rfl rfl
theorem zw_im_4_72 : Cond.instanceMethod yX8_pay ∈ z_om := z_in4 72 rfl rfl
theorem zw_im_4_78 : Cond.instanceMethod yX3_asks ∈ z_om := z_in4 78 rfl rfl
theorem zw_im_4_8 : Cond.instanceMethod yX3_copy ∈ z_om := z_in4 8 rfl rfl
theorem zw_im_4_83 : Cond.instanceMethod yX3_worth ∈ z_om := z_in4 83 rfl rfl
theorem zw_im_4_92 : Cond.instanceMethod yX2_closeStorm ∈ z_om := z_in4 92 rfl rfl
theorem zw_im_5_1 : Cond.instanceMethod yX6_told ∈ z_om := z_in5 1 rfl rfl
theorem zw_im_5_10 : Cond.instanceMethod yX10_overAsNow ∈ z_om := z_in5 10 rfl rfl
theorem zw_im_5_14 : Cond.instanceMethod yX10_overIfDrained ∈ z_om := z_in5 14 rfl rfl
theorem zw_im_5_21 : Cond.instanceMethod yX5_imagineAdded ∈ z_om := z_in5 21 rfl rfl
theorem zw_im_5_214 : Cond.instanceMethod yX11_gives ∈ z_om := z_in5 214 rfl rfl
theorem zw_im_5_222 : Cond.instanceMethod yX11_isHouse ∈ z_om := z_in5 222 rfl rfl
theorem zw_im_5_238 : Cond.instanceMethod yX11_isStorm ∈ z_om := z_in5 238 rfl rfl
theorem zw_im_5_31 : Cond.instanceMethod yX8_copy ∈ z_om := z_in5 31 rfl rfl
theorem zw_im_5_35 : Cond.instanceMethod yX5_copy ∈ z_om := z_in5 35 rfl rfl
theorem zw_im_5_39 : Cond.instanceMethod yX2_copy ∈ z_om := z_in5 39 rfl rfl
theorem zw_im_5_45 : Cond.instanceMethod yX7_copy ∈ z_om := z_in5 45 rfl rfl
theorem zw_im_5_54 : Cond.instanceMethod yX7_told ∈ z_om := z_in5 54 rfl rfl
theorem zw_im_5_59 : Cond.instanceMethod yX8_told ∈ z_om := z_in5 59 rfl rfl
theorem zw_im_6_111 : Cond.instanceMethod yX11_laysHouses ∈ z_om := z_in6 111 rfl rfl
theorem zw_im_6_115 : Cond.instanceMethod yX11_own ∈ z_om := z_in6 115 rfl rfl
theorem zw_im_6_119 : Cond.instanceMethod yX11_runs ∈ z_om := z_in6 119 rfl rfl
theorem zw_im_6_123 : Cond.instanceMethod yX11_fallOf ∈ z_om := z_in6 123 rfl rfl
theorem zw_im_6_127 : Cond.instanceMethod yX11_isSnow ∈ z_om := z_in6 127 rfl rfl
theorem zw_im_6_134 : Cond.instanceMethod yX11_gets ∈ z_om := z_in6 134 rfl rfl
theorem zw_im_6_141 : Cond.instanceMethod yX11_writes ∈ z_om := z_in6 141 rfl rfl
theorem zw_im_6_145 : Cond.instanceMethod yX11_pays ∈ z_om := z_in6 145 rfl rfl
theorem zw_im_6_149 : Cond.instanceMethod yX11_comesTo ∈ z_om := z_in6 149 rfl rfl
theorem zw_im_6_173 : Cond.instanceMethod yX11_overAt ∈ z_om := z_in6 173 rfl rfl
theorem zw_im_6_18 : Cond.instanceMethod yX11_next0 ∈ z_om := z_in6 18 rfl rfl
theorem zw_im_6_184 : Cond.instanceMethod yX11_goesOn ∈ z_om := z_in6 184 rfl rfl
theorem zw_im_6_2 : Cond.instanceMethod yX11_hoursOf ∈ z_om := z_in6 2 rfl rfl
theorem zw_im_6_204 : Cond.instanceMethod yX11_movesDown ∈ z_om := z_in6 204 rfl rfl
theorem zw_im_6_22 : Cond.instanceMethod yX11_see ∈ z_om := z_in6 22 rfl rfl
theorem zw_im_6_29 : Cond.instanceMethod yX11_word ∈ z_om := z_in6 29 rfl rfl
theorem zw_im_6_34 : Cond.instanceMethod yX11_is ∈ z_om := z_in6 34 rfl rfl
theorem zw_im_6_44 : Cond.instanceMethod yX11_nameWord ∈ z_om := z_in6 44 rfl rfl
theorem zw_im_6_59 : Cond.instanceMethod yX11_aLine ∈ z_om := z_in6 59 rfl rfl
theorem zw_im_6_63 : Cond.instanceMethod yX11_bad ∈ z_om := z_in6 63 rfl rfl
theorem zw_im_6_67 : Cond.instanceMethod yX11_sumUp ∈ z_om := z_in6 67 rfl rfl
theorem zw_im_6_71 : Cond.instanceMethod yX11_product ∈ z_om := z_in6 71 rfl rfl
theorem zw_im_6_75 : Cond.instanceMethod yX11_unit ∈ z_om := z_in6 75 rfl rfl
theorem zw_im_6_79 : Cond.instanceMethod yX11_lay ∈ z_om := z_in6 79 rfl rfl
theorem zw_im_6_83 : Cond.instanceMethod yX11_any ∈ z_om := z_in6 83 rfl rfl
theorem zw_im_6_87 : Cond.instanceMethod yX11_every ∈ z_om := z_in6 87 rfl rfl
theorem zw_im_6_91 : Cond.instanceMethod yX11_oneTest ∈ z_om := z_in6 91 rfl rfl
theorem zw_im_6_95 : Cond.instanceMethod yX11_opens ∈ z_om := z_in6 95 rfl rfl
theorem zw_im_6_99 : Cond.instanceMethod yX11_need ∈ z_om := z_in6 99 rfl rfl
theorem zw_in_1_1 : Cond.initialized RX10 ∈ z_om := z_in1 1 rfl rfl
theorem zw_in_1_10 : Cond.initialized RX1 ∈ z_om := z_in1 10 rfl rfl
theorem zw_in_1_11 : Cond.initialized RX6 ∈ z_om := z_in1 11 rfl rfl
theorem zw_in_1_12 : Cond.initialized RX11 ∈ z_om := z_in1 12 rfl rfl
theorem zw_in_1_13 : Cond.initialized RJ0 ∈ z_om := z_in1 13 rfl rfl
theorem zw_in_1_14 : Cond.initialized RJ1 ∈ z_om := z_in1 14 rfl rfl
theorem zw_in_1_17 : Cond.initialized RJ9 ∈ z_om := z_in1 17 rfl rfl
theorem zw_in_1_19 : Cond.initialized RJ10 ∈ z_om := z_in1 19 rfl rfl
theorem zw_in_1_2 : Cond.initialized RX8 ∈ z_om := z_in1 2 rfl rfl
theorem zw_in_1_20 : Cond.initialized RJ6 ∈ z_om := z_in1 20 rfl rfl
theorem zw_in_1_3 : Cond.initialized RX5 ∈ z_om := z_in1 3 rfl rfl
theorem zw_in_1_4 : Cond.initialized RX2 ∈ z_om := z_in1 4 rfl rfl
theorem zw_in_1_5 : Cond.initialized RX3 ∈ z_om := z_in1 5 rfl rfl
theorem zw_in_1_6 : Cond.initialized RX7 ∈ z_om := z_in1 6 rfl rfl
theorem zw_in_1_7 : Cond.initialized RX9 ∈ z_om := z_in1 7 rfl rfl
theorem zw_in_1_8 : Cond.initialized RX4 ∈ z_om := z_in1 8 rfl rfl
theorem zw_in_1_9 : Cond.initialized RX0 ∈ z_om := z_in1 9 rfl rfl
theorem zw_ml_2_205 : Cond.methodLink RX10 72 yX10_canStand ∈ z_om := z_in2 205 rfl rfl
theorem zw_ml_2_208 : Cond.methodLink RX10 76 yX10_within ∈ z_om := z_in2 208 rfl rfl
theorem zw_ml_2_211 : Cond.methodLink RX10 84 yX2_build ∈ z_om := z_in2 211 rfl rfl
theorem zw_ml_2_219 : Cond.methodLink RX10 90 yX10_isHouse ∈ z_om := z_in2 219 rfl rfl
theorem zw_ml_2_227 : Cond.methodLink RX10 97 yX10_tellSize ∈ z_om := z_in2 227 rfl rfl
theorem zw_ml_2_232 : Cond.methodLink RX10 100 yX10_tellThaw ∈ z_om := z_in2 232 rfl rfl
theorem zw_ml_2_236 : Cond.methodLink RX10 103 yX2_change ∈ z_om := z_in2 236 rfl rfl
theorem zw_ml_3_0 : Cond.methodLink RX2 77 yX2_mostOf ∈ z_om := z_in3 0 rfl rfl
theorem zw_ml_3_117 : Cond.methodLink RX9 35 yX9_isDigit ∈ z_om := z_in3 117 rfl rfl
theorem zw_ml_3_120 : Cond.methodLink RX9 38 yX9_scanNumber ∈ z_om := z_in3 120 rfl rfl
theorem zw_ml_3_125 : Cond.methodLink RX9 43 yJ0_indexOf_0f7a4 ∈ z_om := z_in3 125 rfl rfl
theorem zw_ml_3_129 : Cond.methodLink RJ0 633 yJ0_indexOf_7cf53 ∈ z_om := z_in3 129 rfl rfl
theorem zw_ml_3_133 : Cond.methodLink RJ0 505 yJ0_length_8abf5 ∈ z_om := z_in3 133 rfl rfl
theorem zw_ml_3_134 : Cond.methodLink RJ0 637 yJ1_indexOf_4cfef ∈ z_om := z_in3 134 rfl rfl
theorem zw_ml_3_137 : Cond.methodLink RJ1 88 yJ1_canEncode_9a6ad ∈ z_om := z_in3 137 rfl rfl
theorem zw_ml_3_140 : Cond.methodLink RJ1 92 Lib.Math.max.name ∈ z_om := z_in3 140 rfl rfl
theorem zw_ml_3_143 : Cond.methodLink RJ1 38 Lib.Math.min.name ∈ z_om := z_in3 143 rfl rfl
theorem zw_ml_3_146 : Cond.methodLink RJ1 95 yJ1_indexOfChar_4cfef ∈ z_om := z_in3 146 rfl rfl
theorem zw_ml_3_16 : Cond.methodLink RX10 119 yX10_isStorm ∈ z_om := z_in3 16 rfl rfl
theorem zw_ml_3_184 : Cond.methodLink RX4 57 yX4_take ∈ z_om := z_in3 184 rfl rfl
theorem zw_ml_3_188 : Cond.methodLink RX4 64 yX4_takeLine ∈ z_om := z_in3 188 rfl rfl
theorem zw_ml_3_192 : Cond.methodLink RX4 67 yX4_takeUnit ∈ z_om := z_in3 192 rfl rfl
theorem zw_ml_3_196 : Cond.methodLink RX4 98 yX3_add ∈ z_om := z_in3 196 rfl rfl
theorem zw_ml_3_201 : Cond.methodLink RX4 70 yX4_takePart ∈ z_om := z_in3 201 rfl rfl
theorem zw_ml_3_205 : Cond.methodLink RX4 73 yX4_takeCase ∈ z_om := z_in3 205 rfl rfl
theorem zw_ml_3_209 : Cond.methodLink RX4 101 yX4_await ∈ z_om := z_in3 209 rfl rfl
theorem zw_ml_3_213 : Cond.methodLink RX4 83 yX4_takeBehindCase ∈ z_om := z_in3 213 rfl rfl
theorem zw_ml_3_217 : Cond.methodLink RX4 104 yX4_join ∈ z_om := z_in3 217 rfl rfl
theorem zw_ml_3_223 : Cond.methodLink RX4 107 yX4_writeDownTo ∈ z_om := z_in3 223 rfl rfl
theorem zw_ml_3_227 : Cond.methodLink RX4 116 yX4_closeBracket ∈ z_om := z_in3 227 rfl rfl
theorem zw_ml_3_231 : Cond.methodLink RX4 113 yX4_closeLine ∈ z_om := z_in3 231 rfl rfl
theorem zw_ml_3_235 : Cond.methodLink RX4 119 yX3_closeLine ∈ z_om := z_in3 235 rfl rfl
theorem zw_ml_3_239 : Cond.methodLink RX4 86 yX4_takeBehindUnit ∈ z_om := z_in3 239 rfl rfl
theorem zw_ml_3_24 : Cond.methodLink RX10 133 yX9_hasRoom ∈ z_om := z_in3 24 rfl rfl
theorem zw_ml_3_28 : Cond.methodLink RX10 136 yX9_add ∈ z_om := z_in3 28 rfl rfl
theorem zw_ml_3_40 : Cond.methodLink RX10 142 yX4_read ∈ z_om := z_in3 40 rfl rfl
theorem zw_ml_3_44 : Cond.methodLink RX4 26 yX3_clear ∈ z_om := z_in3 44 rfl rfl
theorem zw_ml_3_48 : Cond.methodLink RX4 29 yX9_rewind ∈ z_om := z_in3 48 rfl rfl
theorem zw_ml_3_52 : Cond.methodLink RX4 47 yX9_scan ∈ z_om := z_in3 52 rfl rfl
theorem zw_ml_3_56 : Cond.methodLink RX9 28 yX9_isLetter ∈ z_om := z_in3 56 rfl rfl
theorem zw_ml_3_60 : Cond.methodLink RX9 32 yX9_scanWord ∈ z_om := z_in3 60 rfl rfl
theorem zw_ml_3_65 : Cond.methodLink RX9 51 yJ0_length_8abf5 ∈ z_om := z_in3 65 rfl rfl
theorem zw_ml_3_69 : Cond.methodLink RJ0 335 yJ0_coder_7d493 ∈ z_om := z_in3 69 rfl rfl
theorem zw_ml_3_75 : Cond.methodLink RX9 54 yX9_isWord ∈ z_om := z_in3 75 rfl rfl
theorem zw_ml_3_79 : Cond.methodLink RX9 57 yJ0_charAt_5068e ∈ z_om := z_in3 79 rfl rfl
theorem zw_ml_3_8 : Cond.methodLink RX10 113 yX7_brew ∈ z_om := z_in3 8 rfl rfl
theorem zw_ml_3_83 : Cond.methodLink RJ0 492 yJ0_isLatin1_aae02 ∈ z_om := z_in3 83 rfl rfl
theorem zw_ml_3_87 : Cond.methodLink RJ0 495 yJ1_charAt_3b067 ∈ z_om := z_in3 87 rfl rfl
theorem zw_ml_3_90 : Cond.methodLink RJ1 9 yJ0_checkIndex_df160 ∈ z_om := z_in3 90 rfl rfl
theorem zw_ml_4_109 : Cond.methodLink RX10 181 yX2_toldOf ∈ z_om := z_in4 109 rfl rfl
theorem zw_ml_4_11 : Cond.methodLink RX3 31 arraycopyName ∈ z_om := z_in4 11 rfl rfl
theorem zw_ml_4_118 : Cond.methodLink RX10 187 yX0_choose ∈ z_om := z_in4 118 rfl rfl
theorem zw_ml_4_122 : Cond.methodLink RX10 191 yX0_overWith ∈ z_om := z_in4 122 rfl rfl
theorem zw_ml_4_126 : Cond.methodLink RX0 34 yX5_imagine ∈ z_om := z_in4 126 rfl rfl
theorem zw_ml_4_130 : Cond.methodLink RX5 29 yX2_imagine ∈ z_om := z_in4 130 rfl rfl
theorem zw_ml_4_134 : Cond.methodLink RX0 38 yX5_pour ∈ z_om := z_in4 134 rfl rfl
theorem zw_ml_4_135 : Cond.methodLink RX10 195 yX0_weigh ∈ z_om := z_in4 135 rfl rfl
theorem zw_ml_4_139 : Cond.methodLink RX0 52 yX0_overWith ∈ z_om := z_in4 139 rfl rfl
theorem zw_ml_4_140 : Cond.methodLink RX0 56 yX0_addOrders ∈ z_om := z_in4 140 rfl rfl
theorem zw_ml_4_144 : Cond.methodLink RX0 73 yJ6_bitCount_0f7a4 ∈ z_om := z_in4 144 rfl rfl
theorem zw_ml_4_152 : Cond.methodLink RX0 63 Lib.MathLoose.abs_long.x ∈ z_om := z_in4 152 rfl rfl
theorem zw_ml_4_155 : Cond.methodLink RX0 69 yX0_commonPart ∈ z_om := z_in4 155 rfl rfl
theorem zw_ml_4_158 : Cond.methodLink RX0 79 Lib.MathLoose.max_long.x ∈ z_om := z_in4 158 rfl rfl
theorem zw_ml_4_165 : Cond.methodLink RX10 206 yX10_planStorms ∈ z_om := z_in4 165 rfl rfl
theorem zw_ml_4_169 : Cond.methodLink RX10 273 yX10_planStorm ∈ z_om := z_in4 169 rfl rfl
theorem zw_ml_4_173 : Cond.methodLink RX10 211 yX1_rain ∈ z_om := z_in4 173 rfl rfl
theorem zw_ml_4_177 : Cond.methodLink RX1 27 yX5_imagine ∈ z_om := z_in4 177 rfl rfl
theorem zw_ml_4_178 : Cond.methodLink RX1 33 yX5_widen ∈ z_om := z_in4 178 rfl rfl
theorem zw_ml_4_183 : Cond.methodLink RX1 43 yX5_pour ∈ z_om := z_in4 183 rfl rfl
theorem zw_ml_4_184 : Cond.methodLink RX10 215 yX1_plan ∈ z_om := z_in4 184 rfl rfl
theorem zw_ml_4_188 : Cond.methodLink RX1 61 yX1_bestTimes ∈ z_om := z_in4 188 rfl rfl
theorem zw_ml_4_192 : Cond.methodLink RX1 65 yJ6_bitCount_0f7a4 ∈ z_om := z_in4 192 rfl rfl
theorem zw_ml_4_193 : Cond.methodLink RX1 75 yX1_staysDry ∈ z_om := z_in4 193 rfl rfl
theorem zw_ml_4_197 : Cond.methodLink RX1 71 yX1_isAhead ∈ z_om := z_in4 197 rfl rfl
theorem zw_ml_4_201 : Cond.methodLink RX1 82 yX2_carriesAt ∈ z_om := z_in4 201 rfl rfl
theorem zw_ml_4_202 : Cond.methodLink RX1 88 Lib.Math.min.name ∈ z_om := z_in4 202 rfl rfl
theorem zw_ml_4_207 : Cond.methodLink RX10 224 yX5_imagine ∈ z_om := z_in4 207 rfl rfl
theorem zw_ml_4_208 : Cond.methodLink RX10 228 yX5_widen ∈ z_om := z_in4 208 rfl rfl
theorem zw_ml_4_209 : Cond.methodLink RX10 231 yX5_strip ∈ z_om := z_in4 209 rfl rfl
theorem zw_ml_4_213 : Cond.methodLink RX10 234 yX5_pour ∈ z_om := z_in4 213 rfl rfl
theorem zw_ml_4_214 : Cond.methodLink RX10 238 yX10_widerPrice ∈ z_om := z_in4 214 rfl rfl
theorem zw_ml_4_218 : Cond.methodLink RX10 284 Lib.Math.max.name ∈ z_om := z_in4 218 rfl rfl
theorem zw_ml_4_22 : Cond.methodLink RX10 166 yX8_weather ∈ z_om := z_in4 22 rfl rfl
theorem zw_ml_4_223 : Cond.methodLink RX10 245 yX6_explain ∈ z_om := z_in4 223 rfl rfl
theorem zw_ml_4_227 : Cond.methodLink RX6 33 yX5_imagine ∈ z_om := z_in4 227 rfl rfl
theorem zw_ml_4_228 : Cond.methodLink RX6 49 yX6_tryHouse ∈ z_om := z_in4 228 rfl rfl
theorem zw_ml_4_231 : Cond.methodLink RX6 54 yX6_note ∈ z_om := z_in4 231 rfl rfl
theorem zw_ml_4_235 : Cond.methodLink RX6 84 Lib.Math.min.name ∈ z_om := z_in4 235 rfl rfl
theorem zw_ml_4_236 : Cond.methodLink RX6 58 yX6_runsOver ∈ z_om := z_in4 236 rfl rfl
theorem zw_ml_4_239 : Cond.methodLink RX6 77 yX5_pass ∈ z_om := z_in4 239 rfl rfl
theorem zw_ml_4_26 : Cond.methodLink RX8 81 yX5_pour ∈ z_om := z_in4 26 rfl rfl
theorem zw_ml_4_3 : Cond.methodLink RX4 110 yX3_closeSum ∈ z_om := z_in4 3 rfl rfl
theorem zw_ml_4_30 : Cond.methodLink RX5 61 yX5_pass ∈ z_om := z_in4 30 rfl rfl
theorem zw_ml_4_34 : Cond.methodLink RX5 80 yX2_drink ∈ z_om := z_in4 34 rfl rfl
theorem zw_ml_4_38 : Cond.methodLink RX2 86 yX2_carriesAt ∈ z_om := z_in4 38 rfl rfl
theorem zw_ml_4_42 : Cond.methodLink RX2 97 yX2_land ∈ z_om := z_in4 42 rfl rfl
theorem zw_ml_4_46 : Cond.methodLink RX2 104 Lib.Math.min.name ∈ z_om := z_in4 46 rfl rfl
theorem zw_ml_4_47 : Cond.methodLink RX2 101 yX2_passBarrel ∈ z_om := z_in4 47 rfl rfl
theorem zw_ml_4_51 : Cond.methodLink RX2 110 Lib.Math.max.name ∈ z_om := z_in4 51 rfl rfl
theorem zw_ml_4_52 : Cond.methodLink RX8 85 yX7_fallInAll ∈ z_om := z_in4 52 rfl rfl
theorem zw_ml_4_56 : Cond.methodLink RX8 104 yX2_carriedInAll ∈ z_om := z_in4 56 rfl rfl
theorem zw_ml_4_60 : Cond.methodLink RX8 108 yX8_store ∈ z_om := z_in4 60 rfl rfl
theorem zw_ml_4_64 : Cond.methodLink RX8 118 Lib.Math.max.name ∈ z_om := z_in4 64 rfl rfl
theorem zw_ml_4_65 : Cond.methodLink RX8 124 Lib.Math.min.name ∈ z_om := z_in4 65 rfl rfl
theorem zw_ml_4_66 : Cond.methodLink RX8 112 yX8_settle ∈ z_om := z_in4 66 rfl rfl
theorem zw_ml_4_7 : Cond.methodLink RX10 154 yX3_copy ∈ z_om := z_in4 7 rfl rfl
theorem zw_ml_4_70 : Cond.methodLink RX8 130 yX8_pay ∈ z_om := z_in4 70 rfl rfl
theorem zw_ml_4_74 : Cond.methodLink RX8 137 Lib.Math.abs.name ∈ z_om := z_in4 74 rfl rfl
theorem zw_ml_4_77 : Cond.methodLink RX8 143 yX3_asks ∈ z_om := z_in4 77 rfl rfl
theorem zw_ml_4_81 : Cond.methodLink RX3 37 yX3_worth ∈ z_om := z_in4 81 rfl rfl
theorem zw_ml_4_86 : Cond.methodLink RX3 54 yX3_joined ∈ z_om := z_in4 86 rfl rfl
theorem zw_ml_4_89 : Cond.methodLink RX3 41 Lib.Math.min.name ∈ z_om := z_in4 89 rfl rfl
theorem zw_ml_4_90 : Cond.methodLink RX3 47 Lib.Math.max.name ∈ z_om := z_in4 90 rfl rfl
theorem zw_ml_4_91 : Cond.methodLink RX8 115 yX2_closeStorm ∈ z_om := z_in4 91 rfl rfl
theorem zw_ml_4_99 : Cond.methodLink RX10 170 yX2_told ∈ z_om := z_in4 99 rfl rfl
theorem zw_ml_5_0 : Cond.methodLink RX10 249 yX6_told ∈ z_om := z_in5 0 rfl rfl
theorem zw_ml_5_12 : Cond.methodLink RX10 253 yX10_overIfDrained ∈ z_om := z_in5 12 rfl rfl
theorem zw_ml_5_20 : Cond.methodLink RX10 257 yX5_imagineAdded ∈ z_om := z_in5 20 rfl rfl
theorem zw_ml_5_209 : Cond.methodLink RX11 93 yX11_isIn ∈ z_om := z_in5 209 rfl rfl
theorem zw_ml_5_212 : Cond.methodLink RX11 97 yX11_gives ∈ z_om := z_in5 212 rfl rfl
theorem zw_ml_5_220 : Cond.methodLink RX11 101 yX11_isHouse ∈ z_om := z_in5 220 rfl rfl
theorem zw_ml_5_236 : Cond.methodLink RX11 105 yX11_isStorm ∈ z_om := z_in5 236 rfl rfl
theorem zw_ml_5_24 : Cond.methodLink RX5 32 Lib.Math.min.name ∈ z_om := z_in5 24 rfl rfl
theorem zw_ml_5_25 : Cond.methodLink RX5 41 yX2_build ∈ z_om := z_in5 25 rfl rfl
theorem zw_ml_5_30 : Cond.methodLink RX10 261 yX8_copy ∈ z_om := z_in5 30 rfl rfl
theorem zw_ml_5_34 : Cond.methodLink RX8 41 yX5_copy ∈ z_om := z_in5 34 rfl rfl
theorem zw_ml_5_38 : Cond.methodLink RX5 25 yX2_copy ∈ z_om := z_in5 38 rfl rfl
theorem zw_ml_5_42 : Cond.methodLink RX2 67 yX2_imagine ∈ z_om := z_in5 42 rfl rfl
theorem zw_ml_5_43 : Cond.methodLink RX2 71 arraycopyName ∈ z_om := z_in5 43 rfl rfl
theorem zw_ml_5_44 : Cond.methodLink RX8 48 yX7_copy ∈ z_om := z_in5 44 rfl rfl
theorem zw_ml_5_48 : Cond.methodLink RX8 51 yX3_copy ∈ z_om := z_in5 48 rfl rfl
theorem zw_ml_5_53 : Cond.methodLink RX10 264 yX7_told ∈ z_om := z_in5 53 rfl rfl
theorem zw_ml_5_58 : Cond.methodLink RX10 265 yX8_told ∈ z_om := z_in5 58 rfl rfl
theorem zw_ml_5_8 : Cond.methodLink RX10 250 yX10_overAsNow ∈ z_om := z_in5 8 rfl rfl
theorem zw_ml_6_0 : Cond.methodLink RX11 108 yX11_hoursOf ∈ z_om := z_in6 0 rfl rfl
theorem zw_ml_6_109 : Cond.methodLink RX11 277 yX11_laysHouses ∈ z_om := z_in6 109 rfl rfl
theorem zw_ml_6_113 : Cond.methodLink RX11 241 yX11_own ∈ z_om := z_in6 113 rfl rfl
theorem zw_ml_6_117 : Cond.methodLink RX11 280 yX11_runs ∈ z_om := z_in6 117 rfl rfl
theorem zw_ml_6_121 : Cond.methodLink RX11 256 yX11_fallOf ∈ z_om := z_in6 121 rfl rfl
theorem zw_ml_6_125 : Cond.methodLink RX11 259 yX11_isSnow ∈ z_om := z_in6 125 rfl rfl
theorem zw_ml_6_129 : Cond.methodLink RX11 244 yX11_least ∈ z_om := z_in6 129 rfl rfl
theorem zw_ml_6_132 : Cond.methodLink RX11 263 yX11_gets ∈ z_om := z_in6 132 rfl rfl
theorem zw_ml_6_136 : Cond.methodLink RX11 247 yX11_most ∈ z_om := z_in6 136 rfl rfl
theorem zw_ml_6_139 : Cond.methodLink RX11 270 yX11_writes ∈ z_om := z_in6 139 rfl rfl
theorem zw_ml_6_143 : Cond.methodLink RX11 283 yX11_pays ∈ z_om := z_in6 143 rfl rfl
theorem zw_ml_6_147 : Cond.methodLink RX11 274 yX11_comesTo ∈ z_om := z_in6 147 rfl rfl
theorem zw_ml_6_151 : Cond.methodLink RX11 234 yX11_both ∈ z_om := z_in6 151 rfl rfl
theorem zw_ml_6_16 : Cond.methodLink RX11 187 yX11_next0 ∈ z_om := z_in6 16 rfl rfl
theorem zw_ml_6_168 : Cond.methodLink RX11 293 yX11_count ∈ z_om := z_in6 168 rfl rfl
theorem zw_ml_6_171 : Cond.methodLink RX11 296 yX11_overAt ∈ z_om := z_in6 171 rfl rfl
theorem zw_ml_6_175 : Cond.methodLink RX11 287 yX11_orders ∈ z_om := z_in6 175 rfl rfl
theorem zw_ml_6_182 : Cond.methodLink RX11 305 yX11_goesOn ∈ z_om := z_in6 182 rfl rfl
theorem zw_ml_6_20 : Cond.methodLink RX11 160 yX11_see ∈ z_om := z_in6 20 rfl rfl
theorem zw_ml_6_202 : Cond.methodLink RX11 308 yX11_movesDown ∈ z_om := z_in6 202 rfl rfl
theorem zw_ml_6_24 : Cond.methodLink RX11 166 yX11_isLetter ∈ z_om := z_in6 24 rfl rfl
theorem zw_ml_6_27 : Cond.methodLink RX11 169 yX11_word ∈ z_om := z_in6 27 rfl rfl
theorem zw_ml_6_32 : Cond.methodLink RX11 133 yX11_is ∈ z_om := z_in6 32 rfl rfl
theorem zw_ml_6_36 : Cond.methodLink RX11 121 yJ0_length_8abf5 ∈ z_om := z_in6 36 rfl rfl
theorem zw_ml_6_37 : Cond.methodLink RX11 127 yJ0_charAt_5068e ∈ z_om := z_in6 37 rfl rfl
theorem zw_ml_6_42 : Cond.methodLink RX11 157 yX11_nameWord ∈ z_om := z_in6 42 rfl rfl
theorem zw_ml_6_54 : Cond.methodLink RX11 172 yX11_isDigit ∈ z_om := z_in6 54 rfl rfl
theorem zw_ml_6_57 : Cond.methodLink RX11 228 yX11_aLine ∈ z_om := z_in6 57 rfl rfl
theorem zw_ml_6_61 : Cond.methodLink RX11 184 yX11_bad ∈ z_om := z_in6 61 rfl rfl
theorem zw_ml_6_65 : Cond.methodLink RX11 222 yX11_sumUp ∈ z_om := z_in6 65 rfl rfl
theorem zw_ml_6_69 : Cond.methodLink RX11 196 yX11_product ∈ z_om := z_in6 69 rfl rfl
theorem zw_ml_6_73 : Cond.methodLink RX11 204 yX11_unit ∈ z_om := z_in6 73 rfl rfl
theorem zw_ml_6_77 : Cond.methodLink RX11 200 yX11_lay ∈ z_om := z_in6 77 rfl rfl
theorem zw_ml_6_81 : Cond.methodLink RX11 216 yX11_any ∈ z_om := z_in6 81 rfl rfl
theorem zw_ml_6_85 : Cond.methodLink RX11 207 yX11_every ∈ z_om := z_in6 85 rfl rfl
theorem zw_ml_6_89 : Cond.methodLink RX11 210 yX11_oneTest ∈ z_om := z_in6 89 rfl rfl
theorem zw_ml_6_93 : Cond.methodLink RX11 213 yX11_opens ∈ z_om := z_in6 93 rfl rfl
theorem zw_ml_6_97 : Cond.methodLink RX11 219 yX11_need ∈ z_om := z_in6 97 rfl rfl
theorem zw_na_4_13 : Cond.native arraycopyName ∈ z_om := z_in4 13 rfl rfl
theorem zw_se_2_213 : Cond.selects RX2 yX2_build yX2_build ∈ z_om := z_in2 213 rfl rfl
theorem zw_se_2_238 : Cond.selects RX2 yX2_change yX2_change ∈ z_om := z_in2 238 rfl rfl
theorem zw_se_3_10 : Cond.selects RX7 yX7_brew yX7_brew ∈ z_om := z_in3 10 rfl rfl
theorem zw_se_3_127 : Cond.selects RJ0 yJ0_indexOf_0f7a4 yJ0_indexOf_0f7a4 ∈ z_om := z_in3 127 rfl rfl
theorem zw_se_3_131 : Cond.selects RJ0 yJ0_indexOf_7cf53 yJ0_indexOf_7cf53 ∈ z_om := z_in3 131 rfl rfl
theorem zw_se_3_198 : Cond.selects RX3 yX3_add yX3_add ∈ z_om := z_in3 198 rfl rfl
theorem zw_se_3_237 : Cond.selects RX3 yX3_closeLine yX3_closeLine ∈ z_om := z_in3 237 rfl rfl
theorem zw_se_3_26 : Cond.selects RX9 yX9_hasRoom yX9_hasRoom ∈ z_om := z_in3 26 rfl rfl
theorem zw_se_3_30 : Cond.selects RX9 yX9_add yX9_add ∈ z_om := z_in3 30 rfl rfl
theorem zw_se_3_42 : Cond.selects RX4 yX4_read yX4_read ∈ z_om := z_in3 42 rfl rfl
theorem zw_se_3_46 : Cond.selects RX3 yX3_clear yX3_clear ∈ z_om := z_in3 46 rfl rfl
theorem zw_se_3_50 : Cond.selects RX9 yX9_rewind yX9_rewind ∈ z_om := z_in3 50 rfl rfl
theorem zw_se_3_54 : Cond.selects RX9 yX9_scan yX9_scan ∈ z_om := z_in3 54 rfl rfl
theorem zw_se_3_67 : Cond.selects RJ0 yJ0_length_8abf5 yJ0_length_8abf5 ∈ z_om := z_in3 67 rfl rfl
theorem zw_se_3_71 : Cond.selects RJ0 yJ0_coder_7d493 yJ0_coder_7d493 ∈ z_om := z_in3 71 rfl rfl
theorem zw_se_3_81 : Cond.selects RJ0 yJ0_charAt_5068e yJ0_charAt_5068e ∈ z_om := z_in3 81 rfl rfl
theorem zw_se_3_85 : Cond.selects RJ0 yJ0_isLatin1_aae02 yJ0_isLatin1_aae02 ∈ z_om := z_in3 85 rfl rfl
theorem zw_se_4_101 : Cond.selects RX2 yX2_told yX2_told ∈ z_om := z_in4 101 rfl rfl
theorem zw_se_4_111 : Cond.selects RX2 yX2_toldOf yX2_toldOf ∈ z_om := z_in4 111 rfl rfl
theorem zw_se_4_120 : Cond.selects RX0 yX0_choose yX0_choose ∈ z_om := z_in4 120 rfl rfl
theorem zw_se_4_124 : Cond.selects RX0 yX0_overWith yX0_overWith ∈ z_om := z_in4 124 rfl rfl
theorem zw_se_4_128 : Cond.selects RX5 yX5_imagine yX5_imagine ∈ z_om := z_in4 128 rfl rfl
theorem zw_se_4_132 : Cond.selects RX2 yX2_imagine yX2_imagine ∈ z_om := z_in4 132 rfl rfl
theorem zw_se_4_137 : Cond.selects RX0 yX0_weigh yX0_weigh ∈ z_om := z_in4 137 rfl rfl
theorem zw_se_4_175 : Cond.selects RX1 yX1_rain yX1_rain ∈ z_om := z_in4 175 rfl rfl
theorem zw_se_4_180 : Cond.selects RX5 yX5_widen yX5_widen ∈ z_om := z_in4 180 rfl rfl
theorem zw_se_4_186 : Cond.selects RX1 yX1_plan yX1_plan ∈ z_om := z_in4 186 rfl rfl
theorem zw_se_4_211 : Cond.selects RX5 yX5_strip yX5_strip ∈ z_om := z_in4 211 rfl rfl
theorem zw_se_4_225 : Cond.selects RX6 yX6_explain yX6_explain ∈ z_om := z_in4 225 rfl rfl
theorem zw_se_4_24 : Cond.selects RX8 yX8_weather yX8_weather ∈ z_om := z_in4 24 rfl rfl
theorem zw_se_4_28 : Cond.selects RX5 yX5_pour yX5_pour ∈ z_om := z_in4 28 rfl rfl
theorem zw_se_4_32 : Cond.selects RX5 yX5_pass yX5_pass ∈ z_om := z_in4 32 rfl rfl
theorem zw_se_4_36 : Cond.selects RX2 yX2_drink yX2_drink ∈ z_om := z_in4 36 rfl rfl
theorem zw_se_4_40 : Cond.selects RX2 yX2_carriesAt yX2_carriesAt ∈ z_om := z_in4 40 rfl rfl
theorem zw_se_4_5 : Cond.selects RX3 yX3_closeSum yX3_closeSum ∈ z_om := z_in4 5 rfl rfl
theorem zw_se_4_54 : Cond.selects RX7 yX7_fallInAll yX7_fallInAll ∈ z_om := z_in4 54 rfl rfl
theorem zw_se_4_58 : Cond.selects RX2 yX2_carriedInAll yX2_carriedInAll ∈ z_om := z_in4 58 rfl rfl
theorem zw_se_4_79 : Cond.selects RX3 yX3_asks yX3_asks ∈ z_om := z_in4 79 rfl rfl
theorem zw_se_4_9 : Cond.selects RX3 yX3_copy yX3_copy ∈ z_om := z_in4 9 rfl rfl
theorem zw_se_4_93 : Cond.selects RX2 yX2_closeStorm yX2_closeStorm ∈ z_om := z_in4 93 rfl rfl
theorem zw_se_5_2 : Cond.selects RX6 yX6_told yX6_told ∈ z_om := z_in5 2 rfl rfl
theorem zw_se_5_22 : Cond.selects RX5 yX5_imagineAdded yX5_imagineAdded ∈ z_om := z_in5 22 rfl rfl
theorem zw_se_5_32 : Cond.selects RX8 yX8_copy yX8_copy ∈ z_om := z_in5 32 rfl rfl
theorem zw_se_5_36 : Cond.selects RX5 yX5_copy yX5_copy ∈ z_om := z_in5 36 rfl rfl
theorem zw_se_5_40 : Cond.selects RX2 yX2_copy yX2_copy ∈ z_om := z_in5 40 rfl rfl
theorem zw_se_5_46 : Cond.selects RX7 yX7_copy yX7_copy ∈ z_om := z_in5 46 rfl rfl
theorem zw_se_5_55 : Cond.selects RX7 yX7_told yX7_told ∈ z_om := z_in5 55 rfl rfl
theorem zw_se_5_60 : Cond.selects RX8 yX8_told yX8_told ∈ z_om := z_in5 60 rfl rfl
theorem zw_se_S_0 : Cond.selects RX10 yX10_isHouse yX10_isHouse ∈ z_om := z_inS 0 rfl rfl
theorem zw_se_S_1 : Cond.selects RX10 yX10_tellSize yX10_tellSize ∈ z_om := z_inS 1 rfl rfl
theorem zw_se_S_10 : Cond.selects RX4 yX4_takePart yX4_takePart ∈ z_om := z_inS 10 rfl rfl
theorem zw_se_S_11 : Cond.selects RX4 yX4_takeCase yX4_takeCase ∈ z_om := z_inS 11 rfl rfl
theorem zw_se_S_12 : Cond.selects RX4 yX4_await yX4_await ∈ z_om := z_inS 12 rfl rfl
theorem zw_se_S_13 : Cond.selects RX4 yX4_takeBehindCase yX4_takeBehindCase ∈ z_om := z_inS 13 rfl rfl
theorem zw_se_S_14 : Cond.selects RX4 yX4_join yX4_join ∈ z_om := z_inS 14 rfl rfl
theorem zw_se_S_15 : Cond.selects RX4 yX4_writeDownTo yX4_writeDownTo ∈ z_om := z_inS 15 rfl rfl
theorem zw_se_S_16 : Cond.selects RX4 yX4_closeBracket yX4_closeBracket ∈ z_om := z_inS 16 rfl rfl
theorem zw_se_S_17 : Cond.selects RX4 yX4_closeLine yX4_closeLine ∈ z_om := z_inS 17 rfl rfl
theorem zw_se_S_18 : Cond.selects RX4 yX4_takeBehindUnit yX4_takeBehindUnit ∈ z_om := z_inS 18 rfl rfl
theorem zw_se_S_19 : Cond.selects RX2 yX2_land yX2_land ∈ z_om := z_inS 19 rfl rfl
theorem zw_se_S_2 : Cond.selects RX10 yX10_tellThaw yX10_tellThaw ∈ z_om := z_inS 2 rfl rfl
theorem zw_se_S_20 : Cond.selects RX2 yX2_passBarrel yX2_passBarrel ∈ z_om := z_inS 20 rfl rfl
theorem zw_se_S_21 : Cond.selects RX8 yX8_store yX8_store ∈ z_om := z_inS 21 rfl rfl
theorem zw_se_S_22 : Cond.selects RX8 yX8_settle yX8_settle ∈ z_om := z_inS 22 rfl rfl
theorem zw_se_S_23 : Cond.selects RX8 yX8_pay yX8_pay ∈ z_om := z_inS 23 rfl rfl
theorem zw_se_S_24 : Cond.selects RX3 yX3_worth yX3_worth ∈ z_om := z_inS 24 rfl rfl
theorem zw_se_S_25 : Cond.selects RX0 yX0_addOrders yX0_addOrders ∈ z_om := z_inS 25 rfl rfl
theorem zw_se_S_26 : Cond.selects RX10 yX10_planStorms yX10_planStorms ∈ z_om := z_inS 26 rfl rfl
theorem zw_se_S_27 : Cond.selects RX10 yX10_planStorm yX10_planStorm ∈ z_om := z_inS 27 rfl rfl
theorem zw_se_S_28 : Cond.selects RX1 yX1_bestTimes yX1_bestTimes ∈ z_om := z_inS 28 rfl rfl
theorem zw_se_S_29 : Cond.selects RX1 yX1_staysDry yX1_staysDry ∈ z_om := z_inS 29 rfl rfl
theorem zw_se_S_3 : Cond.selects RX10 yX10_isStorm yX10_isStorm ∈ z_om := z_inS 3 rfl rfl
theorem zw_se_S_30 : Cond.selects RX1 yX1_isAhead yX1_isAhead ∈ z_om := z_inS 30 rfl rfl
theorem zw_se_S_31 : Cond.selects RX10 yX10_widerPrice yX10_widerPrice ∈ z_om := z_inS 31 rfl rfl
theorem zw_se_S_32 : Cond.selects RX6 yX6_note yX6_note ∈ z_om := z_inS 32 rfl rfl
theorem zw_se_S_33 : Cond.selects RX10 yX10_overAsNow yX10_overAsNow ∈ z_om := z_inS 33 rfl rfl
theorem zw_se_S_34 : Cond.selects RX10 yX10_overIfDrained yX10_overIfDrained ∈ z_om := z_inS 34 rfl rfl
theorem zw_se_S_35 : Cond.selects RX11 yX11_gives yX11_gives ∈ z_om := z_inS 35 rfl rfl
theorem zw_se_S_36 : Cond.selects RX11 yX11_isHouse yX11_isHouse ∈ z_om := z_inS 36 rfl rfl
theorem zw_se_S_37 : Cond.selects RX11 yX11_isStorm yX11_isStorm ∈ z_om := z_inS 37 rfl rfl
theorem zw_se_S_38 : Cond.selects RX11 yX11_hoursOf yX11_hoursOf ∈ z_om := z_inS 38 rfl rfl
theorem zw_se_S_39 : Cond.selects RX11 yX11_next0 yX11_next0 ∈ z_om := z_inS 39 rfl rfl
theorem zw_se_S_4 : Cond.selects RX9 yX9_scanWord yX9_scanWord ∈ z_om := z_inS 4 rfl rfl
theorem zw_se_S_40 : Cond.selects RX11 yX11_see yX11_see ∈ z_om := z_inS 40 rfl rfl
theorem zw_se_S_41 : Cond.selects RX11 yX11_word yX11_word ∈ z_om := z_inS 41 rfl rfl
theorem zw_se_S_42 : Cond.selects RX11 yX11_is yX11_is ∈ z_om := z_inS 42 rfl rfl
theorem zw_se_S_43 : Cond.selects RX11 yX11_nameWord yX11_nameWord ∈ z_om := z_inS 43 rfl rfl
theorem zw_se_S_44 : Cond.selects RX11 yX11_aLine yX11_aLine ∈ z_om := z_inS 44 rfl rfl
theorem zw_se_S_45 : Cond.selects RX11 yX11_bad yX11_bad ∈ z_om := z_inS 45 rfl rfl
theorem zw_se_S_46 : Cond.selects RX11 yX11_sumUp yX11_sumUp ∈ z_om := z_inS 46 rfl rfl
theorem zw_se_S_47 : Cond.selects RX11 yX11_product yX11_product ∈ z_om := z_inS 47 rfl rfl
theorem zw_se_S_48 : Cond.selects RX11 yX11_unit yX11_unit ∈ z_om := z_inS 48 rfl rfl
theorem zw_se_S_49 : Cond.selects RX11 yX11_lay yX11_lay ∈ z_om := z_inS 49 rfl rfl
theorem zw_se_S_5 : Cond.selects RX9 yX9_isWord yX9_isWord ∈ z_om := z_inS 5 rfl rfl
theorem zw_se_S_50 : Cond.selects RX11 yX11_any yX11_any ∈ z_om := z_inS 50 rfl rfl
theorem zw_se_S_51 : Cond.selects RX11 yX11_every yX11_every ∈ z_om := z_inS 51 rfl rfl
theorem zw_se_S_52 : Cond.selects RX11 yX11_oneTest yX11_oneTest ∈ z_om := z_inS 52 rfl rfl
theorem zw_se_S_53 : Cond.selects RX11 yX11_opens yX11_opens ∈ z_om := z_inS 53 rfl rfl
theorem zw_se_S_54 : Cond.selects RX11 yX11_need yX11_need ∈ z_om := z_inS 54 rfl rfl
theorem zw_se_S_55 : Cond.selects RX11 yX11_laysHouses yX11_laysHouses ∈ z_om := z_inS 55 rfl rfl
theorem zw_se_S_56 : Cond.selects RX11 yX11_own yX11_own ∈ z_om := z_inS 56 rfl rfl
theorem zw_se_S_57 : Cond.selects RX11 yX11_runs yX11_runs ∈ z_om := z_inS 57 rfl rfl
theorem zw_se_S_58 : Cond.selects RX11 yX11_fallOf yX11_fallOf ∈ z_om := z_inS 58 rfl rfl
theorem zw_se_S_59 : Cond.selects RX11 yX11_isSnow yX11_isSnow ∈ z_om := z_inS 59 rfl rfl
theorem zw_se_S_6 : Cond.selects RX9 yX9_scanNumber yX9_scanNumber ∈ z_om := z_inS 6 rfl rfl
theorem zw_se_S_60 : Cond.selects RX11 yX11_gets yX11_gets ∈ z_om := z_inS 60 rfl rfl
theorem zw_se_S_61 : Cond.selects RX11 yX11_writes yX11_writes ∈ z_om := z_inS 61 rfl rfl
theorem zw_se_S_62 : Cond.selects RX11 yX11_pays yX11_pays ∈ z_om := z_inS 62 rfl rfl
theorem zw_se_S_63 : Cond.selects RX11 yX11_comesTo yX11_comesTo ∈ z_om := z_inS 63 rfl rfl
theorem zw_se_S_64 : Cond.selects RX11 yX11_overAt yX11_overAt ∈ z_om := z_inS 64 rfl rfl
theorem zw_se_S_65 : Cond.selects RX11 yX11_goesOn yX11_goesOn ∈ z_om := z_inS 65 rfl rfl
theorem zw_se_S_66 : Cond.selects RX11 yX11_movesDown yX11_movesDown ∈ z_om := z_inS 66 rfl rfl
theorem zw_se_S_7 : Cond.selects RX4 yX4_take yX4_take ∈ z_om := z_inS 7 rfl rfl
theorem zw_se_S_8 : Cond.selects RX4 yX4_takeLine yX4_takeLine ∈ z_om := z_inS 8 rfl rfl
theorem zw_se_S_9 : Cond.selects RX4 yX4_takeUnit yX4_takeUnit ∈ z_om := z_inS 9 rfl rfl
theorem zw_st_2_206 : Cond.static yX10_canStand ∈ z_om := z_in2 206 rfl rfl
theorem zw_st_2_209 : Cond.static yX10_within ∈ z_om := z_in2 209 rfl rfl
theorem zw_st_3_1 : Cond.static yX2_mostOf ∈ z_om := z_in3 1 rfl rfl
theorem zw_st_3_118 : Cond.static yX9_isDigit ∈ z_om := z_in3 118 rfl rfl
theorem zw_st_3_135 : Cond.static yJ1_indexOf_4cfef ∈ z_om := z_in3 135 rfl rfl
theorem zw_st_3_138 : Cond.static yJ1_canEncode_9a6ad ∈ z_om := z_in3 138 rfl rfl
theorem zw_st_3_141 : Cond.static Lib.Math.max.name ∈ z_om := z_in3 141 rfl rfl
theorem zw_st_3_144 : Cond.static Lib.Math.min.name ∈ z_om := z_in3 144 rfl rfl
theorem zw_st_3_147 : Cond.static yJ1_indexOfChar_4cfef ∈ z_om := z_in3 147 rfl rfl
theorem zw_st_3_57 : Cond.static yX9_isLetter ∈ z_om := z_in3 57 rfl rfl
theorem zw_st_3_88 : Cond.static yJ1_charAt_3b067 ∈ z_om := z_in3 88 rfl rfl
theorem zw_st_3_91 : Cond.static yJ0_checkIndex_df160 ∈ z_om := z_in3 91 rfl rfl
theorem zw_st_4_12 : Cond.static arraycopyName ∈ z_om := z_in4 12 rfl rfl
theorem zw_st_4_145 : Cond.static yJ6_bitCount_0f7a4 ∈ z_om := z_in4 145 rfl rfl
theorem zw_st_4_153 : Cond.static Lib.MathLoose.abs_long.x ∈ z_om := z_in4 153 rfl rfl
theorem zw_st_4_156 : Cond.static yX0_commonPart ∈ z_om := z_in4 156 rfl rfl
theorem zw_st_4_159 : Cond.static Lib.MathLoose.max_long.x ∈ z_om := z_in4 159 rfl rfl
theorem zw_st_4_229 : Cond.static yX6_tryHouse ∈ z_om := z_in4 229 rfl rfl
theorem zw_st_4_237 : Cond.static yX6_runsOver ∈ z_om := z_in4 237 rfl rfl
theorem zw_st_4_75 : Cond.static Lib.Math.abs.name ∈ z_om := z_in4 75 rfl rfl
theorem zw_st_4_87 : Cond.static yX3_joined ∈ z_om := z_in4 87 rfl rfl
theorem zw_st_5_210 : Cond.static yX11_isIn ∈ z_om := z_in5 210 rfl rfl
theorem zw_st_6_130 : Cond.static yX11_least ∈ z_om := z_in6 130 rfl rfl
theorem zw_st_6_137 : Cond.static yX11_most ∈ z_om := z_in6 137 rfl rfl
theorem zw_st_6_152 : Cond.static yX11_both ∈ z_om := z_in6 152 rfl rfl
theorem zw_st_6_169 : Cond.static yX11_count ∈ z_om := z_in6 169 rfl rfl
theorem zw_st_6_176 : Cond.static yX11_orders ∈ z_om := z_in6 176 rfl rfl
theorem zw_st_6_25 : Cond.static yX11_isLetter ∈ z_om := z_in6 25 rfl rfl
theorem zw_st_6_55 : Cond.static yX11_isDigit ∈ z_om := z_in6 55 rfl rfl
theorem zwn_X0_60 : Cond.fieldLinkNest RX0 60 "DrinkingRoofs" "ORDERS" "[I" "DrinkingRoofs" ∈ z_nest := List.mem_of_getElem? (i := 14) rfl
theorem zwn_X2_81 : Cond.methodLinkNest RX2 81 yX10_within "DrinkingRoofs" ∈ z_nest := List.mem_of_getElem? (i := 9) rfl
theorem zwn_X3_50 : Cond.methodLinkNest RX3 50 yX10_within "DrinkingRoofs" ∈ z_nest := List.mem_of_getElem? (i := 13) rfl
theorem zwn_X4_120 : Cond.fieldLinkNest RX4 120 "DrinkingRoofs" "STRENGTH" "[I" "DrinkingRoofs" ∈ z_nest := List.mem_of_getElem? (i := 12) rfl
theorem zwn_X4_79 : Cond.methodLinkNest RX4 79 yX10_within "DrinkingRoofs" ∈ z_nest := List.mem_of_getElem? (i := 11) rfl
theorem zwn_X7_23 : Cond.methodLinkNest RX7 23 yX10_within "DrinkingRoofs" ∈ z_nest := List.mem_of_getElem? (i := 15) rfl
theorem zwn_X9_64 : Cond.methodLinkNest RX9 64 yX10_within "DrinkingRoofs" ∈ z_nest := List.mem_of_getElem? (i := 10) rfl
