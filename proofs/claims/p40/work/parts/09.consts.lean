theorem zcb_m20 : (Int8.ofInt (-20)).toInt32 = ((-20 : Int32)) := by decide
theorem zcb_m4 : (Int8.ofInt (-4)).toInt32 = ((-4 : Int32)) := by decide
theorem zcb_m3 : (Int8.ofInt (-3)).toInt32 = ((-3 : Int32)) := by decide
theorem zcb_m2 : (Int8.ofInt (-2)).toInt32 = ((-2 : Int32)) := by decide
theorem zcb_6 : (Int8.ofInt (6)).toInt32 = ((6 : Int32)) := by decide
theorem zcb_7 : (Int8.ofInt (7)).toInt32 = ((7 : Int32)) := by decide
theorem zcb_8 : (Int8.ofInt (8)).toInt32 = ((8 : Int32)) := by decide
theorem zcb_9 : (Int8.ofInt (9)).toInt32 = ((9 : Int32)) := by decide
theorem zcb_10 : (Int8.ofInt (10)).toInt32 = ((10 : Int32)) := by decide
theorem zcb_11 : (Int8.ofInt (11)).toInt32 = ((11 : Int32)) := by decide
theorem zcb_12 : (Int8.ofInt (12)).toInt32 = ((12 : Int32)) := by decide
theorem zcb_13 : (Int8.ofInt (13)).toInt32 = ((13 : Int32)) := by decide
theorem zcb_14 : (Int8.ofInt (14)).toInt32 = ((14 : Int32)) := by decide
theorem zcb_15 : (Int8.ofInt (15)).toInt32 = ((15 : Int32)) := by decide
theorem zcb_16 : (Int8.ofInt (16)).toInt32 = ((16 : Int32)) := by decide
theorem zcb_19 : (Int8.ofInt (19)).toInt32 = ((19 : Int32)) := by decide
theorem zcb_20 : (Int8.ofInt (20)).toInt32 = ((20 : Int32)) := by decide
theorem zcb_26 : (Int8.ofInt (26)).toInt32 = ((26 : Int32)) := by decide
theorem zcb_28 : (Int8.ofInt (28)).toInt32 = ((28 : Int32)) := by decide
theorem zcb_30 : (Int8.ofInt (30)).toInt32 = ((30 : Int32)) := by decide
theorem zcb_32 : (Int8.ofInt (32)).toInt32 = ((32 : Int32)) := by decide
theorem zcb_40 : (Int8.ofInt (40)).toInt32 = ((40 : Int32)) := by decide
theorem zcb_43 : (Int8.ofInt (43)).toInt32 = ((43 : Int32)) := by decide
theorem zcb_48 : (Int8.ofInt (48)).toInt32 = ((48 : Int32)) := by decide
theorem zcb_50 : (Int8.ofInt (50)).toInt32 = ((50 : Int32)) := by decide
theorem zcb_63 : (Int8.ofInt (63)).toInt32 = ((63 : Int32)) := by decide
theorem zcb_64 : (Int8.ofInt (64)).toInt32 = ((64 : Int32)) := by decide
theorem zcb_65 : (Int8.ofInt (65)).toInt32 = ((65 : Int32)) := by decide
theorem zcb_90 : (Int8.ofInt (90)).toInt32 = ((90 : Int32)) := by decide
theorem zcb_99 : (Int8.ofInt (99)).toInt32 = ((99 : Int32)) := by decide
theorem zcb_100 : (Int8.ofInt (100)).toInt32 = ((100 : Int32)) := by decide
theorem zcb_107 : (Int8.ofInt (107)).toInt32 = ((107 : Int32)) := by decide
theorem zci_m1 : Int32.ofInt (-1) = ((-1 : Int32)) := by decide
theorem zci_0 : Int32.ofInt (0) = ((0 : Int32)) := by decide
theorem zci_1 : Int32.ofInt (1) = ((1 : Int32)) := by decide
theorem zci_2 : Int32.ofInt (2) = ((2 : Int32)) := by decide
theorem zci_3 : Int32.ofInt (3) = ((3 : Int32)) := by decide
theorem zci_4 : Int32.ofInt (4) = ((4 : Int32)) := by decide
theorem zci_5 : Int32.ofInt (5) = ((5 : Int32)) := by decide
theorem zci_8 : Int32.ofInt (8) = ((8 : Int32)) := by decide
theorem zci_16 : Int32.ofInt (16) = ((16 : Int32)) := by decide
theorem zcl_0 : Int64.ofNat ((0 : Fin 2) : Nat) = ((0 : Int64)) := by decide
theorem zcl_1 : Int64.ofNat ((1 : Fin 2) : Nat) = ((1 : Int64)) := by decide
theorem zcs_200 : (Int16.ofInt (200)).toInt32 = ((200 : Int32)) := by decide
theorem zcs_256 : (Int16.ofInt (256)).toInt32 = ((256 : Int32)) := by decide
theorem zcs_400 : (Int16.ofInt (400)).toInt32 = ((400 : Int32)) := by decide
theorem zcs_900 : (Int16.ofInt (900)).toInt32 = ((900 : Int32)) := by decide
theorem zcs_999 : (Int16.ofInt (999)).toInt32 = ((999 : Int32)) := by decide
theorem zcs_1500 : (Int16.ofInt (1500)).toInt32 = ((1500 : Int32)) := by decide
theorem zcs_2500 : (Int16.ofInt (2500)).toInt32 = ((2500 : Int32)) := by decide
theorem zd_J6_bitCount_0f7a4 : yJ6_bitCount_0f7a4.cls ≠ "java/lang/invoke/MethodHandle" ∧ yJ6_bitCount_0f7a4.cls ≠ "java/lang/invoke/VarHandle" ∧ (parseMethodDescriptor yJ6_bitCount_0f7a4.desc).map (fun d => d.parameters.length) = some 1 := by decide +kernel
theorem zd_J6_numberOfTrailingZeros_0f7a4 : yJ6_numberOfTrailingZeros_0f7a4.cls ≠ "java/lang/invoke/MethodHandle" ∧ yJ6_numberOfTrailingZeros_0f7a4.cls ≠ "java/lang/invoke/VarHandle" ∧ (parseMethodDescriptor yJ6_numberOfTrailingZeros_0f7a4.desc).map (fun d => d.parameters.length) = some 1 := by decide +kernel
theorem zd_J7_fill_53178 : yJ7_fill_53178.cls ≠ "java/lang/invoke/MethodHandle" ∧ yJ7_fill_53178.cls ≠ "java/lang/invoke/VarHandle" ∧ (parseMethodDescriptor yJ7_fill_53178.desc).map (fun d => d.parameters.length) = some 2 := by decide +kernel
theorem zd_L_cell : yL_cell.cls ≠ "java/lang/invoke/MethodHandle" ∧ yL_cell.cls ≠ "java/lang/invoke/VarHandle" ∧ (parseMethodDescriptor yL_cell.desc).map (fun d => d.parameters.length) = some 2 := by decide +kernel
theorem zd_L_hung : yL_hung.cls ≠ "java/lang/invoke/MethodHandle" ∧ yL_hung.cls ≠ "java/lang/invoke/VarHandle" ∧ (parseMethodDescriptor yL_hung.desc).map (fun d => d.parameters.length) = some 5 := by decide +kernel
theorem zd_L_lays : yL_lays.cls ≠ "java/lang/invoke/MethodHandle" ∧ yL_lays.cls ≠ "java/lang/invoke/VarHandle" ∧ (parseMethodDescriptor yL_lays.desc).map (fun d => d.parameters.length) = some 4 := by decide +kernel
theorem zd_L_size : yL_size.cls ≠ "java/lang/invoke/MethodHandle" ∧ yL_size.cls ≠ "java/lang/invoke/VarHandle" ∧ (parseMethodDescriptor yL_size.desc).map (fun d => d.parameters.length) = some 1 := by decide +kernel
theorem zd_L_under : yL_under.cls ≠ "java/lang/invoke/MethodHandle" ∧ yL_under.cls ≠ "java/lang/invoke/VarHandle" ∧ (parseMethodDescriptor yL_under.desc).map (fun d => d.parameters.length) = some 4 := by decide +kernel
theorem zd_L_weigh : yL_weigh.cls ≠ "java/lang/invoke/MethodHandle" ∧ yL_weigh.cls ≠ "java/lang/invoke/VarHandle" ∧ (parseMethodDescriptor yL_weigh.desc).map (fun d => d.parameters.length) = some 3 := by decide +kernel
theorem zd_X0_takeOver : yX0_takeOver.cls ≠ "java/lang/invoke/MethodHandle" ∧ yX0_takeOver.cls ≠ "java/lang/invoke/VarHandle" ∧ (parseMethodDescriptor yX0_takeOver.desc).map (fun d => d.parameters.length) = some 1 := by decide +kernel
theorem zd_X10_add : yX10_add.cls ≠ "java/lang/invoke/MethodHandle" ∧ yX10_add.cls ≠ "java/lang/invoke/VarHandle" ∧ (parseMethodDescriptor yX10_add.desc).map (fun d => d.parameters.length) = some 2 := by decide +kernel
theorem zd_X10_isLetter : yX10_isLetter.cls ≠ "java/lang/invoke/MethodHandle" ∧ yX10_isLetter.cls ≠ "java/lang/invoke/VarHandle" ∧ (parseMethodDescriptor yX10_isLetter.desc).map (fun d => d.parameters.length) = some 2 := by decide +kernel
theorem zd_X10_isSign : yX10_isSign.cls ≠ "java/lang/invoke/MethodHandle" ∧ yX10_isSign.cls ≠ "java/lang/invoke/VarHandle" ∧ (parseMethodDescriptor yX10_isSign.desc).map (fun d => d.parameters.length) = some 1 := by decide +kernel
theorem zd_X10_read : yX10_read.cls ≠ "java/lang/invoke/MethodHandle" ∧ yX10_read.cls ≠ "java/lang/invoke/VarHandle" ∧ (parseMethodDescriptor yX10_read.desc).map (fun d => d.parameters.length) = some 1 := by decide +kernel
theorem zd_X10_readName : yX10_readName.cls ≠ "java/lang/invoke/MethodHandle" ∧ yX10_readName.cls ≠ "java/lang/invoke/VarHandle" ∧ (parseMethodDescriptor yX10_readName.desc).map (fun d => d.parameters.length) = some 0 := by decide +kernel
theorem zd_X10_readPair : yX10_readPair.cls ≠ "java/lang/invoke/MethodHandle" ∧ yX10_readPair.cls ≠ "java/lang/invoke/VarHandle" ∧ (parseMethodDescriptor yX10_readPair.desc).map (fun d => d.parameters.length) = some 0 := by decide +kernel
theorem zd_X11_count : yX11_count.cls ≠ "java/lang/invoke/MethodHandle" ∧ yX11_count.cls ≠ "java/lang/invoke/VarHandle" ∧ (parseMethodDescriptor yX11_count.desc).map (fun d => d.parameters.length) = some 1 := by decide +kernel
theorem zd_X11_giveWay : yX11_giveWay.cls ≠ "java/lang/invoke/MethodHandle" ∧ yX11_giveWay.cls ≠ "java/lang/invoke/VarHandle" ∧ (parseMethodDescriptor yX11_giveWay.desc).map (fun d => d.parameters.length) = some 0 := by decide +kernel
theorem zd_X11_hang : yX11_hang.cls ≠ "java/lang/invoke/MethodHandle" ∧ yX11_hang.cls ≠ "java/lang/invoke/VarHandle" ∧ (parseMethodDescriptor yX11_hang.desc).map (fun d => d.parameters.length) = some 5 := by decide +kernel
theorem zd_X11_hangOn : yX11_hangOn.cls ≠ "java/lang/invoke/MethodHandle" ∧ yX11_hangOn.cls ≠ "java/lang/invoke/VarHandle" ∧ (parseMethodDescriptor yX11_hangOn.desc).map (fun d => d.parameters.length) = some 4 := by decide +kernel
theorem zd_X11_image : yX11_image.cls ≠ "java/lang/invoke/MethodHandle" ∧ yX11_image.cls ≠ "java/lang/invoke/VarHandle" ∧ (parseMethodDescriptor yX11_image.desc).map (fun d => d.parameters.length) = some 0 := by decide +kernel
theorem zd_X11_isBar : yX11_isBar.cls ≠ "java/lang/invoke/MethodHandle" ∧ yX11_isBar.cls ≠ "java/lang/invoke/VarHandle" ∧ (parseMethodDescriptor yX11_isBar.desc).map (fun d => d.parameters.length) = some 2 := by decide +kernel
theorem zd_X11_isLock : yX11_isLock.cls ≠ "java/lang/invoke/MethodHandle" ∧ yX11_isLock.cls ≠ "java/lang/invoke/VarHandle" ∧ (parseMethodDescriptor yX11_isLock.desc).map (fun d => d.parameters.length) = some 3 := by decide +kernel
theorem zd_X11_isSought : yX11_isSought.cls ≠ "java/lang/invoke/MethodHandle" ∧ yX11_isSought.cls ≠ "java/lang/invoke/VarHandle" ∧ (parseMethodDescriptor yX11_isSought.desc).map (fun d => d.parameters.length) = some 1 := by decide +kernel
theorem zd_X11_letters : yX11_letters.cls ≠ "java/lang/invoke/MethodHandle" ∧ yX11_letters.cls ≠ "java/lang/invoke/VarHandle" ∧ (parseMethodDescriptor yX11_letters.desc).map (fun d => d.parameters.length) = some 1 := by decide +kernel
theorem zd_X11_load : yX11_load.cls ≠ "java/lang/invoke/MethodHandle" ∧ yX11_load.cls ≠ "java/lang/invoke/VarHandle" ∧ (parseMethodDescriptor yX11_load.desc).map (fun d => d.parameters.length) = some 2 := by decide +kernel
theorem zd_X11_needed : yX11_needed.cls ≠ "java/lang/invoke/MethodHandle" ∧ yX11_needed.cls ≠ "java/lang/invoke/VarHandle" ∧ (parseMethodDescriptor yX11_needed.desc).map (fun d => d.parameters.length) = some 1 := by decide +kernel
theorem zd_X11_nightly : yX11_nightly.cls ≠ "java/lang/invoke/MethodHandle" ∧ yX11_nightly.cls ≠ "java/lang/invoke/VarHandle" ∧ (parseMethodDescriptor yX11_nightly.desc).map (fun d => d.parameters.length) = some 1 := by decide +kernel
theorem zd_X11_order : yX11_order.cls ≠ "java/lang/invoke/MethodHandle" ∧ yX11_order.cls ≠ "java/lang/invoke/VarHandle" ∧ (parseMethodDescriptor yX11_order.desc).map (fun d => d.parameters.length) = some 1 := by decide +kernel
theorem zd_X11_over : yX11_over.cls ≠ "java/lang/invoke/MethodHandle" ∧ yX11_over.cls ≠ "java/lang/invoke/VarHandle" ∧ (parseMethodDescriptor yX11_over.desc).map (fun d => d.parameters.length) = some 0 := by decide +kernel
theorem zd_X11_panel : yX11_panel.cls ≠ "java/lang/invoke/MethodHandle" ∧ yX11_panel.cls ≠ "java/lang/invoke/VarHandle" ∧ (parseMethodDescriptor yX11_panel.desc).map (fun d => d.parameters.length) = some 3 := by decide +kernel
theorem zd_X11_person : yX11_person.cls ≠ "java/lang/invoke/MethodHandle" ∧ yX11_person.cls ≠ "java/lang/invoke/VarHandle" ∧ (parseMethodDescriptor yX11_person.desc).map (fun d => d.parameters.length) = some 0 := by decide +kernel
theorem zd_X11_readings : yX11_readings.cls ≠ "java/lang/invoke/MethodHandle" ∧ yX11_readings.cls ≠ "java/lang/invoke/VarHandle" ∧ (parseMethodDescriptor yX11_readings.desc).map (fun d => d.parameters.length) = some 1 := by decide +kernel
theorem zd_X11_restore : yX11_restore.cls ≠ "java/lang/invoke/MethodHandle" ∧ yX11_restore.cls ≠ "java/lang/invoke/VarHandle" ∧ (parseMethodDescriptor yX11_restore.desc).map (fun d => d.parameters.length) = some 0 := by decide +kernel
theorem zd_X11_risk : yX11_risk.cls ≠ "java/lang/invoke/MethodHandle" ∧ yX11_risk.cls ≠ "java/lang/invoke/VarHandle" ∧ (parseMethodDescriptor yX11_risk.desc).map (fun d => d.parameters.length) = some 3 := by decide +kernel
theorem zd_X11_stolen : yX11_stolen.cls ≠ "java/lang/invoke/MethodHandle" ∧ yX11_stolen.cls ≠ "java/lang/invoke/VarHandle" ∧ (parseMethodDescriptor yX11_stolen.desc).map (fun d => d.parameters.length) = some 4 := by decide +kernel
theorem zd_X11_told : yX11_told.cls ≠ "java/lang/invoke/MethodHandle" ∧ yX11_told.cls ≠ "java/lang/invoke/VarHandle" ∧ (parseMethodDescriptor yX11_told.desc).map (fun d => d.parameters.length) = some 2 := by decide +kernel
theorem zd_X11_type : yX11_type.cls ≠ "java/lang/invoke/MethodHandle" ∧ yX11_type.cls ≠ "java/lang/invoke/VarHandle" ∧ (parseMethodDescriptor yX11_type.desc).map (fun d => d.parameters.length) = some 2 := by decide +kernel
theorem zd_X11_ways : yX11_ways.cls ≠ "java/lang/invoke/MethodHandle" ∧ yX11_ways.cls ≠ "java/lang/invoke/VarHandle" ∧ (parseMethodDescriptor yX11_ways.desc).map (fun d => d.parameters.length) = some 0 := by decide +kernel
theorem zd_X11_where : yX11_where.cls ≠ "java/lang/invoke/MethodHandle" ∧ yX11_where.cls ≠ "java/lang/invoke/VarHandle" ∧ (parseMethodDescriptor yX11_where.desc).map (fun d => d.parameters.length) = some 2 := by decide +kernel
theorem zd_X11_within : yX11_within.cls ≠ "java/lang/invoke/MethodHandle" ∧ yX11_within.cls ≠ "java/lang/invoke/VarHandle" ∧ (parseMethodDescriptor yX11_within.desc).map (fun d => d.parameters.length) = some 3 := by decide +kernel
theorem zd_X1_findLoots : yX1_findLoots.cls ≠ "java/lang/invoke/MethodHandle" ∧ yX1_findLoots.cls ≠ "java/lang/invoke/VarHandle" ∧ (parseMethodDescriptor yX1_findLoots.desc).map (fun d => d.parameters.length) = some 3 := by decide +kernel
theorem zd_X1_keepLoot : yX1_keepLoot.cls ≠ "java/lang/invoke/MethodHandle" ∧ yX1_keepLoot.cls ≠ "java/lang/invoke/VarHandle" ∧ (parseMethodDescriptor yX1_keepLoot.desc).map (fun d => d.parameters.length) = some 1 := by decide +kernel
theorem zd_X1_takeFrom : yX1_takeFrom.cls ≠ "java/lang/invoke/MethodHandle" ∧ yX1_takeFrom.cls ≠ "java/lang/invoke/VarHandle" ∧ (parseMethodDescriptor yX1_takeFrom.desc).map (fun d => d.parameters.length) = some 6 := by decide +kernel
theorem zd_X2_addPerson : yX2_addPerson.cls ≠ "java/lang/invoke/MethodHandle" ∧ yX2_addPerson.cls ≠ "java/lang/invoke/VarHandle" ∧ (parseMethodDescriptor yX2_addPerson.desc).map (fun d => d.parameters.length) = some 1 := by decide +kernel
theorem zd_X2_agree : yX2_agree.cls ≠ "java/lang/invoke/MethodHandle" ∧ yX2_agree.cls ≠ "java/lang/invoke/VarHandle" ∧ (parseMethodDescriptor yX2_agree.desc).map (fun d => d.parameters.length) = some 2 := by decide +kernel
theorem zd_X2_allWhoAgree : yX2_allWhoAgree.cls ≠ "java/lang/invoke/MethodHandle" ∧ yX2_allWhoAgree.cls ≠ "java/lang/invoke/VarHandle" ∧ (parseMethodDescriptor yX2_allWhoAgree.desc).map (fun d => d.parameters.length) = some 1 := by decide +kernel
theorem zd_X2_canBe : yX2_canBe.cls ≠ "java/lang/invoke/MethodHandle" ∧ yX2_canBe.cls ≠ "java/lang/invoke/VarHandle" ∧ (parseMethodDescriptor yX2_canBe.desc).map (fun d => d.parameters.length) = some 4 := by decide +kernel
theorem zd_X2_hasLetters : yX2_hasLetters.cls ≠ "java/lang/invoke/MethodHandle" ∧ yX2_hasLetters.cls ≠ "java/lang/invoke/VarHandle" ∧ (parseMethodDescriptor yX2_hasLetters.desc).map (fun d => d.parameters.length) = some 1 := by decide +kernel
theorem zd_X2_peopleOfFirst : yX2_peopleOfFirst.cls ≠ "java/lang/invoke/MethodHandle" ∧ yX2_peopleOfFirst.cls ≠ "java/lang/invoke/VarHandle" ∧ (parseMethodDescriptor yX2_peopleOfFirst.desc).map (fun d => d.parameters.length) = some 1 := by decide +kernel
theorem zd_X2_peopleOfSecond : yX2_peopleOfSecond.cls ≠ "java/lang/invoke/MethodHandle" ∧ yX2_peopleOfSecond.cls ≠ "java/lang/invoke/VarHandle" ∧ (parseMethodDescriptor yX2_peopleOfSecond.desc).map (fun d => d.parameters.length) = some 1 := by decide +kernel
theorem zd_X2_putLetters : yX2_putLetters.cls ≠ "java/lang/invoke/MethodHandle" ∧ yX2_putLetters.cls ≠ "java/lang/invoke/VarHandle" ∧ (parseMethodDescriptor yX2_putLetters.desc).map (fun d => d.parameters.length) = some 3 := by decide +kernel
theorem zd_X2_readingsOf : yX2_readingsOf.cls ≠ "java/lang/invoke/MethodHandle" ∧ yX2_readingsOf.cls ≠ "java/lang/invoke/VarHandle" ∧ (parseMethodDescriptor yX2_readingsOf.desc).map (fun d => d.parameters.length) = some 1 := by decide +kernel
theorem zd_X2_takeOver : yX2_takeOver.cls ≠ "java/lang/invoke/MethodHandle" ∧ yX2_takeOver.cls ≠ "java/lang/invoke/VarHandle" ∧ (parseMethodDescriptor yX2_takeOver.desc).map (fun d => d.parameters.length) = some 1 := by decide +kernel
theorem zd_X3_change : yX3_change.cls ≠ "java/lang/invoke/MethodHandle" ∧ yX3_change.cls ≠ "java/lang/invoke/VarHandle" ∧ (parseMethodDescriptor yX3_change.desc).map (fun d => d.parameters.length) = some 4 := by decide +kernel
theorem zd_X3_chooseBest : yX3_chooseBest.cls ≠ "java/lang/invoke/MethodHandle" ∧ yX3_chooseBest.cls ≠ "java/lang/invoke/VarHandle" ∧ (parseMethodDescriptor yX3_chooseBest.desc).map (fun d => d.parameters.length) = some 3 := by decide +kernel
theorem zd_X3_costInAll : yX3_costInAll.cls ≠ "java/lang/invoke/MethodHandle" ∧ yX3_costInAll.cls ≠ "java/lang/invoke/VarHandle" ∧ (parseMethodDescriptor yX3_costInAll.desc).map (fun d => d.parameters.length) = some 0 := by decide +kernel
theorem zd_X3_costOfWaiting : yX3_costOfWaiting.cls ≠ "java/lang/invoke/MethodHandle" ∧ yX3_costOfWaiting.cls ≠ "java/lang/invoke/VarHandle" ∧ (parseMethodDescriptor yX3_costOfWaiting.desc).map (fun d => d.parameters.length) = some 2 := by decide +kernel
theorem zd_X3_followChoices : yX3_followChoices.cls ≠ "java/lang/invoke/MethodHandle" ∧ yX3_followChoices.cls ≠ "java/lang/invoke/VarHandle" ∧ (parseMethodDescriptor yX3_followChoices.desc).map (fun d => d.parameters.length) = some 1 := by decide +kernel
theorem zd_X3_nightOf : yX3_nightOf.cls ≠ "java/lang/invoke/MethodHandle" ∧ yX3_nightOf.cls ≠ "java/lang/invoke/VarHandle" ∧ (parseMethodDescriptor yX3_nightOf.desc).map (fun d => d.parameters.length) = some 1 := by decide +kernel
theorem zd_X3_plan : yX3_plan.cls ≠ "java/lang/invoke/MethodHandle" ∧ yX3_plan.cls ≠ "java/lang/invoke/VarHandle" ∧ (parseMethodDescriptor yX3_plan.desc).map (fun d => d.parameters.length) = some 1 := by decide +kernel
theorem zd_X3_setNightly : yX3_setNightly.cls ≠ "java/lang/invoke/MethodHandle" ∧ yX3_setNightly.cls ≠ "java/lang/invoke/VarHandle" ∧ (parseMethodDescriptor yX3_setNightly.desc).map (fun d => d.parameters.length) = some 1 := by decide +kernel
theorem zd_X3_setTerm : yX3_setTerm.cls ≠ "java/lang/invoke/MethodHandle" ∧ yX3_setTerm.cls ≠ "java/lang/invoke/VarHandle" ∧ (parseMethodDescriptor yX3_setTerm.desc).map (fun d => d.parameters.length) = some 3 := by decide +kernel
theorem zd_X3_takeOver : yX3_takeOver.cls ≠ "java/lang/invoke/MethodHandle" ∧ yX3_takeOver.cls ≠ "java/lang/invoke/VarHandle" ∧ (parseMethodDescriptor yX3_takeOver.desc).map (fun d => d.parameters.length) = some 1 := by decide +kernel
theorem zd_X4_addPanel : yX4_addPanel.cls ≠ "java/lang/invoke/MethodHandle" ∧ yX4_addPanel.cls ≠ "java/lang/invoke/VarHandle" ∧ (parseMethodDescriptor yX4_addPanel.desc).map (fun d => d.parameters.length) = some 3 := by decide +kernel
theorem zd_X4_addToBar : yX4_addToBar.cls ≠ "java/lang/invoke/MethodHandle" ∧ yX4_addToBar.cls ≠ "java/lang/invoke/VarHandle" ∧ (parseMethodDescriptor yX4_addToBar.desc).map (fun d => d.parameters.length) = some 5 := by decide +kernel
theorem zd_X4_addToLock : yX4_addToLock.cls ≠ "java/lang/invoke/MethodHandle" ∧ yX4_addToLock.cls ≠ "java/lang/invoke/VarHandle" ∧ (parseMethodDescriptor yX4_addToLock.desc).map (fun d => d.parameters.length) = some 4 := by decide +kernel
theorem zd_X4_barLoad : yX4_barLoad.cls ≠ "java/lang/invoke/MethodHandle" ∧ yX4_barLoad.cls ≠ "java/lang/invoke/VarHandle" ∧ (parseMethodDescriptor yX4_barLoad.desc).map (fun d => d.parameters.length) = some 2 := by decide +kernel
theorem zd_X4_borneBy : yX4_borneBy.cls ≠ "java/lang/invoke/MethodHandle" ∧ yX4_borneBy.cls ≠ "java/lang/invoke/VarHandle" ∧ (parseMethodDescriptor yX4_borneBy.desc).map (fun d => d.parameters.length) = some 1 := by decide +kernel
theorem zd_X4_fall : yX4_fall.cls ≠ "java/lang/invoke/MethodHandle" ∧ yX4_fall.cls ≠ "java/lang/invoke/VarHandle" ∧ (parseMethodDescriptor yX4_fall.desc).map (fun d => d.parameters.length) = some 1 := by decide +kernel
theorem zd_X4_fallWhileOver : yX4_fallWhileOver.cls ≠ "java/lang/invoke/MethodHandle" ∧ yX4_fallWhileOver.cls ≠ "java/lang/invoke/VarHandle" ∧ (parseMethodDescriptor yX4_fallWhileOver.desc).map (fun d => d.parameters.length) = some 0 := by decide +kernel
theorem zd_X4_firstOver : yX4_firstOver.cls ≠ "java/lang/invoke/MethodHandle" ∧ yX4_firstOver.cls ≠ "java/lang/invoke/VarHandle" ∧ (parseMethodDescriptor yX4_firstOver.desc).map (fun d => d.parameters.length) = some 0 := by decide +kernel
theorem zd_X4_hangingAt : yX4_hangingAt.cls ≠ "java/lang/invoke/MethodHandle" ∧ yX4_hangingAt.cls ≠ "java/lang/invoke/VarHandle" ∧ (parseMethodDescriptor yX4_hangingAt.desc).map (fun d => d.parameters.length) = some 2 := by decide +kernel
theorem zd_X4_hangingFrom : yX4_hangingFrom.cls ≠ "java/lang/invoke/MethodHandle" ∧ yX4_hangingFrom.cls ≠ "java/lang/invoke/VarHandle" ∧ (parseMethodDescriptor yX4_hangingFrom.desc).map (fun d => d.parameters.length) = some 1 := by decide +kernel
theorem zd_X4_hasLock : yX4_hasLock.cls ≠ "java/lang/invoke/MethodHandle" ∧ yX4_hasLock.cls ≠ "java/lang/invoke/VarHandle" ∧ (parseMethodDescriptor yX4_hasLock.desc).map (fun d => d.parameters.length) = some 1 := by decide +kernel
theorem zd_X4_hasPanel : yX4_hasPanel.cls ≠ "java/lang/invoke/MethodHandle" ∧ yX4_hasPanel.cls ≠ "java/lang/invoke/VarHandle" ∧ (parseMethodDescriptor yX4_hasPanel.desc).map (fun d => d.parameters.length) = some 1 := by decide +kernel
theorem zd_X4_isGone : yX4_isGone.cls ≠ "java/lang/invoke/MethodHandle" ∧ yX4_isGone.cls ≠ "java/lang/invoke/VarHandle" ∧ (parseMethodDescriptor yX4_isGone.desc).map (fun d => d.parameters.length) = some 1 := by decide +kernel
theorem zd_X4_isOver : yX4_isOver.cls ≠ "java/lang/invoke/MethodHandle" ∧ yX4_isOver.cls ≠ "java/lang/invoke/VarHandle" ∧ (parseMethodDescriptor yX4_isOver.desc).map (fun d => d.parameters.length) = some 1 := by decide +kernel
theorem zd_X4_loadOf : yX4_loadOf.cls ≠ "java/lang/invoke/MethodHandle" ∧ yX4_loadOf.cls ≠ "java/lang/invoke/VarHandle" ∧ (parseMethodDescriptor yX4_loadOf.desc).map (fun d => d.parameters.length) = some 2 := by decide +kernel
theorem zd_X4_panelLoad : yX4_panelLoad.cls ≠ "java/lang/invoke/MethodHandle" ∧ yX4_panelLoad.cls ≠ "java/lang/invoke/VarHandle" ∧ (parseMethodDescriptor yX4_panelLoad.desc).map (fun d => d.parameters.length) = some 1 := by decide +kernel
theorem zd_X4_sagOf : yX4_sagOf.cls ≠ "java/lang/invoke/MethodHandle" ∧ yX4_sagOf.cls ≠ "java/lang/invoke/VarHandle" ∧ (parseMethodDescriptor yX4_sagOf.desc).map (fun d => d.parameters.length) = some 1 := by decide +kernel
theorem zd_X4_takeOver : yX4_takeOver.cls ≠ "java/lang/invoke/MethodHandle" ∧ yX4_takeOver.cls ≠ "java/lang/invoke/VarHandle" ∧ (parseMethodDescriptor yX4_takeOver.desc).map (fun d => d.parameters.length) = some 1 := by decide +kernel
theorem zd_X4_tell : yX4_tell.cls ≠ "java/lang/invoke/MethodHandle" ∧ yX4_tell.cls ≠ "java/lang/invoke/VarHandle" ∧ (parseMethodDescriptor yX4_tell.desc).map (fun d => d.parameters.length) = some 2 := by decide +kernel
theorem zd_X4_weightOf : yX4_weightOf.cls ≠ "java/lang/invoke/MethodHandle" ∧ yX4_weightOf.cls ≠ "java/lang/invoke/VarHandle" ∧ (parseMethodDescriptor yX4_weightOf.desc).map (fun d => d.parameters.length) = some 1 := by decide +kernel
theorem zd_X4_withAllOn : yX4_withAllOn.cls ≠ "java/lang/invoke/MethodHandle" ∧ yX4_withAllOn.cls ≠ "java/lang/invoke/VarHandle" ∧ (parseMethodDescriptor yX4_withAllOn.desc).map (fun d => d.parameters.length) = some 1 := by decide +kernel
theorem zd_X5_findWays : yX5_findWays.cls ≠ "java/lang/invoke/MethodHandle" ∧ yX5_findWays.cls ≠ "java/lang/invoke/VarHandle" ∧ (parseMethodDescriptor yX5_findWays.desc).map (fun d => d.parameters.length) = some 2 := by decide +kernel
theorem zd_X5_keepPairs : yX5_keepPairs.cls ≠ "java/lang/invoke/MethodHandle" ∧ yX5_keepPairs.cls ≠ "java/lang/invoke/VarHandle" ∧ (parseMethodDescriptor yX5_keepPairs.desc).map (fun d => d.parameters.length) = some 1 := by decide +kernel
theorem zd_X5_locksOf : yX5_locksOf.cls ≠ "java/lang/invoke/MethodHandle" ∧ yX5_locksOf.cls ≠ "java/lang/invoke/VarHandle" ∧ (parseMethodDescriptor yX5_locksOf.desc).map (fun d => d.parameters.length) = some 2 := by decide +kernel
theorem zd_X5_locksOfYear : yX5_locksOfYear.cls ≠ "java/lang/invoke/MethodHandle" ∧ yX5_locksOfYear.cls ≠ "java/lang/invoke/VarHandle" ∧ (parseMethodDescriptor yX5_locksOfYear.desc).map (fun d => d.parameters.length) = some 2 := by decide +kernel
theorem zd_X5_peopleOn : yX5_peopleOn.cls ≠ "java/lang/invoke/MethodHandle" ∧ yX5_peopleOn.cls ≠ "java/lang/invoke/VarHandle" ∧ (parseMethodDescriptor yX5_peopleOn.desc).map (fun d => d.parameters.length) = some 2 := by decide +kernel
theorem zd_X5_waysToRead : yX5_waysToRead.cls ≠ "java/lang/invoke/MethodHandle" ∧ yX5_waysToRead.cls ≠ "java/lang/invoke/VarHandle" ∧ (parseMethodDescriptor yX5_waysToRead.desc).map (fun d => d.parameters.length) = some 5 := by decide +kernel
theorem zd_X6_answer : yX6_answer.cls ≠ "java/lang/invoke/MethodHandle" ∧ yX6_answer.cls ≠ "java/lang/invoke/VarHandle" ∧ (parseMethodDescriptor yX6_answer.desc).map (fun d => d.parameters.length) = some 3 := by decide +kernel
theorem zd_X6_areApart : yX6_areApart.cls ≠ "java/lang/invoke/MethodHandle" ∧ yX6_areApart.cls ≠ "java/lang/invoke/VarHandle" ∧ (parseMethodDescriptor yX6_areApart.desc).map (fun d => d.parameters.length) = some 1 := by decide +kernel
theorem zd_X6_areEnough : yX6_areEnough.cls ≠ "java/lang/invoke/MethodHandle" ∧ yX6_areEnough.cls ≠ "java/lang/invoke/VarHandle" ∧ (parseMethodDescriptor yX6_areEnough.desc).map (fun d => d.parameters.length) = some 3 := by decide +kernel
theorem zd_X6_learn : yX6_learn.cls ≠ "java/lang/invoke/MethodHandle" ∧ yX6_learn.cls ≠ "java/lang/invoke/VarHandle" ∧ (parseMethodDescriptor yX6_learn.desc).map (fun d => d.parameters.length) = some 1 := by decide +kernel
theorem zd_X6_questionsFor : yX6_questionsFor.cls ≠ "java/lang/invoke/MethodHandle" ∧ yX6_questionsFor.cls ≠ "java/lang/invoke/VarHandle" ∧ (parseMethodDescriptor yX6_questionsFor.desc).map (fun d => d.parameters.length) = some 1 := by decide +kernel
theorem zd_X8_takeOver : yX8_takeOver.cls ≠ "java/lang/invoke/MethodHandle" ∧ yX8_takeOver.cls ≠ "java/lang/invoke/VarHandle" ∧ (parseMethodDescriptor yX8_takeOver.desc).map (fun d => d.parameters.length) = some 1 := by decide +kernel
theorem zd_X9_takeOver : yX9_takeOver.cls ≠ "java/lang/invoke/MethodHandle" ∧ yX9_takeOver.cls ≠ "java/lang/invoke/VarHandle" ∧ (parseMethodDescriptor yX9_takeOver.desc).map (fun d => d.parameters.length) = some 1 := by decide +kernel
theorem z_tout2 {x : Int32} (h0 : ¬ x = 0) (h1 : ¬ x = 1) (h2 : ¬ x = 2) : x.toInt < 0 ∨ 2 < x.toInt := by
  have e : ∀ z : Int32, ¬ x = z → x.toInt ≠ z.toInt := fun z h q => h (Int32.toInt_inj.mp q)
  have g0 : x.toInt ≠ 0 := e 0 h0
  have g1 : x.toInt ≠ 1 := e 1 h1
  have g2 : x.toInt ≠ 2 := e 2 h2
  omega
theorem z_tout4 {x : Int32} (h0 : ¬ x = 0) (h1 : ¬ x = 1) (h2 : ¬ x = 2) (h3 : ¬ x = 3) (h4 : ¬ x = 4) : x.toInt < 0 ∨ 4 < x.toInt := by
  have e : ∀ z : Int32, ¬ x = z → x.toInt ≠ z.toInt := fun z h q => h (Int32.toInt_inj.mp q)
  have g0 : x.toInt ≠ 0 := e 0 h0
  have g1 : x.toInt ≠ 1 := e 1 h1
  have g2 : x.toInt ≠ 2 := e 2 h2
  have g3 : x.toInt ≠ 3 := e 3 h3
  have g4 : x.toInt ≠ 4 := e 4 h4
  omega
theorem z_tout5 {x : Int32} (h0 : ¬ x = 0) (h1 : ¬ x = 1) (h2 : ¬ x = 2) (h3 : ¬ x = 3) (h4 : ¬ x = 4) (h5 : ¬ x = 5) : x.toInt < 0 ∨ 5 < x.toInt := by
  have e : ∀ z : Int32, ¬ x = z → x.toInt ≠ z.toInt := fun z h q => h (Int32.toInt_inj.mp q)
  have g0 : x.toInt ≠ 0 := e 0 h0
  have g1 : x.toInt ≠ 1 := e 1 h1
  have g2 : x.toInt ≠ 2 := e 2 h2
  have g3 : x.toInt ≠ 3 := e 3 h3
  have g4 : x.toInt ≠ 4 := e 4 h4
  have g5 : x.toInt ≠ 5 := e 5 h5
  omega
theorem z_tout7 {x : Int32} (h0 : ¬ x = 0) (h1 : ¬ x = 1) (h2 : ¬ x = 2) (h3 : ¬ x = 3) (h4 : ¬ x = 4) (h5 : ¬ x = 5) (h6 : ¬ x = 6) (h7 : ¬ x = 7) : x.toInt < 0 ∨ 7 < x.toInt := by
  have e : ∀ z : Int32, ¬ x = z → x.toInt ≠ z.toInt := fun z h q => h (Int32.toInt_inj.mp q)
  have g0 : x.toInt ≠ 0 := e 0 h0
  have g1 : x.toInt ≠ 1 := e 1 h1
  have g2 : x.toInt ≠ 2 := e 2 h2
  have g3 : x.toInt ≠ 3 := e 3 h3
  have g4 : x.toInt ≠ 4 := e 4 h4
  have g5 : x.toInt ≠ 5 := e 5 h5
  have g6 : x.toInt ≠ 6 := e 6 h6
  have g7 : x.toInt ≠ 7 := e 7 h7
  omega
