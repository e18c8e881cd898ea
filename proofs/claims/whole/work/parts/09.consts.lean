theorem zcb_m20 : (Int8.ofInt (-20)).toInt32 = ((-20 : Int32)) := by decide
theorem zcb_m14 : (Int8.ofInt (-14)).toInt32 = ((-14 : Int32)) := by decide
theorem zcb_m13 : (Int8.ofInt (-13)).toInt32 = ((-13 : Int32)) := by decide
theorem zcb_m12 : (Int8.ofInt (-12)).toInt32 = ((-12 : Int32)) := by decide
theorem zcb_m11 : (Int8.ofInt (-11)).toInt32 = ((-11 : Int32)) := by decide
theorem zcb_m4 : (Int8.ofInt (-4)).toInt32 = ((-4 : Int32)) := by decide
theorem zcb_m3 : (Int8.ofInt (-3)).toInt32 = ((-3 : Int32)) := by decide
theorem zcb_m2 : (Int8.ofInt (-2)).toInt32 = ((-2 : Int32)) := by decide
theorem zcb_6 : (Int8.ofInt (6)).toInt32 = ((6 : Int32)) := by decide
theorem zcb_8 : (Int8.ofInt (8)).toInt32 = ((8 : Int32)) := by decide
theorem zcb_9 : (Int8.ofInt (9)).toInt32 = ((9 : Int32)) := by decide
theorem zcb_10 : (Int8.ofInt (10)).toInt32 = ((10 : Int32)) := by decide
theorem zcb_11 : (Int8.ofInt (11)).toInt32 = ((11 : Int32)) := by decide
theorem zcb_12 : (Int8.ofInt (12)).toInt32 = ((12 : Int32)) := by decide
theorem zcb_14 : (Int8.ofInt (14)).toInt32 = ((14 : Int32)) := by decide
theorem zcb_16 : (Int8.ofInt (16)).toInt32 = ((16 : Int32)) := by decide
theorem zcb_19 : (Int8.ofInt (19)).toInt32 = ((19 : Int32)) := by decide
theorem zcb_20 : (Int8.ofInt (20)).toInt32 = ((20 : Int32)) := by decide
theorem zcb_24 : (Int8.ofInt (24)).toInt32 = ((24 : Int32)) := by decide
theorem zcb_26 : (Int8.ofInt (26)).toInt32 = ((26 : Int32)) := by decide
theorem zcb_28 : (Int8.ofInt (28)).toInt32 = ((28 : Int32)) := by decide
theorem zcb_30 : (Int8.ofInt (30)).toInt32 = ((30 : Int32)) := by decide
theorem zcb_32 : (Int8.ofInt (32)).toInt32 = ((32 : Int32)) := by decide
theorem zcb_40 : (Int8.ofInt (40)).toInt32 = ((40 : Int32)) := by decide
theorem zcb_43 : (Int8.ofInt (43)).toInt32 = ((43 : Int32)) := by decide
theorem zcb_48 : (Int8.ofInt (48)).toInt32 = ((48 : Int32)) := by decide
theorem zcb_63 : (Int8.ofInt (63)).toInt32 = ((63 : Int32)) := by decide
theorem zcb_64 : (Int8.ofInt (64)).toInt32 = ((64 : Int32)) := by decide
theorem zcb_65 : (Int8.ofInt (65)).toInt32 = ((65 : Int32)) := by decide
theorem zcb_90 : (Int8.ofInt (90)).toInt32 = ((90 : Int32)) := by decide
theorem zcb_99 : (Int8.ofInt (99)).toInt32 = ((99 : Int32)) := by decide
theorem zcb_100 : (Int8.ofInt (100)).toInt32 = ((100 : Int32)) := by decide
theorem zci_m1 : Int32.ofInt (-1) = ((-1 : Int32)) := by decide
theorem zci_0 : Int32.ofInt (0) = ((0 : Int32)) := by decide
theorem zci_1 : Int32.ofInt (1) = ((1 : Int32)) := by decide
theorem zci_2 : Int32.ofInt (2) = ((2 : Int32)) := by decide
theorem zci_3 : Int32.ofInt (3) = ((3 : Int32)) := by decide
theorem zci_4 : Int32.ofInt (4) = ((4 : Int32)) := by decide
theorem zci_5 : Int32.ofInt (5) = ((5 : Int32)) := by decide
theorem zci_6 : Int32.ofInt (6) = ((6 : Int32)) := by decide
theorem zci_8 : Int32.ofInt (8) = ((8 : Int32)) := by decide
theorem zci_16 : Int32.ofInt (16) = ((16 : Int32)) := by decide
theorem zcl_0 : Int64.ofNat ((0 : Fin 2) : Nat) = ((0 : Int64)) := by decide
theorem zcl_1 : Int64.ofNat ((1 : Fin 2) : Nat) = ((1 : Int64)) := by decide
theorem zcs_200 : (Int16.ofInt (200)).toInt32 = ((200 : Int32)) := by decide
theorem zcs_209 : (Int16.ofInt (209)).toInt32 = ((209 : Int32)) := by decide
theorem zcs_210 : (Int16.ofInt (210)).toInt32 = ((210 : Int32)) := by decide
theorem zcs_256 : (Int16.ofInt (256)).toInt32 = ((256 : Int32)) := by decide
theorem zcs_999 : (Int16.ofInt (999)).toInt32 = ((999 : Int32)) := by decide
theorem zcs_9999 : (Int16.ofInt (9999)).toInt32 = ((9999 : Int32)) := by decide
theorem zcs_10000 : (Int16.ofInt (10000)).toInt32 = ((10000 : Int32)) := by decide
theorem zd_J6_bitCount_0f7a4 : yJ6_bitCount_0f7a4.cls ≠ "java/lang/invoke/MethodHandle" ∧ yJ6_bitCount_0f7a4.cls ≠ "java/lang/invoke/VarHandle" ∧ (parseMethodDescriptor yJ6_bitCount_0f7a4.desc).map (fun d => d.parameters.length) = some 1 := by decide +kernel
theorem zd_J6_numberOfTrailingZeros_0f7a4 : yJ6_numberOfTrailingZeros_0f7a4.cls ≠ "java/lang/invoke/MethodHandle" ∧ yJ6_numberOfTrailingZeros_0f7a4.cls ≠ "java/lang/invoke/VarHandle" ∧ (parseMethodDescriptor yJ6_numberOfTrailingZeros_0f7a4.desc).map (fun d => d.parameters.length) = some 1 := by decide +kernel
theorem zd_J7_fill_53178 : yJ7_fill_53178.cls ≠ "java/lang/invoke/MethodHandle" ∧ yJ7_fill_53178.cls ≠ "java/lang/invoke/VarHandle" ∧ (parseMethodDescriptor yJ7_fill_53178.desc).map (fun d => d.parameters.length) = some 2 := by decide +kernel
theorem zd_X0_farthest : yX0_farthest.cls ≠ "java/lang/invoke/MethodHandle" ∧ yX0_farthest.cls ≠ "java/lang/invoke/VarHandle" ∧ (parseMethodDescriptor yX0_farthest.desc).map (fun d => d.parameters.length) = some 2 := by decide +kernel
theorem zd_X0_fits : yX0_fits.cls ≠ "java/lang/invoke/MethodHandle" ∧ yX0_fits.cls ≠ "java/lang/invoke/VarHandle" ∧ (parseMethodDescriptor yX0_fits.desc).map (fun d => d.parameters.length) = some 2 := by decide +kernel
theorem zd_X0_grow : yX0_grow.cls ≠ "java/lang/invoke/MethodHandle" ∧ yX0_grow.cls ≠ "java/lang/invoke/VarHandle" ∧ (parseMethodDescriptor yX0_grow.desc).map (fun d => d.parameters.length) = some 4 := by decide +kernel
theorem zd_X0_isCount : yX0_isCount.cls ≠ "java/lang/invoke/MethodHandle" ∧ yX0_isCount.cls ≠ "java/lang/invoke/VarHandle" ∧ (parseMethodDescriptor yX0_isCount.desc).map (fun d => d.parameters.length) = some 2 := by decide +kernel
theorem zd_X0_lawsThatFit : yX0_lawsThatFit.cls ≠ "java/lang/invoke/MethodHandle" ∧ yX0_lawsThatFit.cls ≠ "java/lang/invoke/VarHandle" ∧ (parseMethodDescriptor yX0_lawsThatFit.desc).map (fun d => d.parameters.length) = some 1 := by decide +kernel
theorem zd_X0_leastTo : yX0_leastTo.cls ≠ "java/lang/invoke/MethodHandle" ∧ yX0_leastTo.cls ≠ "java/lang/invoke/VarHandle" ∧ (parseMethodDescriptor yX0_leastTo.desc).map (fun d => d.parameters.length) = some 3 := by decide +kernel
theorem zd_X0_mostTo : yX0_mostTo.cls ≠ "java/lang/invoke/MethodHandle" ∧ yX0_mostTo.cls ≠ "java/lang/invoke/VarHandle" ∧ (parseMethodDescriptor yX0_mostTo.desc).map (fun d => d.parameters.length) = some 3 := by decide +kernel
theorem zd_X0_put : yX0_put.cls ≠ "java/lang/invoke/MethodHandle" ∧ yX0_put.cls ≠ "java/lang/invoke/VarHandle" ∧ (parseMethodDescriptor yX0_put.desc).map (fun d => d.parameters.length) = some 3 := by decide +kernel
theorem zd_X0_takeOver : yX0_takeOver.cls ≠ "java/lang/invoke/MethodHandle" ∧ yX0_takeOver.cls ≠ "java/lang/invoke/VarHandle" ∧ (parseMethodDescriptor yX0_takeOver.desc).map (fun d => d.parameters.length) = some 1 := by decide +kernel
theorem zd_X10_add : yX10_add.cls ≠ "java/lang/invoke/MethodHandle" ∧ yX10_add.cls ≠ "java/lang/invoke/VarHandle" ∧ (parseMethodDescriptor yX10_add.desc).map (fun d => d.parameters.length) = some 2 := by decide +kernel
theorem zd_X10_isLetter : yX10_isLetter.cls ≠ "java/lang/invoke/MethodHandle" ∧ yX10_isLetter.cls ≠ "java/lang/invoke/VarHandle" ∧ (parseMethodDescriptor yX10_isLetter.desc).map (fun d => d.parameters.length) = some 2 := by decide +kernel
theorem zd_X10_isSign : yX10_isSign.cls ≠ "java/lang/invoke/MethodHandle" ∧ yX10_isSign.cls ≠ "java/lang/invoke/VarHandle" ∧ (parseMethodDescriptor yX10_isSign.desc).map (fun d => d.parameters.length) = some 1 := by decide +kernel
theorem zd_X10_read : yX10_read.cls ≠ "java/lang/invoke/MethodHandle" ∧ yX10_read.cls ≠ "java/lang/invoke/VarHandle" ∧ (parseMethodDescriptor yX10_read.desc).map (fun d => d.parameters.length) = some 1 := by decide +kernel
theorem zd_X10_readName : yX10_readName.cls ≠ "java/lang/invoke/MethodHandle" ∧ yX10_readName.cls ≠ "java/lang/invoke/VarHandle" ∧ (parseMethodDescriptor yX10_readName.desc).map (fun d => d.parameters.length) = some 0 := by decide +kernel
theorem zd_X10_readPair : yX10_readPair.cls ≠ "java/lang/invoke/MethodHandle" ∧ yX10_readPair.cls ≠ "java/lang/invoke/VarHandle" ∧ (parseMethodDescriptor yX10_readPair.desc).map (fun d => d.parameters.length) = some 0 := by decide +kernel
theorem zd_X11_ask : yX11_ask.cls ≠ "java/lang/invoke/MethodHandle" ∧ yX11_ask.cls ≠ "java/lang/invoke/VarHandle" ∧ (parseMethodDescriptor yX11_ask.desc).map (fun d => d.parameters.length) = some 2 := by decide +kernel
theorem zd_X11_copy : yX11_copy.cls ≠ "java/lang/invoke/MethodHandle" ∧ yX11_copy.cls ≠ "java/lang/invoke/VarHandle" ∧ (parseMethodDescriptor yX11_copy.desc).map (fun d => d.parameters.length) = some 5 := by decide +kernel
theorem zd_X11_count : yX11_count.cls ≠ "java/lang/invoke/MethodHandle" ∧ yX11_count.cls ≠ "java/lang/invoke/VarHandle" ∧ (parseMethodDescriptor yX11_count.desc).map (fun d => d.parameters.length) = some 1 := by decide +kernel
theorem zd_X11_cut : yX11_cut.cls ≠ "java/lang/invoke/MethodHandle" ∧ yX11_cut.cls ≠ "java/lang/invoke/VarHandle" ∧ (parseMethodDescriptor yX11_cut.desc).map (fun d => d.parameters.length) = some 1 := by decide +kernel
theorem zd_X11_drop : yX11_drop.cls ≠ "java/lang/invoke/MethodHandle" ∧ yX11_drop.cls ≠ "java/lang/invoke/VarHandle" ∧ (parseMethodDescriptor yX11_drop.desc).map (fun d => d.parameters.length) = some 1 := by decide +kernel
theorem zd_X11_giveWay : yX11_giveWay.cls ≠ "java/lang/invoke/MethodHandle" ∧ yX11_giveWay.cls ≠ "java/lang/invoke/VarHandle" ∧ (parseMethodDescriptor yX11_giveWay.desc).map (fun d => d.parameters.length) = some 0 := by decide +kernel
theorem zd_X11_grown : yX11_grown.cls ≠ "java/lang/invoke/MethodHandle" ∧ yX11_grown.cls ≠ "java/lang/invoke/VarHandle" ∧ (parseMethodDescriptor yX11_grown.desc).map (fun d => d.parameters.length) = some 2 := by decide +kernel
theorem zd_X11_hang : yX11_hang.cls ≠ "java/lang/invoke/MethodHandle" ∧ yX11_hang.cls ≠ "java/lang/invoke/VarHandle" ∧ (parseMethodDescriptor yX11_hang.desc).map (fun d => d.parameters.length) = some 5 := by decide +kernel
theorem zd_X11_hangOn : yX11_hangOn.cls ≠ "java/lang/invoke/MethodHandle" ∧ yX11_hangOn.cls ≠ "java/lang/invoke/VarHandle" ∧ (parseMethodDescriptor yX11_hangOn.desc).map (fun d => d.parameters.length) = some 4 := by decide +kernel
theorem zd_X11_image : yX11_image.cls ≠ "java/lang/invoke/MethodHandle" ∧ yX11_image.cls ≠ "java/lang/invoke/VarHandle" ∧ (parseMethodDescriptor yX11_image.desc).map (fun d => d.parameters.length) = some 0 := by decide +kernel
theorem zd_X11_isBar : yX11_isBar.cls ≠ "java/lang/invoke/MethodHandle" ∧ yX11_isBar.cls ≠ "java/lang/invoke/VarHandle" ∧ (parseMethodDescriptor yX11_isBar.desc).map (fun d => d.parameters.length) = some 2 := by decide +kernel
theorem zd_X11_isLane : yX11_isLane.cls ≠ "java/lang/invoke/MethodHandle" ∧ yX11_isLane.cls ≠ "java/lang/invoke/VarHandle" ∧ (parseMethodDescriptor yX11_isLane.desc).map (fun d => d.parameters.length) = some 1 := by decide +kernel
theorem zd_X11_isLock : yX11_isLock.cls ≠ "java/lang/invoke/MethodHandle" ∧ yX11_isLock.cls ≠ "java/lang/invoke/VarHandle" ∧ (parseMethodDescriptor yX11_isLock.desc).map (fun d => d.parameters.length) = some 3 := by decide +kernel
theorem zd_X11_isSheet : yX11_isSheet.cls ≠ "java/lang/invoke/MethodHandle" ∧ yX11_isSheet.cls ≠ "java/lang/invoke/VarHandle" ∧ (parseMethodDescriptor yX11_isSheet.desc).map (fun d => d.parameters.length) = some 1 := by decide +kernel
theorem zd_X11_isSought : yX11_isSought.cls ≠ "java/lang/invoke/MethodHandle" ∧ yX11_isSought.cls ≠ "java/lang/invoke/VarHandle" ∧ (parseMethodDescriptor yX11_isSought.desc).map (fun d => d.parameters.length) = some 1 := by decide +kernel
theorem zd_X11_item : yX11_item.cls ≠ "java/lang/invoke/MethodHandle" ∧ yX11_item.cls ≠ "java/lang/invoke/VarHandle" ∧ (parseMethodDescriptor yX11_item.desc).map (fun d => d.parameters.length) = some 4 := by decide +kernel
theorem zd_X11_laws : yX11_laws.cls ≠ "java/lang/invoke/MethodHandle" ∧ yX11_laws.cls ≠ "java/lang/invoke/VarHandle" ∧ (parseMethodDescriptor yX11_laws.desc).map (fun d => d.parameters.length) = some 1 := by decide +kernel
theorem zd_X11_letters : yX11_letters.cls ≠ "java/lang/invoke/MethodHandle" ∧ yX11_letters.cls ≠ "java/lang/invoke/VarHandle" ∧ (parseMethodDescriptor yX11_letters.desc).map (fun d => d.parameters.length) = some 1 := by decide +kernel
theorem zd_X11_load : yX11_load.cls ≠ "java/lang/invoke/MethodHandle" ∧ yX11_load.cls ≠ "java/lang/invoke/VarHandle" ∧ (parseMethodDescriptor yX11_load.desc).map (fun d => d.parameters.length) = some 2 := by decide +kernel
theorem zd_X11_month : yX11_month.cls ≠ "java/lang/invoke/MethodHandle" ∧ yX11_month.cls ≠ "java/lang/invoke/VarHandle" ∧ (parseMethodDescriptor yX11_month.desc).map (fun d => d.parameters.length) = some 3 := by decide +kernel
theorem zd_X11_months : yX11_months.cls ≠ "java/lang/invoke/MethodHandle" ∧ yX11_months.cls ≠ "java/lang/invoke/VarHandle" ∧ (parseMethodDescriptor yX11_months.desc).map (fun d => d.parameters.length) = some 4 := by decide +kernel
theorem zd_X11_needed : yX11_needed.cls ≠ "java/lang/invoke/MethodHandle" ∧ yX11_needed.cls ≠ "java/lang/invoke/VarHandle" ∧ (parseMethodDescriptor yX11_needed.desc).map (fun d => d.parameters.length) = some 1 := by decide +kernel
theorem zd_X11_nightly : yX11_nightly.cls ≠ "java/lang/invoke/MethodHandle" ∧ yX11_nightly.cls ≠ "java/lang/invoke/VarHandle" ∧ (parseMethodDescriptor yX11_nightly.desc).map (fun d => d.parameters.length) = some 1 := by decide +kernel
theorem zd_X11_on : yX11_on.cls ≠ "java/lang/invoke/MethodHandle" ∧ yX11_on.cls ≠ "java/lang/invoke/VarHandle" ∧ (parseMethodDescriptor yX11_on.desc).map (fun d => d.parameters.length) = some 2 := by decide +kernel
theorem zd_X11_order : yX11_order.cls ≠ "java/lang/invoke/MethodHandle" ∧ yX11_order.cls ≠ "java/lang/invoke/VarHandle" ∧ (parseMethodDescriptor yX11_order.desc).map (fun d => d.parameters.length) = some 1 := by decide +kernel
theorem zd_X11_over : yX11_over.cls ≠ "java/lang/invoke/MethodHandle" ∧ yX11_over.cls ≠ "java/lang/invoke/VarHandle" ∧ (parseMethodDescriptor yX11_over.desc).map (fun d => d.parameters.length) = some 0 := by decide +kernel
theorem zd_X11_panel : yX11_panel.cls ≠ "java/lang/invoke/MethodHandle" ∧ yX11_panel.cls ≠ "java/lang/invoke/VarHandle" ∧ (parseMethodDescriptor yX11_panel.desc).map (fun d => d.parameters.length) = some 3 := by decide +kernel
theorem zd_X11_person : yX11_person.cls ≠ "java/lang/invoke/MethodHandle" ∧ yX11_person.cls ≠ "java/lang/invoke/VarHandle" ∧ (parseMethodDescriptor yX11_person.desc).map (fun d => d.parameters.length) = some 0 := by decide +kernel
theorem zd_X11_photo : yX11_photo.cls ≠ "java/lang/invoke/MethodHandle" ∧ yX11_photo.cls ≠ "java/lang/invoke/VarHandle" ∧ (parseMethodDescriptor yX11_photo.desc).map (fun d => d.parameters.length) = some 3 := by decide +kernel
theorem zd_X11_readings : yX11_readings.cls ≠ "java/lang/invoke/MethodHandle" ∧ yX11_readings.cls ≠ "java/lang/invoke/VarHandle" ∧ (parseMethodDescriptor yX11_readings.desc).map (fun d => d.parameters.length) = some 1 := by decide +kernel
theorem zd_X11_restore : yX11_restore.cls ≠ "java/lang/invoke/MethodHandle" ∧ yX11_restore.cls ≠ "java/lang/invoke/VarHandle" ∧ (parseMethodDescriptor yX11_restore.desc).map (fun d => d.parameters.length) = some 0 := by decide +kernel
theorem zd_X11_risk : yX11_risk.cls ≠ "java/lang/invoke/MethodHandle" ∧ yX11_risk.cls ≠ "java/lang/invoke/VarHandle" ∧ (parseMethodDescriptor yX11_risk.desc).map (fun d => d.parameters.length) = some 3 := by decide +kernel
theorem zd_X11_safe : yX11_safe.cls ≠ "java/lang/invoke/MethodHandle" ∧ yX11_safe.cls ≠ "java/lang/invoke/VarHandle" ∧ (parseMethodDescriptor yX11_safe.desc).map (fun d => d.parameters.length) = some 2 := by decide +kernel
theorem zd_X11_sheet : yX11_sheet.cls ≠ "java/lang/invoke/MethodHandle" ∧ yX11_sheet.cls ≠ "java/lang/invoke/VarHandle" ∧ (parseMethodDescriptor yX11_sheet.desc).map (fun d => d.parameters.length) = some 3 := by decide +kernel
theorem zd_X11_span : yX11_span.cls ≠ "java/lang/invoke/MethodHandle" ∧ yX11_span.cls ≠ "java/lang/invoke/VarHandle" ∧ (parseMethodDescriptor yX11_span.desc).map (fun d => d.parameters.length) = some 2 := by decide +kernel
theorem zd_X11_stolen : yX11_stolen.cls ≠ "java/lang/invoke/MethodHandle" ∧ yX11_stolen.cls ≠ "java/lang/invoke/VarHandle" ∧ (parseMethodDescriptor yX11_stolen.desc).map (fun d => d.parameters.length) = some 4 := by decide +kernel
theorem zd_X11_told : yX11_told.cls ≠ "java/lang/invoke/MethodHandle" ∧ yX11_told.cls ≠ "java/lang/invoke/VarHandle" ∧ (parseMethodDescriptor yX11_told.desc).map (fun d => d.parameters.length) = some 2 := by decide +kernel
theorem zd_X11_truck : yX11_truck.cls ≠ "java/lang/invoke/MethodHandle" ∧ yX11_truck.cls ≠ "java/lang/invoke/VarHandle" ∧ (parseMethodDescriptor yX11_truck.desc).map (fun d => d.parameters.length) = some 5 := by decide +kernel
theorem zd_X11_type : yX11_type.cls ≠ "java/lang/invoke/MethodHandle" ∧ yX11_type.cls ≠ "java/lang/invoke/VarHandle" ∧ (parseMethodDescriptor yX11_type.desc).map (fun d => d.parameters.length) = some 2 := by decide +kernel
theorem zd_X11_ways : yX11_ways.cls ≠ "java/lang/invoke/MethodHandle" ∧ yX11_ways.cls ≠ "java/lang/invoke/VarHandle" ∧ (parseMethodDescriptor yX11_ways.desc).map (fun d => d.parameters.length) = some 0 := by decide +kernel
theorem zd_X11_where : yX11_where.cls ≠ "java/lang/invoke/MethodHandle" ∧ yX11_where.cls ≠ "java/lang/invoke/VarHandle" ∧ (parseMethodDescriptor yX11_where.desc).map (fun d => d.parameters.length) = some 2 := by decide +kernel
theorem zd_X11_who : yX11_who.cls ≠ "java/lang/invoke/MethodHandle" ∧ yX11_who.cls ≠ "java/lang/invoke/VarHandle" ∧ (parseMethodDescriptor yX11_who.desc).map (fun d => d.parameters.length) = some 2 := by decide +kernel
theorem zd_X11_within : yX11_within.cls ≠ "java/lang/invoke/MethodHandle" ∧ yX11_within.cls ≠ "java/lang/invoke/VarHandle" ∧ (parseMethodDescriptor yX11_within.desc).map (fun d => d.parameters.length) = some 3 := by decide +kernel
theorem zd_X12_ask : yX12_ask.cls ≠ "java/lang/invoke/MethodHandle" ∧ yX12_ask.cls ≠ "java/lang/invoke/VarHandle" ∧ (parseMethodDescriptor yX12_ask.desc).map (fun d => d.parameters.length) = some 2 := by decide +kernel
theorem zd_X12_bears : yX12_bears.cls ≠ "java/lang/invoke/MethodHandle" ∧ yX12_bears.cls ≠ "java/lang/invoke/VarHandle" ∧ (parseMethodDescriptor yX12_bears.desc).map (fun d => d.parameters.length) = some 1 := by decide +kernel
theorem zd_X12_comes : yX12_comes.cls ≠ "java/lang/invoke/MethodHandle" ∧ yX12_comes.cls ≠ "java/lang/invoke/VarHandle" ∧ (parseMethodDescriptor yX12_comes.desc).map (fun d => d.parameters.length) = some 6 := by decide +kernel
theorem zd_X12_copy : yX12_copy.cls ≠ "java/lang/invoke/MethodHandle" ∧ yX12_copy.cls ≠ "java/lang/invoke/VarHandle" ∧ (parseMethodDescriptor yX12_copy.desc).map (fun d => d.parameters.length) = some 5 := by decide +kernel
theorem zd_X12_costs : yX12_costs.cls ≠ "java/lang/invoke/MethodHandle" ∧ yX12_costs.cls ≠ "java/lang/invoke/VarHandle" ∧ (parseMethodDescriptor yX12_costs.desc).map (fun d => d.parameters.length) = some 2 := by decide +kernel
theorem zd_X12_count : yX12_count.cls ≠ "java/lang/invoke/MethodHandle" ∧ yX12_count.cls ≠ "java/lang/invoke/VarHandle" ∧ (parseMethodDescriptor yX12_count.desc).map (fun d => d.parameters.length) = some 1 := by decide +kernel
theorem zd_X12_cut : yX12_cut.cls ≠ "java/lang/invoke/MethodHandle" ∧ yX12_cut.cls ≠ "java/lang/invoke/VarHandle" ∧ (parseMethodDescriptor yX12_cut.desc).map (fun d => d.parameters.length) = some 1 := by decide +kernel
theorem zd_X12_drop : yX12_drop.cls ≠ "java/lang/invoke/MethodHandle" ∧ yX12_drop.cls ≠ "java/lang/invoke/VarHandle" ∧ (parseMethodDescriptor yX12_drop.desc).map (fun d => d.parameters.length) = some 1 := by decide +kernel
theorem zd_X12_falls : yX12_falls.cls ≠ "java/lang/invoke/MethodHandle" ∧ yX12_falls.cls ≠ "java/lang/invoke/VarHandle" ∧ (parseMethodDescriptor yX12_falls.desc).map (fun d => d.parameters.length) = some 1 := by decide +kernel
theorem zd_X12_finds : yX12_finds.cls ≠ "java/lang/invoke/MethodHandle" ∧ yX12_finds.cls ≠ "java/lang/invoke/VarHandle" ∧ (parseMethodDescriptor yX12_finds.desc).map (fun d => d.parameters.length) = some 4 := by decide +kernel
theorem zd_X12_fits : yX12_fits.cls ≠ "java/lang/invoke/MethodHandle" ∧ yX12_fits.cls ≠ "java/lang/invoke/VarHandle" ∧ (parseMethodDescriptor yX12_fits.desc).map (fun d => d.parameters.length) = some 4 := by decide +kernel
theorem zd_X12_giveWay : yX12_giveWay.cls ≠ "java/lang/invoke/MethodHandle" ∧ yX12_giveWay.cls ≠ "java/lang/invoke/VarHandle" ∧ (parseMethodDescriptor yX12_giveWay.desc).map (fun d => d.parameters.length) = some 0 := by decide +kernel
theorem zd_X12_gives : yX12_gives.cls ≠ "java/lang/invoke/MethodHandle" ∧ yX12_gives.cls ≠ "java/lang/invoke/VarHandle" ∧ (parseMethodDescriptor yX12_gives.desc).map (fun d => d.parameters.length) = some 3 := by decide +kernel
theorem zd_X12_grown : yX12_grown.cls ≠ "java/lang/invoke/MethodHandle" ∧ yX12_grown.cls ≠ "java/lang/invoke/VarHandle" ∧ (parseMethodDescriptor yX12_grown.desc).map (fun d => d.parameters.length) = some 2 := by decide +kernel
theorem zd_X12_growsTo : yX12_growsTo.cls ≠ "java/lang/invoke/MethodHandle" ∧ yX12_growsTo.cls ≠ "java/lang/invoke/VarHandle" ∧ (parseMethodDescriptor yX12_growsTo.desc).map (fun d => d.parameters.length) = some 4 := by decide +kernel
theorem zd_X12_hang : yX12_hang.cls ≠ "java/lang/invoke/MethodHandle" ∧ yX12_hang.cls ≠ "java/lang/invoke/VarHandle" ∧ (parseMethodDescriptor yX12_hang.desc).map (fun d => d.parameters.length) = some 5 := by decide +kernel
theorem zd_X12_hangOn : yX12_hangOn.cls ≠ "java/lang/invoke/MethodHandle" ∧ yX12_hangOn.cls ≠ "java/lang/invoke/VarHandle" ∧ (parseMethodDescriptor yX12_hangOn.desc).map (fun d => d.parameters.length) = some 4 := by decide +kernel
theorem zd_X12_here : yX12_here.cls ≠ "java/lang/invoke/MethodHandle" ∧ yX12_here.cls ≠ "java/lang/invoke/VarHandle" ∧ (parseMethodDescriptor yX12_here.desc).map (fun d => d.parameters.length) = some 0 := by decide +kernel
theorem zd_X12_hung : yX12_hung.cls ≠ "java/lang/invoke/MethodHandle" ∧ yX12_hung.cls ≠ "java/lang/invoke/VarHandle" ∧ (parseMethodDescriptor yX12_hung.desc).map (fun d => d.parameters.length) = some 2 := by decide +kernel
theorem zd_X12_image : yX12_image.cls ≠ "java/lang/invoke/MethodHandle" ∧ yX12_image.cls ≠ "java/lang/invoke/VarHandle" ∧ (parseMethodDescriptor yX12_image.desc).map (fun d => d.parameters.length) = some 0 := by decide +kernel
theorem zd_X12_in : yX12_in.cls ≠ "java/lang/invoke/MethodHandle" ∧ yX12_in.cls ≠ "java/lang/invoke/VarHandle" ∧ (parseMethodDescriptor yX12_in.desc).map (fun d => d.parameters.length) = some 3 := by decide +kernel
theorem zd_X12_isLane : yX12_isLane.cls ≠ "java/lang/invoke/MethodHandle" ∧ yX12_isLane.cls ≠ "java/lang/invoke/VarHandle" ∧ (parseMethodDescriptor yX12_isLane.desc).map (fun d => d.parameters.length) = some 1 := by decide +kernel
theorem zd_X12_isLaw : yX12_isLaw.cls ≠ "java/lang/invoke/MethodHandle" ∧ yX12_isLaw.cls ≠ "java/lang/invoke/VarHandle" ∧ (parseMethodDescriptor yX12_isLaw.desc).map (fun d => d.parameters.length) = some 2 := by decide +kernel
theorem zd_X12_isLock : yX12_isLock.cls ≠ "java/lang/invoke/MethodHandle" ∧ yX12_isLock.cls ≠ "java/lang/invoke/VarHandle" ∧ (parseMethodDescriptor yX12_isLock.desc).map (fun d => d.parameters.length) = some 1 := by decide +kernel
theorem zd_X12_isLoot : yX12_isLoot.cls ≠ "java/lang/invoke/MethodHandle" ∧ yX12_isLoot.cls ≠ "java/lang/invoke/VarHandle" ∧ (parseMethodDescriptor yX12_isLoot.desc).map (fun d => d.parameters.length) = some 1 := by decide +kernel
theorem zd_X12_isMonth : yX12_isMonth.cls ≠ "java/lang/invoke/MethodHandle" ∧ yX12_isMonth.cls ≠ "java/lang/invoke/VarHandle" ∧ (parseMethodDescriptor yX12_isMonth.desc).map (fun d => d.parameters.length) = some 2 := by decide +kernel
theorem zd_X12_isOn : yX12_isOn.cls ≠ "java/lang/invoke/MethodHandle" ∧ yX12_isOn.cls ≠ "java/lang/invoke/VarHandle" ∧ (parseMethodDescriptor yX12_isOn.desc).map (fun d => d.parameters.length) = some 3 := by decide +kernel
theorem zd_X12_isPanel : yX12_isPanel.cls ≠ "java/lang/invoke/MethodHandle" ∧ yX12_isPanel.cls ≠ "java/lang/invoke/VarHandle" ∧ (parseMethodDescriptor yX12_isPanel.desc).map (fun d => d.parameters.length) = some 1 := by decide +kernel
theorem zd_X12_isRead : yX12_isRead.cls ≠ "java/lang/invoke/MethodHandle" ∧ yX12_isRead.cls ≠ "java/lang/invoke/VarHandle" ∧ (parseMethodDescriptor yX12_isRead.desc).map (fun d => d.parameters.length) = some 3 := by decide +kernel
theorem zd_X12_isSheet : yX12_isSheet.cls ≠ "java/lang/invoke/MethodHandle" ∧ yX12_isSheet.cls ≠ "java/lang/invoke/VarHandle" ∧ (parseMethodDescriptor yX12_isSheet.desc).map (fun d => d.parameters.length) = some 1 := by decide +kernel
theorem zd_X12_isSought : yX12_isSought.cls ≠ "java/lang/invoke/MethodHandle" ∧ yX12_isSought.cls ≠ "java/lang/invoke/VarHandle" ∧ (parseMethodDescriptor yX12_isSought.desc).map (fun d => d.parameters.length) = some 1 := by decide +kernel
theorem zd_X12_isTold : yX12_isTold.cls ≠ "java/lang/invoke/MethodHandle" ∧ yX12_isTold.cls ≠ "java/lang/invoke/VarHandle" ∧ (parseMethodDescriptor yX12_isTold.desc).map (fun d => d.parameters.length) = some 3 := by decide +kernel
theorem zd_X12_item : yX12_item.cls ≠ "java/lang/invoke/MethodHandle" ∧ yX12_item.cls ≠ "java/lang/invoke/VarHandle" ∧ (parseMethodDescriptor yX12_item.desc).map (fun d => d.parameters.length) = some 4 := by decide +kernel
theorem zd_X12_laws : yX12_laws.cls ≠ "java/lang/invoke/MethodHandle" ∧ yX12_laws.cls ≠ "java/lang/invoke/VarHandle" ∧ (parseMethodDescriptor yX12_laws.desc).map (fun d => d.parameters.length) = some 1 := by decide +kernel
theorem zd_X12_letters : yX12_letters.cls ≠ "java/lang/invoke/MethodHandle" ∧ yX12_letters.cls ≠ "java/lang/invoke/VarHandle" ∧ (parseMethodDescriptor yX12_letters.desc).map (fun d => d.parameters.length) = some 1 := by decide +kernel
theorem zd_X12_load : yX12_load.cls ≠ "java/lang/invoke/MethodHandle" ∧ yX12_load.cls ≠ "java/lang/invoke/VarHandle" ∧ (parseMethodDescriptor yX12_load.desc).map (fun d => d.parameters.length) = some 2 := by decide +kernel
theorem zd_X12_loadOf : yX12_loadOf.cls ≠ "java/lang/invoke/MethodHandle" ∧ yX12_loadOf.cls ≠ "java/lang/invoke/VarHandle" ∧ (parseMethodDescriptor yX12_loadOf.desc).map (fun d => d.parameters.length) = some 2 := by decide +kernel
theorem zd_X12_mayCut : yX12_mayCut.cls ≠ "java/lang/invoke/MethodHandle" ∧ yX12_mayCut.cls ≠ "java/lang/invoke/VarHandle" ∧ (parseMethodDescriptor yX12_mayCut.desc).map (fun d => d.parameters.length) = some 2 := by decide +kernel
theorem zd_X12_month : yX12_month.cls ≠ "java/lang/invoke/MethodHandle" ∧ yX12_month.cls ≠ "java/lang/invoke/VarHandle" ∧ (parseMethodDescriptor yX12_month.desc).map (fun d => d.parameters.length) = some 3 := by decide +kernel
theorem zd_X12_months : yX12_months.cls ≠ "java/lang/invoke/MethodHandle" ∧ yX12_months.cls ≠ "java/lang/invoke/VarHandle" ∧ (parseMethodDescriptor yX12_months.desc).map (fun d => d.parameters.length) = some 4 := by decide +kernel
theorem zd_X12_name : yX12_name.cls ≠ "java/lang/invoke/MethodHandle" ∧ yX12_name.cls ≠ "java/lang/invoke/VarHandle" ∧ (parseMethodDescriptor yX12_name.desc).map (fun d => d.parameters.length) = some 2 := by decide +kernel
theorem zd_X12_needed : yX12_needed.cls ≠ "java/lang/invoke/MethodHandle" ∧ yX12_needed.cls ≠ "java/lang/invoke/VarHandle" ∧ (parseMethodDescriptor yX12_needed.desc).map (fun d => d.parameters.length) = some 1 := by decide +kernel
theorem zd_X12_nightly : yX12_nightly.cls ≠ "java/lang/invoke/MethodHandle" ∧ yX12_nightly.cls ≠ "java/lang/invoke/VarHandle" ∧ (parseMethodDescriptor yX12_nightly.desc).map (fun d => d.parameters.length) = some 1 := by decide +kernel
theorem zd_X12_on : yX12_on.cls ≠ "java/lang/invoke/MethodHandle" ∧ yX12_on.cls ≠ "java/lang/invoke/VarHandle" ∧ (parseMethodDescriptor yX12_on.desc).map (fun d => d.parameters.length) = some 2 := by decide +kernel
theorem zd_X12_order : yX12_order.cls ≠ "java/lang/invoke/MethodHandle" ∧ yX12_order.cls ≠ "java/lang/invoke/VarHandle" ∧ (parseMethodDescriptor yX12_order.desc).map (fun d => d.parameters.length) = some 1 := by decide +kernel
theorem zd_X12_over : yX12_over.cls ≠ "java/lang/invoke/MethodHandle" ∧ yX12_over.cls ≠ "java/lang/invoke/VarHandle" ∧ (parseMethodDescriptor yX12_over.desc).map (fun d => d.parameters.length) = some 0 := by decide +kernel
theorem zd_X12_panel : yX12_panel.cls ≠ "java/lang/invoke/MethodHandle" ∧ yX12_panel.cls ≠ "java/lang/invoke/VarHandle" ∧ (parseMethodDescriptor yX12_panel.desc).map (fun d => d.parameters.length) = some 3 := by decide +kernel
theorem zd_X12_person : yX12_person.cls ≠ "java/lang/invoke/MethodHandle" ∧ yX12_person.cls ≠ "java/lang/invoke/VarHandle" ∧ (parseMethodDescriptor yX12_person.desc).map (fun d => d.parameters.length) = some 0 := by decide +kernel
theorem zd_X12_photo : yX12_photo.cls ≠ "java/lang/invoke/MethodHandle" ∧ yX12_photo.cls ≠ "java/lang/invoke/VarHandle" ∧ (parseMethodDescriptor yX12_photo.desc).map (fun d => d.parameters.length) = some 3 := by decide +kernel
theorem zd_X12_readings : yX12_readings.cls ≠ "java/lang/invoke/MethodHandle" ∧ yX12_readings.cls ≠ "java/lang/invoke/VarHandle" ∧ (parseMethodDescriptor yX12_readings.desc).map (fun d => d.parameters.length) = some 1 := by decide +kernel
theorem zd_X12_restore : yX12_restore.cls ≠ "java/lang/invoke/MethodHandle" ∧ yX12_restore.cls ≠ "java/lang/invoke/VarHandle" ∧ (parseMethodDescriptor yX12_restore.desc).map (fun d => d.parameters.length) = some 0 := by decide +kernel
theorem zd_X12_risk : yX12_risk.cls ≠ "java/lang/invoke/MethodHandle" ∧ yX12_risk.cls ≠ "java/lang/invoke/VarHandle" ∧ (parseMethodDescriptor yX12_risk.desc).map (fun d => d.parameters.length) = some 3 := by decide +kernel
theorem zd_X12_safe : yX12_safe.cls ≠ "java/lang/invoke/MethodHandle" ∧ yX12_safe.cls ≠ "java/lang/invoke/VarHandle" ∧ (parseMethodDescriptor yX12_safe.desc).map (fun d => d.parameters.length) = some 2 := by decide +kernel
theorem zd_X12_saves : yX12_saves.cls ≠ "java/lang/invoke/MethodHandle" ∧ yX12_saves.cls ≠ "java/lang/invoke/VarHandle" ∧ (parseMethodDescriptor yX12_saves.desc).map (fun d => d.parameters.length) = some 3 := by decide +kernel
theorem zd_X12_sees : yX12_sees.cls ≠ "java/lang/invoke/MethodHandle" ∧ yX12_sees.cls ≠ "java/lang/invoke/VarHandle" ∧ (parseMethodDescriptor yX12_sees.desc).map (fun d => d.parameters.length) = some 3 := by decide +kernel
theorem zd_X12_settles : yX12_settles.cls ≠ "java/lang/invoke/MethodHandle" ∧ yX12_settles.cls ≠ "java/lang/invoke/VarHandle" ∧ (parseMethodDescriptor yX12_settles.desc).map (fun d => d.parameters.length) = some 0 := by decide +kernel
theorem zd_X12_sheet : yX12_sheet.cls ≠ "java/lang/invoke/MethodHandle" ∧ yX12_sheet.cls ≠ "java/lang/invoke/VarHandle" ∧ (parseMethodDescriptor yX12_sheet.desc).map (fun d => d.parameters.length) = some 3 := by decide +kernel
theorem zd_X12_size : yX12_size.cls ≠ "java/lang/invoke/MethodHandle" ∧ yX12_size.cls ≠ "java/lang/invoke/VarHandle" ∧ (parseMethodDescriptor yX12_size.desc).map (fun d => d.parameters.length) = some 1 := by decide +kernel
theorem zd_X12_span : yX12_span.cls ≠ "java/lang/invoke/MethodHandle" ∧ yX12_span.cls ≠ "java/lang/invoke/VarHandle" ∧ (parseMethodDescriptor yX12_span.desc).map (fun d => d.parameters.length) = some 2 := by decide +kernel
theorem zd_X12_spanOf : yX12_spanOf.cls ≠ "java/lang/invoke/MethodHandle" ∧ yX12_spanOf.cls ≠ "java/lang/invoke/VarHandle" ∧ (parseMethodDescriptor yX12_spanOf.desc).map (fun d => d.parameters.length) = some 2 := by decide +kernel
theorem zd_X12_stolen : yX12_stolen.cls ≠ "java/lang/invoke/MethodHandle" ∧ yX12_stolen.cls ≠ "java/lang/invoke/VarHandle" ∧ (parseMethodDescriptor yX12_stolen.desc).map (fun d => d.parameters.length) = some 4 := by decide +kernel
theorem zd_X12_told : yX12_told.cls ≠ "java/lang/invoke/MethodHandle" ∧ yX12_told.cls ≠ "java/lang/invoke/VarHandle" ∧ (parseMethodDescriptor yX12_told.desc).map (fun d => d.parameters.length) = some 2 := by decide +kernel
theorem zd_X12_truck : yX12_truck.cls ≠ "java/lang/invoke/MethodHandle" ∧ yX12_truck.cls ≠ "java/lang/invoke/VarHandle" ∧ (parseMethodDescriptor yX12_truck.desc).map (fun d => d.parameters.length) = some 5 := by decide +kernel
theorem zd_X12_type : yX12_type.cls ≠ "java/lang/invoke/MethodHandle" ∧ yX12_type.cls ≠ "java/lang/invoke/VarHandle" ∧ (parseMethodDescriptor yX12_type.desc).map (fun d => d.parameters.length) = some 2 := by decide +kernel
theorem zd_X12_under : yX12_under.cls ≠ "java/lang/invoke/MethodHandle" ∧ yX12_under.cls ≠ "java/lang/invoke/VarHandle" ∧ (parseMethodDescriptor yX12_under.desc).map (fun d => d.parameters.length) = some 1 := by decide +kernel
theorem zd_X12_uses : yX12_uses.cls ≠ "java/lang/invoke/MethodHandle" ∧ yX12_uses.cls ≠ "java/lang/invoke/VarHandle" ∧ (parseMethodDescriptor yX12_uses.desc).map (fun d => d.parameters.length) = some 3 := by decide +kernel
theorem zd_X12_ways : yX12_ways.cls ≠ "java/lang/invoke/MethodHandle" ∧ yX12_ways.cls ≠ "java/lang/invoke/VarHandle" ∧ (parseMethodDescriptor yX12_ways.desc).map (fun d => d.parameters.length) = some 0 := by decide +kernel
theorem zd_X12_waysBy : yX12_waysBy.cls ≠ "java/lang/invoke/MethodHandle" ∧ yX12_waysBy.cls ≠ "java/lang/invoke/VarHandle" ∧ (parseMethodDescriptor yX12_waysBy.desc).map (fun d => d.parameters.length) = some 3 := by decide +kernel
theorem zd_X12_waysOf : yX12_waysOf.cls ≠ "java/lang/invoke/MethodHandle" ∧ yX12_waysOf.cls ≠ "java/lang/invoke/VarHandle" ∧ (parseMethodDescriptor yX12_waysOf.desc).map (fun d => d.parameters.length) = some 4 := by decide +kernel
theorem zd_X12_weigh : yX12_weigh.cls ≠ "java/lang/invoke/MethodHandle" ∧ yX12_weigh.cls ≠ "java/lang/invoke/VarHandle" ∧ (parseMethodDescriptor yX12_weigh.desc).map (fun d => d.parameters.length) = some 1 := by decide +kernel
theorem zd_X12_where : yX12_where.cls ≠ "java/lang/invoke/MethodHandle" ∧ yX12_where.cls ≠ "java/lang/invoke/VarHandle" ∧ (parseMethodDescriptor yX12_where.desc).map (fun d => d.parameters.length) = some 2 := by decide +kernel
theorem zd_X12_who : yX12_who.cls ≠ "java/lang/invoke/MethodHandle" ∧ yX12_who.cls ≠ "java/lang/invoke/VarHandle" ∧ (parseMethodDescriptor yX12_who.desc).map (fun d => d.parameters.length) = some 2 := by decide +kernel
theorem zd_X12_yes : yX12_yes.cls ≠ "java/lang/invoke/MethodHandle" ∧ yX12_yes.cls ≠ "java/lang/invoke/VarHandle" ∧ (parseMethodDescriptor yX12_yes.desc).map (fun d => d.parameters.length) = some 2 := by decide +kernel
theorem zd_X1_findLoots : yX1_findLoots.cls ≠ "java/lang/invoke/MethodHandle" ∧ yX1_findLoots.cls ≠ "java/lang/invoke/VarHandle" ∧ (parseMethodDescriptor yX1_findLoots.desc).map (fun d => d.parameters.length) = some 3 := by decide +kernel
theorem zd_X1_keepLoot : yX1_keepLoot.cls ≠ "java/lang/invoke/MethodHandle" ∧ yX1_keepLoot.cls ≠ "java/lang/invoke/VarHandle" ∧ (parseMethodDescriptor yX1_keepLoot.desc).map (fun d => d.parameters.length) = some 1 := by decide +kernel
theorem zd_X1_takeFrom : yX1_takeFrom.cls ≠ "java/lang/invoke/MethodHandle" ∧ yX1_takeFrom.cls ≠ "java/lang/invoke/VarHandle" ∧ (parseMethodDescriptor yX1_takeFrom.desc).map (fun d => d.parameters.length) = some 6 := by decide +kernel
theorem zd_X2_addPerson : yX2_addPerson.cls ≠ "java/lang/invoke/MethodHandle" ∧ yX2_addPerson.cls ≠ "java/lang/invoke/VarHandle" ∧ (parseMethodDescriptor yX2_addPerson.desc).map (fun d => d.parameters.length) = some 1 := by decide +kernel
theorem zd_X2_agree : yX2_agree.cls ≠ "java/lang/invoke/MethodHandle" ∧ yX2_agree.cls ≠ "java/lang/invoke/VarHandle" ∧ (parseMethodDescriptor yX2_agree.desc).map (fun d => d.parameters.length) = some 2 := by decide +kernel
theorem zd_X2_allWhoAgree : yX2_allWhoAgree.cls ≠ "java/lang/invoke/MethodHandle" ∧ yX2_allWhoAgree.cls ≠ "java/lang/invoke/VarHandle" ∧ (parseMethodDescriptor yX2_allWhoAgree.desc).map (fun d => d.parameters.length) = some 1 := by decide +kernel
theorem zd_X2_canBe : yX2_canBe.cls ≠ "java/lang/invoke/MethodHandle" ∧ yX2_canBe.cls ≠ "java/lang/invoke/VarHandle" ∧ (parseMethodDescriptor yX2_canBe.desc).map (fun d => d.parameters.length) = some 4 := by decide +kernel
theorem zd_X2_hasLetters : yX2_hasLetters.cls ≠ "java/lang/invoke/MethodHandle" ∧ yX2_hasLetters.cls ≠ "java/lang/invoke/VarHandle" ∧ (parseMethodDescriptor yX2_hasLetters.desc).map (fun d => d.parameters.length) = some 1 := by decide +kernel
theorem zd_X2_peopleOfFirst : yX2_peopleOfFirst.cls ≠ "java/lang/invoke/MethodHandle" ∧ yX2_peopleOfFirst.cls ≠ "java/lang/invoke/VarHandle" ∧ (parseMethodDescriptor yX2_peopleOfFirst.desc).map (fun d => d.parameters.length) = some 1 := by decide +kernel
theorem zd_X2_peopleOfSecond : yX2_peopleOfSecond.cls ≠ "java/lang/invoke/MethodHandle" ∧ yX2_peopleOfSecond.cls ≠ "java/lang/invoke/VarHandle" ∧ (parseMethodDescriptor yX2_peopleOfSecond.desc).map (fun d => d.parameters.length) = some 1 := by decide +kernel
theorem zd_X2_putLetters : yX2_putLetters.cls ≠ "java/lang/invoke/MethodHandle" ∧ yX2_putLetters.cls ≠ "java/lang/invoke/VarHandle" ∧ (parseMethodDescriptor yX2_putLetters.desc).map (fun d => d.parameters.length) = some 3 := by decide +kernel
theorem zd_X2_readingsOf : yX2_readingsOf.cls ≠ "java/lang/invoke/MethodHandle" ∧ yX2_readingsOf.cls ≠ "java/lang/invoke/VarHandle" ∧ (parseMethodDescriptor yX2_readingsOf.desc).map (fun d => d.parameters.length) = some 1 := by decide +kernel
theorem zd_X2_takeOver : yX2_takeOver.cls ≠ "java/lang/invoke/MethodHandle" ∧ yX2_takeOver.cls ≠ "java/lang/invoke/VarHandle" ∧ (parseMethodDescriptor yX2_takeOver.desc).map (fun d => d.parameters.length) = some 1 := by decide +kernel
theorem zd_X3_change : yX3_change.cls ≠ "java/lang/invoke/MethodHandle" ∧ yX3_change.cls ≠ "java/lang/invoke/VarHandle" ∧ (parseMethodDescriptor yX3_change.desc).map (fun d => d.parameters.length) = some 4 := by decide +kernel
theorem zd_X3_chooseBest : yX3_chooseBest.cls ≠ "java/lang/invoke/MethodHandle" ∧ yX3_chooseBest.cls ≠ "java/lang/invoke/VarHandle" ∧ (parseMethodDescriptor yX3_chooseBest.desc).map (fun d => d.parameters.length) = some 3 := by decide +kernel
theorem zd_X3_costInAll : yX3_costInAll.cls ≠ "java/lang/invoke/MethodHandle" ∧ yX3_costInAll.cls ≠ "java/lang/invoke/VarHandle" ∧ (parseMethodDescriptor yX3_costInAll.desc).map (fun d => d.parameters.length) = some 0 := by decide +kernel
theorem zd_X3_costOfWaiting : yX3_costOfWaiting.cls ≠ "java/lang/invoke/MethodHandle" ∧ yX3_costOfWaiting.cls ≠ "java/lang/invoke/VarHandle" ∧ (parseMethodDescriptor yX3_costOfWaiting.desc).map (fun d => d.parameters.length) = some 2 := by decide +kernel
theorem zd_X3_followChoices : yX3_followChoices.cls ≠ "java/lang/invoke/MethodHandle" ∧ yX3_followChoices.cls ≠ "java/lang/invoke/VarHandle" ∧ (parseMethodDescriptor yX3_followChoices.desc).map (fun d => d.parameters.length) = some 1 := by decide +kernel
theorem zd_X3_nightOf : yX3_nightOf.cls ≠ "java/lang/invoke/MethodHandle" ∧ yX3_nightOf.cls ≠ "java/lang/invoke/VarHandle" ∧ (parseMethodDescriptor yX3_nightOf.desc).map (fun d => d.parameters.length) = some 1 := by decide +kernel
theorem zd_X3_plan : yX3_plan.cls ≠ "java/lang/invoke/MethodHandle" ∧ yX3_plan.cls ≠ "java/lang/invoke/VarHandle" ∧ (parseMethodDescriptor yX3_plan.desc).map (fun d => d.parameters.length) = some 1 := by decide +kernel
theorem zd_X3_setNightly : yX3_setNightly.cls ≠ "java/lang/invoke/MethodHandle" ∧ yX3_setNightly.cls ≠ "java/lang/invoke/VarHandle" ∧ (parseMethodDescriptor yX3_setNightly.desc).map (fun d => d.parameters.length) = some 1 := by decide +kernel
theorem zd_X3_setTerm : yX3_setTerm.cls ≠ "java/lang/invoke/MethodHandle" ∧ yX3_setTerm.cls ≠ "java/lang/invoke/VarHandle" ∧ (parseMethodDescriptor yX3_setTerm.desc).map (fun d => d.parameters.length) = some 3 := by decide +kernel
theorem zd_X3_takeOver : yX3_takeOver.cls ≠ "java/lang/invoke/MethodHandle" ∧ yX3_takeOver.cls ≠ "java/lang/invoke/VarHandle" ∧ (parseMethodDescriptor yX3_takeOver.desc).map (fun d => d.parameters.length) = some 1 := by decide +kernel
theorem zd_X4_addPanel : yX4_addPanel.cls ≠ "java/lang/invoke/MethodHandle" ∧ yX4_addPanel.cls ≠ "java/lang/invoke/VarHandle" ∧ (parseMethodDescriptor yX4_addPanel.desc).map (fun d => d.parameters.length) = some 3 := by decide +kernel
theorem zd_X4_addToBar : yX4_addToBar.cls ≠ "java/lang/invoke/MethodHandle" ∧ yX4_addToBar.cls ≠ "java/lang/invoke/VarHandle" ∧ (parseMethodDescriptor yX4_addToBar.desc).map (fun d => d.parameters.length) = some 5 := by decide +kernel
theorem zd_X4_addToLock : yX4_addToLock.cls ≠ "java/lang/invoke/MethodHandle" ∧ yX4_addToLock.cls ≠ "java/lang/invoke/VarHandle" ∧ (parseMethodDescriptor yX4_addToLock.desc).map (fun d => d.parameters.length) = some 4 := by decide +kernel
theorem zd_X4_barLoad : yX4_barLoad.cls ≠ "java/lang/invoke/MethodHandle" ∧ yX4_barLoad.cls ≠ "java/lang/invoke/VarHandle" ∧ (parseMethodDescriptor yX4_barLoad.desc).map (fun d => d.parameters.length) = some 2 := by decide +kernel
theorem zd_X4_borneBy : yX4_borneBy.cls ≠ "java/lang/invoke/MethodHandle" ∧ yX4_borneBy.cls ≠ "java/lang/invoke/VarHandle" ∧ (parseMethodDescriptor yX4_borneBy.desc).map (fun d => d.parameters.length) = some 1 := by decide +kernel
theorem zd_X4_fall : yX4_fall.cls ≠ "java/lang/invoke/MethodHandle" ∧ yX4_fall.cls ≠ "java/lang/invoke/VarHandle" ∧ (parseMethodDescriptor yX4_fall.desc).map (fun d => d.parameters.length) = some 1 := by decide +kernel
theorem zd_X4_fallWhileOver : yX4_fallWhileOver.cls ≠ "java/lang/invoke/MethodHandle" ∧ yX4_fallWhileOver.cls ≠ "java/lang/invoke/VarHandle" ∧ (parseMethodDescriptor yX4_fallWhileOver.desc).map (fun d => d.parameters.length) = some 0 := by decide +kernel
theorem zd_X4_firstOver : yX4_firstOver.cls ≠ "java/lang/invoke/MethodHandle" ∧ yX4_firstOver.cls ≠ "java/lang/invoke/VarHandle" ∧ (parseMethodDescriptor yX4_firstOver.desc).map (fun d => d.parameters.length) = some 0 := by decide +kernel
theorem zd_X4_hangingAt : yX4_hangingAt.cls ≠ "java/lang/invoke/MethodHandle" ∧ yX4_hangingAt.cls ≠ "java/lang/invoke/VarHandle" ∧ (parseMethodDescriptor yX4_hangingAt.desc).map (fun d => d.parameters.length) = some 2 := by decide +kernel
theorem zd_X4_hangingFrom : yX4_hangingFrom.cls ≠ "java/lang/invoke/MethodHandle" ∧ yX4_hangingFrom.cls ≠ "java/lang/invoke/VarHandle" ∧ (parseMethodDescriptor yX4_hangingFrom.desc).map (fun d => d.parameters.length) = some 1 := by decide +kernel
theorem zd_X4_hasLock : yX4_hasLock.cls ≠ "java/lang/invoke/MethodHandle" ∧ yX4_hasLock.cls ≠ "java/lang/invoke/VarHandle" ∧ (parseMethodDescriptor yX4_hasLock.desc).map (fun d => d.parameters.length) = some 1 := by decide +kernel
theorem zd_X4_hasPanel : yX4_hasPanel.cls ≠ "java/lang/invoke/MethodHandle" ∧ yX4_hasPanel.cls ≠ "java/lang/invoke/VarHandle" ∧ (parseMethodDescriptor yX4_hasPanel.desc).map (fun d => d.parameters.length) = some 1 := by decide +kernel
theorem zd_X4_isGone : yX4_isGone.cls ≠ "java/lang/invoke/MethodHandle" ∧ yX4_isGone.cls ≠ "java/lang/invoke/VarHandle" ∧ (parseMethodDescriptor yX4_isGone.desc).map (fun d => d.parameters.length) = some 1 := by decide +kernel
theorem zd_X4_isOver : yX4_isOver.cls ≠ "java/lang/invoke/MethodHandle" ∧ yX4_isOver.cls ≠ "java/lang/invoke/VarHandle" ∧ (parseMethodDescriptor yX4_isOver.desc).map (fun d => d.parameters.length) = some 1 := by decide +kernel
theorem zd_X4_loadOf : yX4_loadOf.cls ≠ "java/lang/invoke/MethodHandle" ∧ yX4_loadOf.cls ≠ "java/lang/invoke/VarHandle" ∧ (parseMethodDescriptor yX4_loadOf.desc).map (fun d => d.parameters.length) = some 2 := by decide +kernel
theorem zd_X4_panelLoad : yX4_panelLoad.cls ≠ "java/lang/invoke/MethodHandle" ∧ yX4_panelLoad.cls ≠ "java/lang/invoke/VarHandle" ∧ (parseMethodDescriptor yX4_panelLoad.desc).map (fun d => d.parameters.length) = some 1 := by decide +kernel
theorem zd_X4_sagOf : yX4_sagOf.cls ≠ "java/lang/invoke/MethodHandle" ∧ yX4_sagOf.cls ≠ "java/lang/invoke/VarHandle" ∧ (parseMethodDescriptor yX4_sagOf.desc).map (fun d => d.parameters.length) = some 1 := by decide +kernel
theorem zd_X4_takeOver : yX4_takeOver.cls ≠ "java/lang/invoke/MethodHandle" ∧ yX4_takeOver.cls ≠ "java/lang/invoke/VarHandle" ∧ (parseMethodDescriptor yX4_takeOver.desc).map (fun d => d.parameters.length) = some 1 := by decide +kernel
theorem zd_X4_tell : yX4_tell.cls ≠ "java/lang/invoke/MethodHandle" ∧ yX4_tell.cls ≠ "java/lang/invoke/VarHandle" ∧ (parseMethodDescriptor yX4_tell.desc).map (fun d => d.parameters.length) = some 2 := by decide +kernel
theorem zd_X4_weightOf : yX4_weightOf.cls ≠ "java/lang/invoke/MethodHandle" ∧ yX4_weightOf.cls ≠ "java/lang/invoke/VarHandle" ∧ (parseMethodDescriptor yX4_weightOf.desc).map (fun d => d.parameters.length) = some 1 := by decide +kernel
theorem zd_X4_withAllOn : yX4_withAllOn.cls ≠ "java/lang/invoke/MethodHandle" ∧ yX4_withAllOn.cls ≠ "java/lang/invoke/VarHandle" ∧ (parseMethodDescriptor yX4_withAllOn.desc).map (fun d => d.parameters.length) = some 1 := by decide +kernel
theorem zd_X5_findWays : yX5_findWays.cls ≠ "java/lang/invoke/MethodHandle" ∧ yX5_findWays.cls ≠ "java/lang/invoke/VarHandle" ∧ (parseMethodDescriptor yX5_findWays.desc).map (fun d => d.parameters.length) = some 2 := by decide +kernel
theorem zd_X5_keepPairs : yX5_keepPairs.cls ≠ "java/lang/invoke/MethodHandle" ∧ yX5_keepPairs.cls ≠ "java/lang/invoke/VarHandle" ∧ (parseMethodDescriptor yX5_keepPairs.desc).map (fun d => d.parameters.length) = some 1 := by decide +kernel
theorem zd_X5_locksOf : yX5_locksOf.cls ≠ "java/lang/invoke/MethodHandle" ∧ yX5_locksOf.cls ≠ "java/lang/invoke/VarHandle" ∧ (parseMethodDescriptor yX5_locksOf.desc).map (fun d => d.parameters.length) = some 2 := by decide +kernel
theorem zd_X5_locksOfYear : yX5_locksOfYear.cls ≠ "java/lang/invoke/MethodHandle" ∧ yX5_locksOfYear.cls ≠ "java/lang/invoke/VarHandle" ∧ (parseMethodDescriptor yX5_locksOfYear.desc).map (fun d => d.parameters.length) = some 2 := by decide +kernel
theorem zd_X5_peopleOn : yX5_peopleOn.cls ≠ "java/lang/invoke/MethodHandle" ∧ yX5_peopleOn.cls ≠ "java/lang/invoke/VarHandle" ∧ (parseMethodDescriptor yX5_peopleOn.desc).map (fun d => d.parameters.length) = some 2 := by decide +kernel
theorem zd_X5_waysToRead : yX5_waysToRead.cls ≠ "java/lang/invoke/MethodHandle" ∧ yX5_waysToRead.cls ≠ "java/lang/invoke/VarHandle" ∧ (parseMethodDescriptor yX5_waysToRead.desc).map (fun d => d.parameters.length) = some 5 := by decide +kernel
theorem zd_X6_answer : yX6_answer.cls ≠ "java/lang/invoke/MethodHandle" ∧ yX6_answer.cls ≠ "java/lang/invoke/VarHandle" ∧ (parseMethodDescriptor yX6_answer.desc).map (fun d => d.parameters.length) = some 3 := by decide +kernel
theorem zd_X6_areApart : yX6_areApart.cls ≠ "java/lang/invoke/MethodHandle" ∧ yX6_areApart.cls ≠ "java/lang/invoke/VarHandle" ∧ (parseMethodDescriptor yX6_areApart.desc).map (fun d => d.parameters.length) = some 1 := by decide +kernel
theorem zd_X6_areEnough : yX6_areEnough.cls ≠ "java/lang/invoke/MethodHandle" ∧ yX6_areEnough.cls ≠ "java/lang/invoke/VarHandle" ∧ (parseMethodDescriptor yX6_areEnough.desc).map (fun d => d.parameters.length) = some 3 := by decide +kernel
theorem zd_X6_bestQuestion : yX6_bestQuestion.cls ≠ "java/lang/invoke/MethodHandle" ∧ yX6_bestQuestion.cls ≠ "java/lang/invoke/VarHandle" ∧ (parseMethodDescriptor yX6_bestQuestion.desc).map (fun d => d.parameters.length) = some 1 := by decide +kernel
theorem zd_X6_learn : yX6_learn.cls ≠ "java/lang/invoke/MethodHandle" ∧ yX6_learn.cls ≠ "java/lang/invoke/VarHandle" ∧ (parseMethodDescriptor yX6_learn.desc).map (fun d => d.parameters.length) = some 1 := by decide +kernel
theorem zd_X6_leftAtWorst : yX6_leftAtWorst.cls ≠ "java/lang/invoke/MethodHandle" ∧ yX6_leftAtWorst.cls ≠ "java/lang/invoke/VarHandle" ∧ (parseMethodDescriptor yX6_leftAtWorst.desc).map (fun d => d.parameters.length) = some 2 := by decide +kernel
theorem zd_X6_numberOf : yX6_numberOf.cls ≠ "java/lang/invoke/MethodHandle" ∧ yX6_numberOf.cls ≠ "java/lang/invoke/VarHandle" ∧ (parseMethodDescriptor yX6_numberOf.desc).map (fun d => d.parameters.length) = some 1 := by decide +kernel
theorem zd_X6_questionsFor : yX6_questionsFor.cls ≠ "java/lang/invoke/MethodHandle" ∧ yX6_questionsFor.cls ≠ "java/lang/invoke/VarHandle" ∧ (parseMethodDescriptor yX6_questionsFor.desc).map (fun d => d.parameters.length) = some 1 := by decide +kernel
theorem zd_X7_at : yX7_at.cls ≠ "java/lang/invoke/MethodHandle" ∧ yX7_at.cls ≠ "java/lang/invoke/VarHandle" ∧ (parseMethodDescriptor yX7_at.desc).map (fun d => d.parameters.length) = some 2 := by decide +kernel
theorem zd_X7_clear : yX7_clear.cls ≠ "java/lang/invoke/MethodHandle" ∧ yX7_clear.cls ≠ "java/lang/invoke/VarHandle" ∧ (parseMethodDescriptor yX7_clear.desc).map (fun d => d.parameters.length) = some 1 := by decide +kernel
theorem zd_X7_faultOf : yX7_faultOf.cls ≠ "java/lang/invoke/MethodHandle" ∧ yX7_faultOf.cls ≠ "java/lang/invoke/VarHandle" ∧ (parseMethodDescriptor yX7_faultOf.desc).map (fun d => d.parameters.length) = some 4 := by decide +kernel
theorem zd_X7_holds : yX7_holds.cls ≠ "java/lang/invoke/MethodHandle" ∧ yX7_holds.cls ≠ "java/lang/invoke/VarHandle" ∧ (parseMethodDescriptor yX7_holds.desc).map (fun d => d.parameters.length) = some 1 := by decide +kernel
theorem zd_X7_laneOf : yX7_laneOf.cls ≠ "java/lang/invoke/MethodHandle" ∧ yX7_laneOf.cls ≠ "java/lang/invoke/VarHandle" ∧ (parseMethodDescriptor yX7_laneOf.desc).map (fun d => d.parameters.length) = some 1 := by decide +kernel
theorem zd_X7_move : yX7_move.cls ≠ "java/lang/invoke/MethodHandle" ∧ yX7_move.cls ≠ "java/lang/invoke/VarHandle" ∧ (parseMethodDescriptor yX7_move.desc).map (fun d => d.parameters.length) = some 5 := by decide +kernel
theorem zd_X7_put : yX7_put.cls ≠ "java/lang/invoke/MethodHandle" ∧ yX7_put.cls ≠ "java/lang/invoke/VarHandle" ∧ (parseMethodDescriptor yX7_put.desc).map (fun d => d.parameters.length) = some 3 := by decide +kernel
theorem zd_X7_renew : yX7_renew.cls ≠ "java/lang/invoke/MethodHandle" ∧ yX7_renew.cls ≠ "java/lang/invoke/VarHandle" ∧ (parseMethodDescriptor yX7_renew.desc).map (fun d => d.parameters.length) = some 3 := by decide +kernel
theorem zd_X8_add : yX8_add.cls ≠ "java/lang/invoke/MethodHandle" ∧ yX8_add.cls ≠ "java/lang/invoke/VarHandle" ∧ (parseMethodDescriptor yX8_add.desc).map (fun d => d.parameters.length) = some 3 := by decide +kernel
theorem zd_X8_hasSpan : yX8_hasSpan.cls ≠ "java/lang/invoke/MethodHandle" ∧ yX8_hasSpan.cls ≠ "java/lang/invoke/VarHandle" ∧ (parseMethodDescriptor yX8_hasSpan.desc).map (fun d => d.parameters.length) = some 1 := by decide +kernel
theorem zd_X8_leastOf : yX8_leastOf.cls ≠ "java/lang/invoke/MethodHandle" ∧ yX8_leastOf.cls ≠ "java/lang/invoke/VarHandle" ∧ (parseMethodDescriptor yX8_leastOf.desc).map (fun d => d.parameters.length) = some 1 := by decide +kernel
theorem zd_X8_mostOf : yX8_mostOf.cls ≠ "java/lang/invoke/MethodHandle" ∧ yX8_mostOf.cls ≠ "java/lang/invoke/VarHandle" ∧ (parseMethodDescriptor yX8_mostOf.desc).map (fun d => d.parameters.length) = some 1 := by decide +kernel
theorem zd_X8_takeOver : yX8_takeOver.cls ≠ "java/lang/invoke/MethodHandle" ∧ yX8_takeOver.cls ≠ "java/lang/invoke/VarHandle" ∧ (parseMethodDescriptor yX8_takeOver.desc).map (fun d => d.parameters.length) = some 1 := by decide +kernel
theorem zd_X9_takeOver : yX9_takeOver.cls ≠ "java/lang/invoke/MethodHandle" ∧ yX9_takeOver.cls ≠ "java/lang/invoke/VarHandle" ∧ (parseMethodDescriptor yX9_takeOver.desc).map (fun d => d.parameters.length) = some 1 := by decide +kernel
theorem z_tout2 {x : Int32} (h0 : ¬ x = 0) (h1 : ¬ x = 1) (h2 : ¬ x = 2) : x.toInt < 0 ∨ 2 < x.toInt := by
  have e : ∀ z : Int32, ¬ x = z → x.toInt ≠ z.toInt := fun z h q => h (Int32.toInt_inj.mp q)
  have g0 : x.toInt ≠ 0 := e 0 h0
  have g1 : x.toInt ≠ 1 := e 1 h1
  have g2 : x.toInt ≠ 2 := e 2 h2
  omega
theorem z_tout4 {x : Int32} (h0 : ¬ x = 0) (h1 : ¬ x = 1) (h2 : ¬ x = 2) (h3 : ¬ x = 3) (h4 : ¬ x = 4) : x.toInt < 0 ∨ 4 < x.toInt := by
  have e : ∀ z : Int32, ¬ x = z → x.toInt ≠ z.toInt := fun z h q => h (Int32.toInt_inj.mp q)
  have g0 : x.toInt ≠ 0 := e 0 h0
  have g1 : x.toInt ≠ 1 := e 1 h1
  have g2 : x.toInt ≠ 2 := e 2 h2
  have g3 : x.toInt ≠ 3 := e 3 h3
  have g4 : x.toInt ≠ 4 := e 4 h4
  omega
theorem z_tout5 {x : Int32} (h0 : ¬ x = 0) (h1 : ¬ x = 1) (h2 : ¬ x = 2) (h3 : ¬ x = 3) (h4 : ¬ x = 4) (h5 : ¬ x = 5) : x.toInt < 0 ∨ 5 < x.toInt := by
  have e : ∀ z : Int32, ¬ x = z → x.toInt ≠ z.toInt := fun z h q => h (Int32.toInt_inj.mp q)
  have g0 : x.toInt ≠ 0 := e 0 h0
  have g1 : x.toInt ≠ 1 := e 1 h1
  have g2 : x.toInt ≠ 2 := e 2 h2
  have g3 : x.toInt ≠ 3 := e 3 h3
  have g4 : x.toInt ≠ 4 := e 4 h4
  have g5 : x.toInt ≠ 5 := e 5 h5
  omega
theorem z_tout6 {x : Int32} (h0 : ¬ x = 0) (h1 : ¬ x = 1) (h2 : ¬ x = 2) (h3 : ¬ x = 3) (h4 : ¬ x = 4) (h5 : ¬ x = 5) (h6 : ¬ x = 6) : x.toInt < 0 ∨ 6 < x.toInt := by
  have e : ∀ z : Int32, ¬ x = z → x.toInt ≠ z.toInt := fun z h q => h (Int32.toInt_inj.mp q)
  have g0 : x.toInt ≠ 0 := e 0 h0
  have g1 : x.toInt ≠ 1 := e 1 h1
  have g2 : x.toInt ≠ 2 := e 2 h2
  have g3 : x.toInt ≠ 3 := e 3 h3
  have g4 : x.toInt ≠ 4 := e 4 h4
  have g5 : x.toInt ≠ 5 := e 5 h5
  have g6 : x.toInt ≠ 6 := e 6 h6
  omega
theorem z_tout7 {x : Int32} (h0 : ¬ x = 0) (h1 : ¬ x = 1) (h2 : ¬ x = 2) (h3 : ¬ x = 3) (h4 : ¬ x = 4) (h5 : ¬ x = 5) (h6 : ¬ x = 6) (h7 : ¬ x = 7) : x.toInt < 0 ∨ 7 < x.toInt := by
  have e : ∀ z : Int32, ¬ x = z → x.toInt ≠ z.toInt := fun z h q => h (Int32.toInt_inj.mp q)
  have g0 : x.toInt ≠ 0 := e 0 h0
  have g1 : x.toInt ≠ 1 := e 1 h1
  have g2 : x.toInt ≠ 2 := e 2 h2
  have g3 : x.toInt ≠ 3 := e 3 h3
  have g4 : x.toInt ≠ 4 := e 4 h4
  have g5 : x.toInt ≠ 5 := e 5 h5
  have g6 : x.toInt ≠ 6 := e 6 h6
  have g7 : x.toInt ≠ 7 := e 7 h7
  omega
theorem z_tout36 {x : Int32} (h0 : ¬ x = 0) (h1 : ¬ x = 1) (h2 : ¬ x = 2) (h3 : ¬ x = 3) (h4 : ¬ x = 4) (h5 : ¬ x = 5) (h6 : ¬ x = 6) (h7 : ¬ x = 7) (h8 : ¬ x = 8) (h9 : ¬ x = 9) (h10 : ¬ x = 10) (h11 : ¬ x = 11) (h12 : ¬ x = 12) (h13 : ¬ x = 13) (h14 : ¬ x = 14) (h15 : ¬ x = 15) (h16 : ¬ x = 16) (h17 : ¬ x = 17) (h18 : ¬ x = 18) (h19 : ¬ x = 19) (h20 : ¬ x = 20) (h21 : ¬ x = 21) (h22 : ¬ x = 22) (h23 : ¬ x = 23) (h24 : ¬ x = 24) (h25 : ¬ x = 25) (h26 : ¬ x = 26) (h27 : ¬ x = 27) (h28 : ¬ x = 28) (h29 : ¬ x = 29) (h30 : ¬ x = 30) (h31 : ¬ x = 31) (h32 : ¬ x = 32) (h33 : ¬ x = 33) (h34 : ¬ x = 34) (h35 : ¬ x = 35) (h36 : ¬ x = 36) : x.toInt < 0 ∨ 36 < x.toInt := by
  have e : ∀ z : Int32, ¬ x = z → x.toInt ≠ z.toInt := fun z h q => h (Int32.toInt_inj.mp q)
  have g0 : x.toInt ≠ 0 := e 0 h0
  have g1 : x.toInt ≠ 1 := e 1 h1
  have g2 : x.toInt ≠ 2 := e 2 h2
  have g3 : x.toInt ≠ 3 := e 3 h3
  have g4 : x.toInt ≠ 4 := e 4 h4
  have g5 : x.toInt ≠ 5 := e 5 h5
  have g6 : x.toInt ≠ 6 := e 6 h6
  have g7 : x.toInt ≠ 7 := e 7 h7
  have g8 : x.toInt ≠ 8 := e 8 h8
  have g9 : x.toInt ≠ 9 := e 9 h9
  have g10 : x.toInt ≠ 10 := e 10 h10
  have g11 : x.toInt ≠ 11 := e 11 h11
  have g12 : x.toInt ≠ 12 := e 12 h12
  have g13 : x.toInt ≠ 13 := e 13 h13
  have g14 : x.toInt ≠ 14 := e 14 h14
  have g15 : x.toInt ≠ 15 := e 15 h15
  have g16 : x.toInt ≠ 16 := e 16 h16
  have g17 : x.toInt ≠ 17 := e 17 h17
  have g18 : x.toInt ≠ 18 := e 18 h18
  have g19 : x.toInt ≠ 19 := e 19 h19
  have g20 : x.toInt ≠ 20 := e 20 h20
  have g21 : x.toInt ≠ 21 := e 21 h21
  have g22 : x.toInt ≠ 22 := e 22 h22
  have g23 : x.toInt ≠ 23 := e 23 h23
  have g24 : x.toInt ≠ 24 := e 24 h24
  have g25 : x.toInt ≠ 25 := e 25 h25
  have g26 : x.toInt ≠ 26 := e 26 h26
  have g27 : x.toInt ≠ 27 := e 27 h27
  have g28 : x.toInt ≠ 28 := e 28 h28
  have g29 : x.toInt ≠ 29 := e 29 h29
  have g30 : x.toInt ≠ 30 := e 30 h30
  have g31 : x.toInt ≠ 31 := e 31 h31
  have g32 : x.toInt ≠ 32 := e 32 h32
  have g33 : x.toInt ≠ 33 := e 33 h33
  have g34 : x.toInt ≠ 34 := e 34 h34
  have g35 : x.toInt ≠ 35 := e 35 h35
  have g36 : x.toInt ≠ 36 := e 36 h36
  omega
