/-! ===== CALLS AND CONSTANTS OF THE FLAT MEMORY ===== -/
theorem kI_m8 : Int32.ofInt (-8) = (-8) := by decide
theorem kI_m1 : Int32.ofInt (-1) = (-1) := by decide
theorem kI_0 : Int32.ofInt (0) = (0) := by decide
theorem kI_1 : Int32.ofInt (1) = (1) := by decide
theorem kI_2 : Int32.ofInt (2) = (2) := by decide
theorem kI_3 : Int32.ofInt (3) = (3) := by decide
theorem kI_4 : Int32.ofInt (4) = (4) := by decide
theorem kI_5 : Int32.ofInt (5) = (5) := by decide
theorem kB_6 : (Int8.ofInt (6)).toInt32 = (6) := by decide
theorem kB_7 : (Int8.ofInt (7)).toInt32 = (7) := by decide
theorem kB_8 : (Int8.ofInt (8)).toInt32 = (8) := by decide
theorem kB_9 : (Int8.ofInt (9)).toInt32 = (9) := by decide
theorem kB_10 : (Int8.ofInt (10)).toInt32 = (10) := by decide
theorem kB_11 : (Int8.ofInt (11)).toInt32 = (11) := by decide
theorem kB_12 : (Int8.ofInt (12)).toInt32 = (12) := by decide
theorem kB_13 : (Int8.ofInt (13)).toInt32 = (13) := by decide
theorem kB_14 : (Int8.ofInt (14)).toInt32 = (14) := by decide
theorem kB_15 : (Int8.ofInt (15)).toInt32 = (15) := by decide
theorem kB_16 : (Int8.ofInt (16)).toInt32 = (16) := by decide
theorem kB_20 : (Int8.ofInt (20)).toInt32 = (20) := by decide
theorem kB_21 : (Int8.ofInt (21)).toInt32 = (21) := by decide
theorem kB_22 : (Int8.ofInt (22)).toInt32 = (22) := by decide
theorem kB_23 : (Int8.ofInt (23)).toInt32 = (23) := by decide
theorem kB_24 : (Int8.ofInt (24)).toInt32 = (24) := by decide
theorem kB_25 : (Int8.ofInt (25)).toInt32 = (25) := by decide
theorem kB_26 : (Int8.ofInt (26)).toInt32 = (26) := by decide
theorem kB_27 : (Int8.ofInt (27)).toInt32 = (27) := by decide
theorem kB_28 : (Int8.ofInt (28)).toInt32 = (28) := by decide
theorem kB_29 : (Int8.ofInt (29)).toInt32 = (29) := by decide
theorem kB_30 : (Int8.ofInt (30)).toInt32 = (30) := by decide
theorem kB_31 : (Int8.ofInt (31)).toInt32 = (31) := by decide
theorem kB_32 : (Int8.ofInt (32)).toInt32 = (32) := by decide
theorem kB_40 : (Int8.ofInt (40)).toInt32 = (40) := by decide
theorem kB_41 : (Int8.ofInt (41)).toInt32 = (41) := by decide
theorem kB_42 : (Int8.ofInt (42)).toInt32 = (42) := by decide
theorem kB_43 : (Int8.ofInt (43)).toInt32 = (43) := by decide
theorem kB_44 : (Int8.ofInt (44)).toInt32 = (44) := by decide
theorem kB_45 : (Int8.ofInt (45)).toInt32 = (45) := by decide
theorem kB_46 : (Int8.ofInt (46)).toInt32 = (46) := by decide
theorem kB_47 : (Int8.ofInt (47)).toInt32 = (47) := by decide
theorem kB_48 : (Int8.ofInt (48)).toInt32 = (48) := by decide
theorem kB_50 : (Int8.ofInt (50)).toInt32 = (50) := by decide
theorem kB_57 : (Int8.ofInt (57)).toInt32 = (57) := by decide
theorem kB_59 : (Int8.ofInt (59)).toInt32 = (59) := by decide
theorem kB_60 : (Int8.ofInt (60)).toInt32 = (60) := by decide
theorem kB_61 : (Int8.ofInt (61)).toInt32 = (61) := by decide
theorem kB_62 : (Int8.ofInt (62)).toInt32 = (62) := by decide
theorem kB_63 : (Int8.ofInt (63)).toInt32 = (63) := by decide
theorem kB_65 : (Int8.ofInt (65)).toInt32 = (65) := by decide
theorem kB_80 : (Int8.ofInt (80)).toInt32 = (80) := by decide
theorem kB_81 : (Int8.ofInt (81)).toInt32 = (81) := by decide
theorem kB_82 : (Int8.ofInt (82)).toInt32 = (82) := by decide
theorem kB_83 : (Int8.ofInt (83)).toInt32 = (83) := by decide
theorem kB_84 : (Int8.ofInt (84)).toInt32 = (84) := by decide
theorem kB_85 : (Int8.ofInt (85)).toInt32 = (85) := by decide
theorem kB_86 : (Int8.ofInt (86)).toInt32 = (86) := by decide
theorem kB_87 : (Int8.ofInt (87)).toInt32 = (87) := by decide
theorem kB_88 : (Int8.ofInt (88)).toInt32 = (88) := by decide
theorem kB_89 : (Int8.ofInt (89)).toInt32 = (89) := by decide
theorem kB_90 : (Int8.ofInt (90)).toInt32 = (90) := by decide
theorem kB_91 : (Int8.ofInt (91)).toInt32 = (91) := by decide
theorem kB_97 : (Int8.ofInt (97)).toInt32 = (97) := by decide
theorem kB_99 : (Int8.ofInt (99)).toInt32 = (99) := by decide
theorem kB_100 : (Int8.ofInt (100)).toInt32 = (100) := by decide
theorem kB_103 : (Int8.ofInt (103)).toInt32 = (103) := by decide
theorem kB_122 : (Int8.ofInt (122)).toInt32 = (122) := by decide
theorem kS_m9999 : (Int16.ofInt (-9999)).toInt32 = (-9999) := by decide
theorem kS_139 : (Int16.ofInt (139)).toInt32 = (139) := by decide
theorem kS_140 : (Int16.ofInt (140)).toInt32 = (140) := by decide
theorem kS_141 : (Int16.ofInt (141)).toInt32 = (141) := by decide
theorem kS_142 : (Int16.ofInt (142)).toInt32 = (142) := by decide
theorem kS_143 : (Int16.ofInt (143)).toInt32 = (143) := by decide
theorem kS_145 : (Int16.ofInt (145)).toInt32 = (145) := by decide
theorem kS_147 : (Int16.ofInt (147)).toInt32 = (147) := by decide
theorem kS_150 : (Int16.ofInt (150)).toInt32 = (150) := by decide
theorem kS_159 : (Int16.ofInt (159)).toInt32 = (159) := by decide
theorem kS_160 : (Int16.ofInt (160)).toInt32 = (160) := by decide
theorem kS_161 : (Int16.ofInt (161)).toInt32 = (161) := by decide
theorem kS_162 : (Int16.ofInt (162)).toInt32 = (162) := by decide
theorem kS_187 : (Int16.ofInt (187)).toInt32 = (187) := by decide
theorem kS_255 : (Int16.ofInt (255)).toInt32 = (255) := by decide
theorem kS_256 : (Int16.ofInt (256)).toInt32 = (256) := by decide
theorem kS_257 : (Int16.ofInt (257)).toInt32 = (257) := by decide
theorem kS_258 : (Int16.ofInt (258)).toInt32 = (258) := by decide
theorem kS_259 : (Int16.ofInt (259)).toInt32 = (259) := by decide
theorem kS_300 : (Int16.ofInt (300)).toInt32 = (300) := by decide
theorem kS_306 : (Int16.ofInt (306)).toInt32 = (306) := by decide
theorem kS_307 : (Int16.ofInt (307)).toInt32 = (307) := by decide
theorem kS_308 : (Int16.ofInt (308)).toInt32 = (308) := by decide
theorem kS_309 : (Int16.ofInt (309)).toInt32 = (309) := by decide
theorem kS_310 : (Int16.ofInt (310)).toInt32 = (310) := by decide
theorem kS_311 : (Int16.ofInt (311)).toInt32 = (311) := by decide
theorem kS_312 : (Int16.ofInt (312)).toInt32 = (312) := by decide
theorem kS_313 : (Int16.ofInt (313)).toInt32 = (313) := by decide
theorem kS_314 : (Int16.ofInt (314)).toInt32 = (314) := by decide
theorem kS_315 : (Int16.ofInt (315)).toInt32 = (315) := by decide
theorem kS_316 : (Int16.ofInt (316)).toInt32 = (316) := by decide
theorem kS_317 : (Int16.ofInt (317)).toInt32 = (317) := by decide
theorem kS_318 : (Int16.ofInt (318)).toInt32 = (318) := by decide
theorem kS_319 : (Int16.ofInt (319)).toInt32 = (319) := by decide
theorem kS_320 : (Int16.ofInt (320)).toInt32 = (320) := by decide
theorem kS_321 : (Int16.ofInt (321)).toInt32 = (321) := by decide
theorem kS_322 : (Int16.ofInt (322)).toInt32 = (322) := by decide
theorem kS_331 : (Int16.ofInt (331)).toInt32 = (331) := by decide
theorem kS_337 : (Int16.ofInt (337)).toInt32 = (337) := by decide
theorem kS_370 : (Int16.ofInt (370)).toInt32 = (370) := by decide
theorem kS_400 : (Int16.ofInt (400)).toInt32 = (400) := by decide
theorem kS_820 : (Int16.ofInt (820)).toInt32 = (820) := by decide
theorem kS_970 : (Int16.ofInt (970)).toInt32 = (970) := by decide
theorem kS_986 : (Int16.ofInt (986)).toInt32 = (986) := by decide
theorem kS_999 : (Int16.ofInt (999)).toInt32 = (999) := by decide
theorem kS_1000 : (Int16.ofInt (1000)).toInt32 = (1000) := by decide
theorem kS_1002 : (Int16.ofInt (1002)).toInt32 = (1002) := by decide
theorem kS_1018 : (Int16.ofInt (1018)).toInt32 = (1018) := by decide
theorem kS_1036 : (Int16.ofInt (1036)).toInt32 = (1036) := by decide
theorem kS_1856 : (Int16.ofInt (1856)).toInt32 = (1856) := by decide
theorem kS_9999 : (Int16.ofInt (9999)).toInt32 = (9999) := by decide
set_option maxRecDepth 100000 in
theorem ac_nat : Cond.native arraycopyName ∈ lw_tbl := tb (i := 540) (by decide +kernel)
set_option maxRecDepth 100000 in
theorem ac_sta : Cond.static arraycopyName ∈ lw_tbl := tb (i := 539) (by decide +kernel)
set_option maxRecDepth 100000 in
theorem ac_ini : Cond.initialized "java/lang/System" ∈ lw_tbl := tb (i := 141) (by decide +kernel)
theorem cy_X0_fewestStalls : 0 < 12 ∧ (cN 0).1 = yX0_fewestStalls.cls := ⟨by decide, rfl⟩
theorem cy_X0_layLast : 0 < 12 ∧ (cN 0).1 = yX0_layLast.cls := ⟨by decide, rfl⟩
theorem cy_X0_cook : 0 < 12 ∧ (cN 0).1 = yX0_cook.cls := ⟨by decide, rfl⟩
theorem cy_X0_cookFrom : 0 < 12 ∧ (cN 0).1 = yX0_cookFrom.cls := ⟨by decide, rfl⟩
theorem cy_X0_canCook : 0 < 12 ∧ (cN 0).1 = yX0_canCook.cls := ⟨by decide, rfl⟩
theorem cy_X0_use : 0 < 12 ∧ (cN 0).1 = yX0_use.cls := ⟨by decide, rfl⟩
theorem cy_X1_fewest : 1 < 12 ∧ (cN 1).1 = yX1_fewest.cls := ⟨by decide, rfl⟩
theorem cy_X1_gather : 1 < 12 ∧ (cN 1).1 = yX1_gather.cls := ⟨by decide, rfl⟩
theorem cy_X1_addFalling : 1 < 12 ∧ (cN 1).1 = yX1_addFalling.cls := ⟨by decide, rfl⟩
theorem cy_X1_bestAlone : 1 < 12 ∧ (cN 1).1 = yX1_bestAlone.cls := ⟨by decide, rfl⟩
theorem cy_X1_fewestReaching : 1 < 12 ∧ (cN 1).1 = yX1_fewestReaching.cls := ⟨by decide, rfl⟩
theorem cy_X1_search : 1 < 12 ∧ (cN 1).1 = yX1_search.cls := ⟨by decide, rfl⟩
theorem cy_X2_empty : 2 < 12 ∧ (cN 2).1 = yX2_empty.cls := ⟨by decide, rfl⟩
theorem cy_X2_isFull : 2 < 12 ∧ (cN 2).1 = yX2_isFull.cls := ⟨by decide, rfl⟩
theorem cy_X2_beginLine : 2 < 12 ∧ (cN 2).1 = yX2_beginLine.cls := ⟨by decide, rfl⟩
theorem cy_X2_beginWhen : 2 < 12 ∧ (cN 2).1 = yX2_beginWhen.cls := ⟨by decide, rfl⟩
theorem cy_X2_closeLine : 2 < 12 ∧ (cN 2).1 = yX2_closeLine.cls := ⟨by decide, rfl⟩
theorem cy_X2_addStep : 2 < 12 ∧ (cN 2).1 = yX2_addStep.cls := ⟨by decide, rfl⟩
theorem cy_X2_copyFrom : 2 < 12 ∧ (cN 2).1 = yX2_copyFrom.cls := ⟨by decide, rfl⟩
theorem cy_X2_tells : 2 < 12 ∧ (cN 2).1 = yX2_tells.cls := ⟨by decide, rfl⟩
theorem cy_X2_worked : 2 < 12 ∧ (cN 2).1 = yX2_worked.cls := ⟨by decide, rfl⟩
theorem cy_X3_tell : 3 < 12 ∧ (cN 3).1 = yX3_tell.cls := ⟨by decide, rfl⟩
theorem cy_X3_readLine : 3 < 12 ∧ (cN 3).1 = yX3_readLine.cls := ⟨by decide, rfl⟩
theorem cy_X3_readEither : 3 < 12 ∧ (cN 3).1 = yX3_readEither.cls := ⟨by decide, rfl⟩
theorem cy_X3_readCondition : 3 < 12 ∧ (cN 3).1 = yX3_readCondition.cls := ⟨by decide, rfl⟩
theorem cy_X3_readSum : 3 < 12 ∧ (cN 3).1 = yX3_readSum.cls := ⟨by decide, rfl⟩
theorem cy_X3_addWaiting : 3 < 12 ∧ (cN 3).1 = yX3_addWaiting.cls := ⟨by decide, rfl⟩
theorem cy_X3_readUnit : 3 < 12 ∧ (cN 3).1 = yX3_readUnit.cls := ⟨by decide, rfl⟩
theorem cy_X4_read : 4 < 12 ∧ (cN 4).1 = yX4_read.cls := ⟨by decide, rfl⟩
theorem cy_X4_readLine : 4 < 12 ∧ (cN 4).1 = yX4_readLine.cls := ⟨by decide, rfl⟩
theorem cy_X4_readKind : 4 < 12 ∧ (cN 4).1 = yX4_readKind.cls := ⟨by decide, rfl⟩
theorem cy_X4_readFeast : 4 < 12 ∧ (cN 4).1 = yX4_readFeast.cls := ⟨by decide, rfl⟩
theorem cy_X4_readWant : 4 < 12 ∧ (cN 4).1 = yX4_readWant.cls := ⟨by decide, rfl⟩
theorem cy_X4_readDish : 4 < 12 ∧ (cN 4).1 = yX4_readDish.cls := ⟨by decide, rfl⟩
theorem cy_X4_readParts : 4 < 12 ∧ (cN 4).1 = yX4_readParts.cls := ⟨by decide, rfl⟩
theorem cy_X4_begins : 4 < 12 ∧ (cN 4).1 = yX4_begins.cls := ⟨by decide, rfl⟩
theorem cy_X4_takesNumber : 4 < 12 ∧ (cN 4).1 = yX4_takesNumber.cls := ⟨by decide, rfl⟩
theorem cy_X5_copyFrom : 5 < 12 ∧ (cN 5).1 = yX5_copyFrom.cls := ⟨by decide, rfl⟩
theorem cy_X5_weighBolt : 5 < 12 ∧ (cN 5).1 = yX5_weighBolt.cls := ⟨by decide, rfl⟩
theorem cy_X5_worthWith : 5 < 12 ∧ (cN 5).1 = yX5_worthWith.cls := ⟨by decide, rfl⟩
theorem cy_X5_boltWorth : 5 < 12 ∧ (cN 5).1 = yX5_boltWorth.cls := ⟨by decide, rfl⟩
theorem cy_X5_piecesInBolt : 5 < 12 ∧ (cN 5).1 = yX5_piecesInBolt.cls := ⟨by decide, rfl⟩
theorem cy_X5_oddsForged : 5 < 12 ∧ (cN 5).1 = yX5_oddsForged.cls := ⟨by decide, rfl⟩
theorem cy_X5_testToLookAt : 5 < 12 ∧ (cN 5).1 = yX5_testToLookAt.cls := ⟨by decide, rfl⟩
theorem cy_X5_priceTaken : 5 < 12 ∧ (cN 5).1 = yX5_priceTaken.cls := ⟨by decide, rfl⟩
theorem cy_X5_firstLimitAtLeast : 5 < 12 ∧ (cN 5).1 = yX5_firstLimitAtLeast.cls := ⟨by decide, rfl⟩
theorem cy_X5_fewestTradesTo : 5 < 12 ∧ (cN 5).1 = yX5_fewestTradesTo.cls := ⟨by decide, rfl⟩
theorem cy_X5_kindsBehind : 5 < 12 ∧ (cN 5).1 = yX5_kindsBehind.cls := ⟨by decide, rfl⟩
theorem cy_X5_fewestTradesBack : 5 < 12 ∧ (cN 5).1 = yX5_fewestTradesBack.cls := ⟨by decide, rfl⟩
theorem cy_X5_walkOn : 5 < 12 ∧ (cN 5).1 = yX5_walkOn.cls := ⟨by decide, rfl⟩
theorem cy_X5_gains : 5 < 12 ∧ (cN 5).1 = yX5_gains.cls := ⟨by decide, rfl⟩
theorem cy_X6_copyFrom : 6 < 12 ∧ (cN 6).1 = yX6_copyFrom.cls := ⟨by decide, rfl⟩
theorem cy_X6_linesOf : 6 < 12 ∧ (cN 6).1 = yX6_linesOf.cls := ⟨by decide, rfl⟩
theorem cy_X6_feastCanBe : 6 < 12 ∧ (cN 6).1 = yX6_feastCanBe.cls := ⟨by decide, rfl⟩
theorem cy_X6_forgingCanBe : 6 < 12 ∧ (cN 6).1 = yX6_forgingCanBe.cls := ⟨by decide, rfl⟩
theorem cy_X6_cutCanBe : 6 < 12 ∧ (cN 6).1 = yX6_cutCanBe.cls := ⟨by decide, rfl⟩
theorem cy_X6_joiningCanBe : 6 < 12 ∧ (cN 6).1 = yX6_joiningCanBe.cls := ⟨by decide, rfl⟩
theorem cy_X6_askOfFeast : 6 < 12 ∧ (cN 6).1 = yX6_askOfFeast.cls := ⟨by decide, rfl⟩
theorem cy_X6_askOfRemain : 6 < 12 ∧ (cN 6).1 = yX6_askOfRemain.cls := ⟨by decide, rfl⟩
theorem cy_X6_leftByFeast : 6 < 12 ∧ (cN 6).1 = yX6_leftByFeast.cls := ⟨by decide, rfl⟩
theorem cy_X6_edgeOfFeast : 6 < 12 ∧ (cN 6).1 = yX6_edgeOfFeast.cls := ⟨by decide, rfl⟩
theorem cy_X6_priceOf : 6 < 12 ∧ (cN 6).1 = yX6_priceOf.cls := ⟨by decide, rfl⟩
theorem cy_X6_spoilOf : 6 < 12 ∧ (cN 6).1 = yX6_spoilOf.cls := ⟨by decide, rfl⟩
theorem cy_X6_ageOf : 6 < 12 ∧ (cN 6).1 = yX6_ageOf.cls := ⟨by decide, rfl⟩
theorem cy_X6_isTooOld : 6 < 12 ∧ (cN 6).1 = yX6_isTooOld.cls := ⟨by decide, rfl⟩
theorem cy_X6_remainsOfKind : 6 < 12 ∧ (cN 6).1 = yX6_remainsOfKind.cls := ⟨by decide, rfl⟩
theorem cy_X6_sizesOfKind : 6 < 12 ∧ (cN 6).1 = yX6_sizesOfKind.cls := ⟨by decide, rfl⟩
theorem cy_X6_holdFeast : 6 < 12 ∧ (cN 6).1 = yX6_holdFeast.cls := ⟨by decide, rfl⟩
theorem cy_X6_forgeOne : 6 < 12 ∧ (cN 6).1 = yX6_forgeOne.cls := ⟨by decide, rfl⟩
theorem cy_X6_cutOne : 6 < 12 ∧ (cN 6).1 = yX6_cutOne.cls := ⟨by decide, rfl⟩
theorem cy_X6_joinTwo : 6 < 12 ∧ (cN 6).1 = yX6_joinTwo.cls := ⟨by decide, rfl⟩
theorem cy_X6_sellOne : 6 < 12 ∧ (cN 6).1 = yX6_sellOne.cls := ⟨by decide, rfl⟩
theorem cy_X6_beginDay : 6 < 12 ∧ (cN 6).1 = yX6_beginDay.cls := ⟨by decide, rfl⟩
theorem cy_X6_meets : 6 < 12 ∧ (cN 6).1 = yX6_meets.cls := ⟨by decide, rfl⟩
theorem cy_X6_firstMissed : 6 < 12 ∧ (cN 6).1 = yX6_firstMissed.cls := ⟨by decide, rfl⟩
theorem cy_X6_endDay : 6 < 12 ∧ (cN 6).1 = yX6_endDay.cls := ⟨by decide, rfl⟩
theorem cy_X6_isSpoilt : 6 < 12 ∧ (cN 6).1 = yX6_isSpoilt.cls := ⟨by decide, rfl⟩
theorem cy_X6_inspectorsCome : 6 < 12 ∧ (cN 6).1 = yX6_inspectorsCome.cls := ⟨by decide, rfl⟩
theorem cy_X6_dogsCome : 6 < 12 ∧ (cN 6).1 = yX6_dogsCome.cls := ⟨by decide, rfl⟩
theorem cy_X6_lose : 6 < 12 ∧ (cN 6).1 = yX6_lose.cls := ⟨by decide, rfl⟩
theorem cy_X6_draw : 6 < 12 ∧ (cN 6).1 = yX6_draw.cls := ⟨by decide, rfl⟩
theorem cy_X6_metSet : 6 < 12 ∧ (cN 6).1 = yX6_metSet.cls := ⟨by decide, rfl⟩
theorem cy_X6_putMetSet : 6 < 12 ∧ (cN 6).1 = yX6_putMetSet.cls := ⟨by decide, rfl⟩
theorem cy_X6_guestsLeavingMost : 6 < 12 ∧ (cN 6).1 = yX6_guestsLeavingMost.cls := ⟨by decide, rfl⟩
theorem cy_X6_feastsLeaving : 6 < 12 ∧ (cN 6).1 = yX6_feastsLeaving.cls := ⟨by decide, rfl⟩
theorem cy_X6_kindParting : 6 < 12 ∧ (cN 6).1 = yX6_kindParting.cls := ⟨by decide, rfl⟩
theorem cy_X6_feastsOfKind : 6 < 12 ∧ (cN 6).1 = yX6_feastsOfKind.cls := ⟨by decide, rfl⟩
theorem cy_X6_bestWait : 6 < 12 ∧ (cN 6).1 = yX6_bestWait.cls := ⟨by decide, rfl⟩
theorem cy_X7_forget : 7 < 12 ∧ (cN 7).1 = yX7_forget.cls := ⟨by decide, rfl⟩
theorem cy_X7_keep : 7 < 12 ∧ (cN 7).1 = yX7_keep.cls := ⟨by decide, rfl⟩
theorem cy_X7_giveBack : 7 < 12 ∧ (cN 7).1 = yX7_giveBack.cls := ⟨by decide, rfl⟩
theorem cy_X8_has : 8 < 12 ∧ (cN 8).1 = yX8_has.cls := ⟨by decide, rfl⟩
theorem cy_X8_isFull : 8 < 12 ∧ (cN 8).1 = yX8_isFull.cls := ⟨by decide, rfl⟩
theorem cy_X8_cellOf : 8 < 12 ∧ (cN 8).1 = yX8_cellOf.cls := ⟨by decide, rfl⟩
theorem cy_X8_at : 8 < 12 ∧ (cN 8).1 = yX8_at.cls := ⟨by decide, rfl⟩
theorem cy_X8_put : 8 < 12 ∧ (cN 8).1 = yX8_put.cls := ⟨by decide, rfl⟩
theorem cy_X8_addEmpty : 8 < 12 ∧ (cN 8).1 = yX8_addEmpty.cls := ⟨by decide, rfl⟩
theorem cy_X8_add : 8 < 12 ∧ (cN 8).1 = yX8_add.cls := ⟨by decide, rfl⟩
theorem cy_X8_addTold : 8 < 12 ∧ (cN 8).1 = yX8_addTold.cls := ⟨by decide, rfl⟩
theorem cy_X8_empty : 8 < 12 ∧ (cN 8).1 = yX8_empty.cls := ⟨by decide, rfl⟩
theorem cy_X8_keepFirst : 8 < 12 ∧ (cN 8).1 = yX8_keepFirst.cls := ⟨by decide, rfl⟩
theorem cy_X8_drop : 8 < 12 ∧ (cN 8).1 = yX8_drop.cls := ⟨by decide, rfl⟩
theorem cy_X8_copyFrom : 8 < 12 ∧ (cN 8).1 = yX8_copyFrom.cls := ⟨by decide, rfl⟩
theorem cy_X9_hasRoomFor : 9 < 12 ∧ (cN 9).1 = yX9_hasRoomFor.cls := ⟨by decide, rfl⟩
theorem cy_X9_addNumber : 9 < 12 ∧ (cN 9).1 = yX9_addNumber.cls := ⟨by decide, rfl⟩
theorem cy_X9_split : 9 < 12 ∧ (cN 9).1 = yX9_split.cls := ⟨by decide, rfl⟩
theorem cy_X9_splitOne : 9 < 12 ∧ (cN 9).1 = yX9_splitOne.cls := ⟨by decide, rfl⟩
theorem cy_X9_byteAt : 9 < 12 ∧ (cN 9).1 = yX9_byteAt.cls := ⟨by decide, rfl⟩
theorem cy_X9_behindLetters : 9 < 12 ∧ (cN 9).1 = yX9_behindLetters.cls := ⟨by decide, rfl⟩
theorem cy_X9_behindDigits : 9 < 12 ∧ (cN 9).1 = yX9_behindDigits.cls := ⟨by decide, rfl⟩
theorem cy_X9_numberBetween : 9 < 12 ∧ (cN 9).1 = yX9_numberBetween.cls := ⟨by decide, rfl⟩
theorem cy_X9_wordBetween : 9 < 12 ∧ (cN 9).1 = yX9_wordBetween.cls := ⟨by decide, rfl⟩
theorem cy_X9_isWordAt : 9 < 12 ∧ (cN 9).1 = yX9_isWordAt.cls := ⟨by decide, rfl⟩
theorem cy_X9_addToken : 9 < 12 ∧ (cN 9).1 = yX9_addToken.cls := ⟨by decide, rfl⟩
theorem cy_X9_type : 9 < 12 ∧ (cN 9).1 = yX9_type.cls := ⟨by decide, rfl⟩
theorem cy_X9_value : 9 < 12 ∧ (cN 9).1 = yX9_value.cls := ⟨by decide, rfl⟩
theorem cy_X9_atEnd : 9 < 12 ∧ (cN 9).1 = yX9_atEnd.cls := ⟨by decide, rfl⟩
theorem cy_X9_take : 9 < 12 ∧ (cN 9).1 = yX9_take.cls := ⟨by decide, rfl⟩
theorem cy_X9_fails : 9 < 12 ∧ (cN 9).1 = yX9_fails.cls := ⟨by decide, rfl⟩
theorem cy_X9_takes : 9 < 12 ∧ (cN 9).1 = yX9_takes.cls := ⟨by decide, rfl⟩
theorem cy_X10_state : 10 < 12 ∧ (cN 10).1 = yX10_state.cls := ⟨by decide, rfl⟩
theorem cy_X10_set : 10 < 12 ∧ (cN 10).1 = yX10_set.cls := ⟨by decide, rfl⟩
theorem cy_X10_feast : 10 < 12 ∧ (cN 10).1 = yX10_feast.cls := ⟨by decide, rfl⟩
theorem cy_X10_forge : 10 < 12 ∧ (cN 10).1 = yX10_forge.cls := ⟨by decide, rfl⟩
theorem cy_X10_cut : 10 < 12 ∧ (cN 10).1 = yX10_cut.cls := ⟨by decide, rfl⟩
theorem cy_X10_join : 10 < 12 ∧ (cN 10).1 = yX10_join.cls := ⟨by decide, rfl⟩
theorem cy_X10_sell : 10 < 12 ∧ (cN 10).1 = yX10_sell.cls := ⟨by decide, rfl⟩
theorem cy_X10_days : 10 < 12 ∧ (cN 10).1 = yX10_days.cls := ⟨by decide, rfl⟩
theorem cy_X10_feed : 10 < 12 ∧ (cN 10).1 = yX10_feed.cls := ⟨by decide, rfl⟩
theorem cy_X10_end : 10 < 12 ∧ (cN 10).1 = yX10_end.cls := ⟨by decide, rfl⟩
theorem cy_X10_text : 10 < 12 ∧ (cN 10).1 = yX10_text.cls := ⟨by decide, rfl⟩
theorem cy_X10_fault : 10 < 12 ∧ (cN 10).1 = yX10_fault.cls := ⟨by decide, rfl⟩
theorem cy_X10_remain : 10 < 12 ∧ (cN 10).1 = yX10_remain.cls := ⟨by decide, rfl⟩
theorem cy_X10_kind : 10 < 12 ∧ (cN 10).1 = yX10_kind.cls := ⟨by decide, rfl⟩
theorem cy_X10_left : 10 < 12 ∧ (cN 10).1 = yX10_left.cls := ⟨by decide, rfl⟩
theorem cy_X10_want : 10 < 12 ∧ (cN 10).1 = yX10_want.cls := ⟨by decide, rfl⟩
theorem cy_X10_book : 10 < 12 ∧ (cN 10).1 = yX10_book.cls := ⟨by decide, rfl⟩
theorem cy_X10_goes : 10 < 12 ∧ (cN 10).1 = yX10_goes.cls := ⟨by decide, rfl⟩
theorem cy_X10_joins : 10 < 12 ∧ (cN 10).1 = yX10_joins.cls := ⟨by decide, rfl⟩
theorem cy_X10_most : 10 < 12 ∧ (cN 10).1 = yX10_most.cls := ⟨by decide, rfl⟩
theorem cy_X10_piece : 10 < 12 ∧ (cN 10).1 = yX10_piece.cls := ⟨by decide, rfl⟩
theorem cy_X10_cuts : 10 < 12 ∧ (cN 10).1 = yX10_cuts.cls := ⟨by decide, rfl⟩
theorem cy_X10_stalls : 10 < 12 ∧ (cN 10).1 = yX10_stalls.cls := ⟨by decide, rfl⟩
theorem cy_X10_test : 10 < 12 ∧ (cN 10).1 = yX10_test.cls := ⟨by decide, rfl⟩
theorem cy_X10_forged : 10 < 12 ∧ (cN 10).1 = yX10_forged.cls := ⟨by decide, rfl⟩
theorem cy_X10_lookAt : 10 < 12 ∧ (cN 10).1 = yX10_lookAt.cls := ⟨by decide, rfl⟩
theorem cy_X10_crumbs : 10 < 12 ∧ (cN 10).1 = yX10_crumbs.cls := ⟨by decide, rfl⟩
theorem cy_X10_cooks : 10 < 12 ∧ (cN 10).1 = yX10_cooks.cls := ⟨by decide, rfl⟩
theorem cy_X10_waits : 10 < 12 ∧ (cN 10).1 = yX10_waits.cls := ⟨by decide, rfl⟩
theorem cy_X10_limit : 10 < 12 ∧ (cN 10).1 = yX10_limit.cls := ⟨by decide, rfl⟩
theorem cy_X10_dusk : 10 < 12 ∧ (cN 10).1 = yX10_dusk.cls := ⟨by decide, rfl⟩
theorem cy_X10_trade : 10 < 12 ∧ (cN 10).1 = yX10_trade.cls := ⟨by decide, rfl⟩
theorem cy_X10_ring : 10 < 12 ∧ (cN 10).1 = yX10_ring.cls := ⟨by decide, rfl⟩
theorem cy_X10_back : 10 < 12 ∧ (cN 10).1 = yX10_back.cls := ⟨by decide, rfl⟩
theorem cy_X10_undo : 10 < 12 ∧ (cN 10).1 = yX10_undo.cls := ⟨by decide, rfl⟩
theorem cy_X10_image : 10 < 12 ∧ (cN 10).1 = yX10_image.cls := ⟨by decide, rfl⟩
theorem cy_X10_look : 10 < 12 ∧ (cN 10).1 = yX10_look.cls := ⟨by decide, rfl⟩
theorem cy_X10_lookAtTold : 10 < 12 ∧ (cN 10).1 = yX10_lookAtTold.cls := ⟨by decide, rfl⟩
theorem cy_X10_tellLines : 10 < 12 ∧ (cN 10).1 = yX10_tellLines.cls := ⟨by decide, rfl⟩
theorem cy_X11_isKind : 11 < 12 ∧ (cN 11).1 = yX11_isKind.cls := ⟨by decide, rfl⟩
theorem cy_X11_isRemain : 11 < 12 ∧ (cN 11).1 = yX11_isRemain.cls := ⟨by decide, rfl⟩
theorem cy_X11_ofRemain : 11 < 12 ∧ (cN 11).1 = yX11_ofRemain.cls := ⟨by decide, rfl⟩
theorem cy_X11_wholeOf : 11 < 12 ∧ (cN 11).1 = yX11_wholeOf.cls := ⟨by decide, rfl⟩
theorem cy_X11_keepsOf : 11 < 12 ∧ (cN 11).1 = yX11_keepsOf.cls := ⟨by decide, rfl⟩
theorem cy_X11_ageOf : 11 < 12 ∧ (cN 11).1 = yX11_ageOf.cls := ⟨by decide, rfl⟩
theorem cy_X11_forgets : 11 < 12 ∧ (cN 11).1 = yX11_forgets.cls := ⟨by decide, rfl⟩
theorem cy_X11_state : 11 < 12 ∧ (cN 11).1 = yX11_state.cls := ⟨by decide, rfl⟩
theorem cy_X11_draw : 11 < 12 ∧ (cN 11).1 = yX11_draw.cls := ⟨by decide, rfl⟩
theorem cy_X11_set : 11 < 12 ∧ (cN 11).1 = yX11_set.cls := ⟨by decide, rfl⟩
theorem cy_X11_feed : 11 < 12 ∧ (cN 11).1 = yX11_feed.cls := ⟨by decide, rfl⟩
theorem cy_X11_end : 11 < 12 ∧ (cN 11).1 = yX11_end.cls := ⟨by decide, rfl⟩
theorem cy_X11_see : 11 < 12 ∧ (cN 11).1 = yX11_see.cls := ⟨by decide, rfl⟩
theorem cy_X11_is : 11 < 12 ∧ (cN 11).1 = yX11_is.cls := ⟨by decide, rfl⟩
theorem cy_X11_asked : 11 < 12 ∧ (cN 11).1 = yX11_asked.cls := ⟨by decide, rfl⟩
theorem cy_X11_lawWord : 11 < 12 ∧ (cN 11).1 = yX11_lawWord.cls := ⟨by decide, rfl⟩
theorem cy_X11_kindWord : 11 < 12 ∧ (cN 11).1 = yX11_kindWord.cls := ⟨by decide, rfl⟩
theorem cy_X11_feastWord : 11 < 12 ∧ (cN 11).1 = yX11_feastWord.cls := ⟨by decide, rfl⟩
theorem cy_X11_wantWord : 11 < 12 ∧ (cN 11).1 = yX11_wantWord.cls := ⟨by decide, rfl⟩
theorem cy_X11_word : 11 < 12 ∧ (cN 11).1 = yX11_word.cls := ⟨by decide, rfl⟩
theorem cy_X11_next0 : 11 < 12 ∧ (cN 11).1 = yX11_next0.cls := ⟨by decide, rfl⟩
theorem cy_X11_bad : 11 < 12 ∧ (cN 11).1 = yX11_bad.cls := ⟨by decide, rfl⟩
theorem cy_X11_need : 11 < 12 ∧ (cN 11).1 = yX11_need.cls := ⟨by decide, rfl⟩
theorem cy_X11_lay : 11 < 12 ∧ (cN 11).1 = yX11_lay.cls := ⟨by decide, rfl⟩
theorem cy_X11_opens : 11 < 12 ∧ (cN 11).1 = yX11_opens.cls := ⟨by decide, rfl⟩
theorem cy_X11_sumUp : 11 < 12 ∧ (cN 11).1 = yX11_sumUp.cls := ⟨by decide, rfl⟩
theorem cy_X11_product : 11 < 12 ∧ (cN 11).1 = yX11_product.cls := ⟨by decide, rfl⟩
theorem cy_X11_unit : 11 < 12 ∧ (cN 11).1 = yX11_unit.cls := ⟨by decide, rfl⟩
theorem cy_X11_any : 11 < 12 ∧ (cN 11).1 = yX11_any.cls := ⟨by decide, rfl⟩
theorem cy_X11_every : 11 < 12 ∧ (cN 11).1 = yX11_every.cls := ⟨by decide, rfl⟩
theorem cy_X11_oneTest : 11 < 12 ∧ (cN 11).1 = yX11_oneTest.cls := ⟨by decide, rfl⟩
theorem cy_X11_aLine : 11 < 12 ∧ (cN 11).1 = yX11_aLine.cls := ⟨by decide, rfl⟩
theorem cy_X11_readsLaw : 11 < 12 ∧ (cN 11).1 = yX11_readsLaw.cls := ⟨by decide, rfl⟩
theorem cy_X11_number : 11 < 12 ∧ (cN 11).1 = yX11_number.cls := ⟨by decide, rfl⟩
theorem cy_X11_told : 11 < 12 ∧ (cN 11).1 = yX11_told.cls := ⟨by decide, rfl⟩
theorem cy_X11_aKind : 11 < 12 ∧ (cN 11).1 = yX11_aKind.cls := ⟨by decide, rfl⟩
theorem cy_X11_aFeast : 11 < 12 ∧ (cN 11).1 = yX11_aFeast.cls := ⟨by decide, rfl⟩
theorem cy_X11_aWant : 11 < 12 ∧ (cN 11).1 = yX11_aWant.cls := ⟨by decide, rfl⟩
theorem cy_X11_aDish : 11 < 12 ∧ (cN 11).1 = yX11_aDish.cls := ⟨by decide, rfl⟩
theorem cy_X11_aRow : 11 < 12 ∧ (cN 11).1 = yX11_aRow.cls := ⟨by decide, rfl⟩
theorem cy_X11_readsRows : 11 < 12 ∧ (cN 11).1 = yX11_readsRows.cls := ⟨by decide, rfl⟩
theorem cy_X11_putsLaw : 11 < 12 ∧ (cN 11).1 = yX11_putsLaw.cls := ⟨by decide, rfl⟩
theorem cy_X11_puts : 11 < 12 ∧ (cN 11).1 = yX11_puts.cls := ⟨by decide, rfl⟩
theorem cy_X11_putsKinds : 11 < 12 ∧ (cN 11).1 = yX11_putsKinds.cls := ⟨by decide, rfl⟩
theorem cy_X11_putsText : 11 < 12 ∧ (cN 11).1 = yX11_putsText.cls := ⟨by decide, rfl⟩
theorem cy_X11_text : 11 < 12 ∧ (cN 11).1 = yX11_text.cls := ⟨by decide, rfl⟩
theorem cy_X11_fault : 11 < 12 ∧ (cN 11).1 = yX11_fault.cls := ⟨by decide, rfl⟩
theorem cy_X11_comesTo : 11 < 12 ∧ (cN 11).1 = yX11_comesTo.cls := ⟨by decide, rfl⟩
theorem cy_X11_isSo : 11 < 12 ∧ (cN 11).1 = yX11_isSo.cls := ⟨by decide, rfl⟩
theorem cy_X11_says : 11 < 12 ∧ (cN 11).1 = yX11_says.cls := ⟨by decide, rfl⟩
theorem cy_X11_laysFeast : 11 < 12 ∧ (cN 11).1 = yX11_laysFeast.cls := ⟨by decide, rfl⟩
theorem cy_X11_leftOf : 11 < 12 ∧ (cN 11).1 = yX11_leftOf.cls := ⟨by decide, rfl⟩
theorem cy_X11_edgeOf : 11 < 12 ∧ (cN 11).1 = yX11_edgeOf.cls := ⟨by decide, rfl⟩
theorem cy_X11_laysRemain : 11 < 12 ∧ (cN 11).1 = yX11_laysRemain.cls := ⟨by decide, rfl⟩
theorem cy_X11_priceOf : 11 < 12 ∧ (cN 11).1 = yX11_priceOf.cls := ⟨by decide, rfl⟩
theorem cy_X11_spoilOf : 11 < 12 ∧ (cN 11).1 = yX11_spoilOf.cls := ⟨by decide, rfl⟩
theorem cy_X11_keeps : 11 < 12 ∧ (cN 11).1 = yX11_keeps.cls := ⟨by decide, rfl⟩
theorem cy_X11_undo : 11 < 12 ∧ (cN 11).1 = yX11_undo.cls := ⟨by decide, rfl⟩
theorem cy_X11_notes : 11 < 12 ∧ (cN 11).1 = yX11_notes.cls := ⟨by decide, rfl⟩
theorem cy_X11_comes : 11 < 12 ∧ (cN 11).1 = yX11_comes.cls := ⟨by decide, rfl⟩
theorem cy_X11_goesAway : 11 < 12 ∧ (cN 11).1 = yX11_goesAway.cls := ⟨by decide, rfl⟩
theorem cy_X11_feasts : 11 < 12 ∧ (cN 11).1 = yX11_feasts.cls := ⟨by decide, rfl⟩
theorem cy_X11_feast : 11 < 12 ∧ (cN 11).1 = yX11_feast.cls := ⟨by decide, rfl⟩
theorem cy_X11_forge : 11 < 12 ∧ (cN 11).1 = yX11_forge.cls := ⟨by decide, rfl⟩
theorem cy_X11_cut : 11 < 12 ∧ (cN 11).1 = yX11_cut.cls := ⟨by decide, rfl⟩
theorem cy_X11_join : 11 < 12 ∧ (cN 11).1 = yX11_join.cls := ⟨by decide, rfl⟩
theorem cy_X11_sell : 11 < 12 ∧ (cN 11).1 = yX11_sell.cls := ⟨by decide, rfl⟩
theorem cy_X11_sumOf : 11 < 12 ∧ (cN 11).1 = yX11_sumOf.cls := ⟨by decide, rfl⟩
theorem cy_X11_placesOf : 11 < 12 ∧ (cN 11).1 = yX11_placesOf.cls := ⟨by decide, rfl⟩
theorem cy_X11_doesFor : 11 < 12 ∧ (cN 11).1 = yX11_doesFor.cls := ⟨by decide, rfl⟩
theorem cy_X11_joinsOf : 11 < 12 ∧ (cN 11).1 = yX11_joinsOf.cls := ⟨by decide, rfl⟩
theorem cy_X11_joins : 11 < 12 ∧ (cN 11).1 = yX11_joins.cls := ⟨by decide, rfl⟩
theorem cy_X11_ofWant : 11 < 12 ∧ (cN 11).1 = yX11_ofWant.cls := ⟨by decide, rfl⟩
theorem cy_X11_isMet : 11 < 12 ∧ (cN 11).1 = yX11_isMet.cls := ⟨by decide, rfl⟩
theorem cy_X11_meetsWants : 11 < 12 ∧ (cN 11).1 = yX11_meetsWants.cls := ⟨by decide, rfl⟩
theorem cy_X11_isSpoilt : 11 < 12 ∧ (cN 11).1 = yX11_isSpoilt.cls := ⟨by decide, rfl⟩
theorem cy_X11_spoils : 11 < 12 ∧ (cN 11).1 = yX11_spoils.cls := ⟨by decide, rfl⟩
theorem cy_X11_inspects : 11 < 12 ∧ (cN 11).1 = yX11_inspects.cls := ⟨by decide, rfl⟩
theorem cy_X11_dogs : 11 < 12 ∧ (cN 11).1 = yX11_dogs.cls := ⟨by decide, rfl⟩
theorem cy_X11_morning : 11 < 12 ∧ (cN 11).1 = yX11_morning.cls := ⟨by decide, rfl⟩
theorem cy_X11_evening : 11 < 12 ∧ (cN 11).1 = yX11_evening.cls := ⟨by decide, rfl⟩
theorem cy_X11_days : 11 < 12 ∧ (cN 11).1 = yX11_days.cls := ⟨by decide, rfl⟩
theorem cy_X11_remain : 11 < 12 ∧ (cN 11).1 = yX11_remain.cls := ⟨by decide, rfl⟩
theorem cy_X11_kind : 11 < 12 ∧ (cN 11).1 = yX11_kind.cls := ⟨by decide, rfl⟩
theorem cy_X11_left : 11 < 12 ∧ (cN 11).1 = yX11_left.cls := ⟨by decide, rfl⟩
theorem cy_X11_want : 11 < 12 ∧ (cN 11).1 = yX11_want.cls := ⟨by decide, rfl⟩
theorem cy_X11_book : 11 < 12 ∧ (cN 11).1 = yX11_book.cls := ⟨by decide, rfl⟩
theorem cy_X11_firstMissed : 11 < 12 ∧ (cN 11).1 = yX11_firstMissed.cls := ⟨by decide, rfl⟩
theorem cy_X11_goes : 11 < 12 ∧ (cN 11).1 = yX11_goes.cls := ⟨by decide, rfl⟩
theorem cy_X11_mostGuests : 11 < 12 ∧ (cN 11).1 = yX11_mostGuests.cls := ⟨by decide, rfl⟩
theorem cy_X11_holds : 11 < 12 ∧ (cN 11).1 = yX11_holds.cls := ⟨by decide, rfl⟩
theorem cy_X11_most : 11 < 12 ∧ (cN 11).1 = yX11_most.cls := ⟨by decide, rfl⟩
theorem cy_X11_piece : 11 < 12 ∧ (cN 11).1 = yX11_piece.cls := ⟨by decide, rfl⟩
theorem cy_X11_laysCuts : 11 < 12 ∧ (cN 11).1 = yX11_laysCuts.cls := ⟨by decide, rfl⟩
theorem cy_X11_cuts : 11 < 12 ∧ (cN 11).1 = yX11_cuts.cls := ⟨by decide, rfl⟩
theorem cy_X11_stalls : 11 < 12 ∧ (cN 11).1 = yX11_stalls.cls := ⟨by decide, rfl⟩
theorem cy_X11_test : 11 < 12 ∧ (cN 11).1 = yX11_test.cls := ⟨by decide, rfl⟩
theorem cy_X11_byTest : 11 < 12 ∧ (cN 11).1 = yX11_byTest.cls := ⟨by decide, rfl⟩
theorem cy_X11_areTests : 11 < 12 ∧ (cN 11).1 = yX11_areTests.cls := ⟨by decide, rfl⟩
theorem cy_X11_forged : 11 < 12 ∧ (cN 11).1 = yX11_forged.cls := ⟨by decide, rfl⟩
theorem cy_X11_lookAt : 11 < 12 ∧ (cN 11).1 = yX11_lookAt.cls := ⟨by decide, rfl⟩
theorem cy_X11_linesLeaving : 11 < 12 ∧ (cN 11).1 = yX11_linesLeaving.cls := ⟨by decide, rfl⟩
theorem cy_X11_greaterPart : 11 < 12 ∧ (cN 11).1 = yX11_greaterPart.cls := ⟨by decide, rfl⟩
theorem cy_X11_crumbs : 11 < 12 ∧ (cN 11).1 = yX11_crumbs.cls := ⟨by decide, rfl⟩
theorem cy_X11_cookedOf : 11 < 12 ∧ (cN 11).1 = yX11_cookedOf.cls := ⟨by decide, rfl⟩
theorem cy_X11_cooks : 11 < 12 ∧ (cN 11).1 = yX11_cooks.cls := ⟨by decide, rfl⟩
theorem cy_X11_waits : 11 < 12 ∧ (cN 11).1 = yX11_waits.cls := ⟨by decide, rfl⟩
theorem cy_X11_limit : 11 < 12 ∧ (cN 11).1 = yX11_limit.cls := ⟨by decide, rfl⟩
theorem cy_X11_takerAt : 11 < 12 ∧ (cN 11).1 = yX11_takerAt.cls := ⟨by decide, rfl⟩
theorem cy_X11_dusk : 11 < 12 ∧ (cN 11).1 = yX11_dusk.cls := ⟨by decide, rfl⟩
theorem cy_X11_trade : 11 < 12 ∧ (cN 11).1 = yX11_trade.cls := ⟨by decide, rfl⟩
theorem cy_X11_ring : 11 < 12 ∧ (cN 11).1 = yX11_ring.cls := ⟨by decide, rfl⟩
theorem cy_X11_backFrom : 11 < 12 ∧ (cN 11).1 = yX11_backFrom.cls := ⟨by decide, rfl⟩
theorem cy_X11_back : 11 < 12 ∧ (cN 11).1 = yX11_back.cls := ⟨by decide, rfl⟩
theorem cy_X11_image : 11 < 12 ∧ (cN 11).1 = yX11_image.cls := ⟨by decide, rfl⟩
theorem cy_X11_look : 11 < 12 ∧ (cN 11).1 = yX11_look.cls := ⟨by decide, rfl⟩
def f_J9_max_7cf53 (x y : Int32) : Int32 := if x < y then y else x
def f_J9_min_7cf53 (x y : Int32) : Int32 := if y < x then y else x
set_option maxRecDepth 100000 in
theorem mt_ini : Cond.initialized "java/lang/Math" ∈ lw_tbl := tb (i := 142) (by decide +kernel)
set_option maxRecDepth 100000 in
theorem mt_sta_max : Cond.static Lib.Math.max.name ∈ lw_tbl := tb (i := 581) (by decide +kernel)
set_option maxRecDepth 100000 in
theorem mt_cod_max : Cond.code Lib.Math.max.name Lib.Math.max.code 2 (some .int) ∈ lw_tbl := tb (i := 582) (by decide +kernel)
set_option maxRecDepth 100000 in
theorem mt_sta_min : Cond.static Lib.Math.min.name ∈ lw_tbl := tb (i := 554) (by decide +kernel)
set_option maxRecDepth 100000 in
theorem mt_cod_min : Cond.code Lib.Math.min.name Lib.Math.min.code 2 (some .int) ∈ lw_tbl := tb (i := 555) (by decide +kernel)
section RW
variable {l : Launch} {E : EV} {X : MI} {d : Nat} {pc : Nat} {L : List (Option Value)} {M : Mem} {Po : GH → Option Value → Prop}
theorem mx_cVi (As st : List Value) (b ci : Nat) (x : Int32) {index : Nat} {y : MethodName} {cc' : ByteArray} {nL' : Nat} {ret : Option FieldType} {d' : Nat} {stk : List Value} {M' : Mem} (hd : decode X.2.2.1 pc = .ok (.invokevirtual index, 3)) (hc : CL X.1 index y cc' nL' ret As.length) (hi : Cond.instanceMethod y ∈ lw_tbl ∧ Cond.selects y.cls y y ∈ lw_tbl) (hci : ci < 12 ∧ (cN ci).1 = y.cls) (ho : oc b = some ci) (hst : stk = As.reverse ++ .ref b :: st) (hcat : (st.map fun v => v.category).sum ≤ 8) (hdd : d' + 1 ≤ d) (hrun : RunM l E y cc' nL' ret d' (.ref b :: As) M M' (some (.int x))) (kk : Ex l E X d 0 0 (pc + 3) L (.int x :: st) (gh M') 0 0 Po) : Ex l E X d 0 0 pc L stk (gh M) 0 0 Po :=
  mx_callV hd hc hi hci ho hst hcat hdd hrun kk
theorem mx_cSi (As st : List Value) (x : Int32) {index : Nat} {y : MethodName} {cc' : ByteArray} {nL' : Nat} {ret : Option FieldType} {d' : Nat} {stk : List Value} {M' : Mem} (hd : decode X.2.2.1 pc = .ok (.invokestatic index, 3)) (hc : CL X.1 index y cc' nL' ret As.length) (hi : Cond.static y ∈ lw_tbl) (hst : stk = As.reverse ++ st) (hcat : (st.map fun v => v.category).sum ≤ 8) (hdd : d' + 1 ≤ d) (hrun : RunM l E y cc' nL' ret d' As M M' (some (.int x))) (kk : Ex l E X d 0 0 (pc + 3) L (.int x :: st) (gh M') 0 0 Po) : Ex l E X d 0 0 pc L stk (gh M) 0 0 Po :=
  mx_callS hd hc hi hst hcat hdd hrun kk
theorem mx_cVl (As st : List Value) (b ci : Nat) (x : Int64) {index : Nat} {y : MethodName} {cc' : ByteArray} {nL' : Nat} {ret : Option FieldType} {d' : Nat} {stk : List Value} {M' : Mem} (hd : decode X.2.2.1 pc = .ok (.invokevirtual index, 3)) (hc : CL X.1 index y cc' nL' ret As.length) (hi : Cond.instanceMethod y ∈ lw_tbl ∧ Cond.selects y.cls y y ∈ lw_tbl) (hci : ci < 12 ∧ (cN ci).1 = y.cls) (ho : oc b = some ci) (hst : stk = As.reverse ++ .ref b :: st) (hcat : (st.map fun v => v.category).sum ≤ 8) (hdd : d' + 1 ≤ d) (hrun : RunM l E y cc' nL' ret d' (.ref b :: As) M M' (some (.long x))) (kk : Ex l E X d 0 0 (pc + 3) L (.long x :: st) (gh M') 0 0 Po) : Ex l E X d 0 0 pc L stk (gh M) 0 0 Po :=
  mx_callV hd hc hi hci ho hst hcat hdd hrun kk
theorem mx_cSl (As st : List Value) (x : Int64) {index : Nat} {y : MethodName} {cc' : ByteArray} {nL' : Nat} {ret : Option FieldType} {d' : Nat} {stk : List Value} {M' : Mem} (hd : decode X.2.2.1 pc = .ok (.invokestatic index, 3)) (hc : CL X.1 index y cc' nL' ret As.length) (hi : Cond.static y ∈ lw_tbl) (hst : stk = As.reverse ++ st) (hcat : (st.map fun v => v.category).sum ≤ 8) (hdd : d' + 1 ≤ d) (hrun : RunM l E y cc' nL' ret d' As M M' (some (.long x))) (kk : Ex l E X d 0 0 (pc + 3) L (.long x :: st) (gh M') 0 0 Po) : Ex l E X d 0 0 pc L stk (gh M) 0 0 Po :=
  mx_callS hd hc hi hst hcat hdd hrun kk
theorem mx_cVr (As st : List Value) (b ci : Nat) (x : Nat) {index : Nat} {y : MethodName} {cc' : ByteArray} {nL' : Nat} {ret : Option FieldType} {d' : Nat} {stk : List Value} {M' : Mem} (hd : decode X.2.2.1 pc = .ok (.invokevirtual index, 3)) (hc : CL X.1 index y cc' nL' ret As.length) (hi : Cond.instanceMethod y ∈ lw_tbl ∧ Cond.selects y.cls y y ∈ lw_tbl) (hci : ci < 12 ∧ (cN ci).1 = y.cls) (ho : oc b = some ci) (hst : stk = As.reverse ++ .ref b :: st) (hcat : (st.map fun v => v.category).sum ≤ 8) (hdd : d' + 1 ≤ d) (hrun : RunM l E y cc' nL' ret d' (.ref b :: As) M M' (some (.ref x))) (kk : Ex l E X d 0 0 (pc + 3) L (.ref x :: st) (gh M') 0 0 Po) : Ex l E X d 0 0 pc L stk (gh M) 0 0 Po :=
  mx_callV hd hc hi hci ho hst hcat hdd hrun kk
theorem mx_cSr (As st : List Value) (x : Nat) {index : Nat} {y : MethodName} {cc' : ByteArray} {nL' : Nat} {ret : Option FieldType} {d' : Nat} {stk : List Value} {M' : Mem} (hd : decode X.2.2.1 pc = .ok (.invokestatic index, 3)) (hc : CL X.1 index y cc' nL' ret As.length) (hi : Cond.static y ∈ lw_tbl) (hst : stk = As.reverse ++ st) (hcat : (st.map fun v => v.category).sum ≤ 8) (hdd : d' + 1 ≤ d) (hrun : RunM l E y cc' nL' ret d' As M M' (some (.ref x))) (kk : Ex l E X d 0 0 (pc + 3) L (.ref x :: st) (gh M') 0 0 Po) : Ex l E X d 0 0 pc L stk (gh M) 0 0 Po :=
  mx_callS hd hc hi hst hcat hdd hrun kk
theorem mx_cVv (As st : List Value) (b ci : Nat)  {index : Nat} {y : MethodName} {cc' : ByteArray} {nL' : Nat} {ret : Option FieldType} {d' : Nat} {stk : List Value} {M' : Mem} (hd : decode X.2.2.1 pc = .ok (.invokevirtual index, 3)) (hc : CL X.1 index y cc' nL' ret As.length) (hi : Cond.instanceMethod y ∈ lw_tbl ∧ Cond.selects y.cls y y ∈ lw_tbl) (hci : ci < 12 ∧ (cN ci).1 = y.cls) (ho : oc b = some ci) (hst : stk = As.reverse ++ .ref b :: st) (hcat : (st.map fun v => v.category).sum ≤ 8) (hdd : d' + 1 ≤ d) (hrun : RunM l E y cc' nL' ret d' (.ref b :: As) M M' none) (kk : Ex l E X d 0 0 (pc + 3) L st (gh M') 0 0 Po) : Ex l E X d 0 0 pc L stk (gh M) 0 0 Po :=
  mx_callV hd hc hi hci ho hst hcat hdd hrun kk
theorem mx_cSv (As st : List Value)  {index : Nat} {y : MethodName} {cc' : ByteArray} {nL' : Nat} {ret : Option FieldType} {d' : Nat} {stk : List Value} {M' : Mem} (hd : decode X.2.2.1 pc = .ok (.invokestatic index, 3)) (hc : CL X.1 index y cc' nL' ret As.length) (hi : Cond.static y ∈ lw_tbl) (hst : stk = As.reverse ++ st) (hcat : (st.map fun v => v.category).sum ≤ 8) (hdd : d' + 1 ≤ d) (hrun : RunM l E y cc' nL' ret d' As M M' none) (kk : Ex l E X d 0 0 (pc + 3) L st (gh M') 0 0 Po) : Ex l E X d 0 0 pc L stk (gh M) 0 0 Po :=
  mx_callS hd hc hi hst hcat hdd hrun kk
theorem mx_max {x y : Int32} {st : List Value} {index : Nat} (hd : decode X.2.2.1 pc = .ok (.invokestatic index, 3)) (hl : Cond.methodLink X.1 index Lib.Math.max.name ∈ lw_tbl) (hdd : 1 ≤ d) (hcat : (st.map fun v => v.category).sum ≤ 8) (kk : Ex l E X d 0 0 (pc + 3) L (.int (f_J9_max_7cf53 x y) :: st) (gh M) 0 0 Po) : Ex l E X d 0 0 pc L (.int y :: .int x :: st) (gh M) 0 0 Po := by
  intro p e R s m args below meth c H locs ls Q C h1 h2 hlv hH hz hq
  have K := kk p e R s m args below meth c H locs ls Q C h1 h2 hlv hH hz hq
  have hen := C.2.2.2.2.2.1
  have hfr := C.2.2.2.2.2.2.2
  exact va_mmax C.1 C.2.1 (C.2.2.1.trans hlv.1.symm) C.2.2.2.1 (hen.word hl rfl) (hen.word mt_sta_max rfl) (hen.word mt_ini rfl) (hen.word mt_cod_max rfl) (by omega) (by rw [cat_map]; omega) (Nat.zero_le _) (Nat.zero_le _) hd K
theorem mx_min {x y : Int32} {st : List Value} {index : Nat} (hd : decode X.2.2.1 pc = .ok (.invokestatic index, 3)) (hl : Cond.methodLink X.1 index Lib.Math.min.name ∈ lw_tbl) (hdd : 1 ≤ d) (hcat : (st.map fun v => v.category).sum ≤ 8) (kk : Ex l E X d 0 0 (pc + 3) L (.int (f_J9_min_7cf53 x y) :: st) (gh M) 0 0 Po) : Ex l E X d 0 0 pc L (.int y :: .int x :: st) (gh M) 0 0 Po := by
  intro p e R s m args below meth c H locs ls Q C h1 h2 hlv hH hz hq
  have K := kk p e R s m args below meth c H locs ls Q C h1 h2 hlv hH hz hq
  have hen := C.2.2.2.2.2.1
  have hfr := C.2.2.2.2.2.2.2
  exact va_mmin C.1 C.2.1 (C.2.2.1.trans hlv.1.symm) C.2.2.2.1 (hen.word hl rfl) (hen.word mt_sta_min rfl) (hen.word mt_ini rfl) (hen.word mt_cod_min rfl) (by omega) (by rw [cat_map]; omega) (Nat.zero_le _) (Nat.zero_le _) hd K
theorem al_str {j : Nat} (h : j < nS) : al E (1000001 + j) = eK E j := by
  have h2 : j < 24 := h
  unfold al
  rw [if_neg (by omega), if_neg (by omega), if_pos (by omega), show 1000001 + j - 1000001 = j by omega]
theorem al_byt {j : Nat} : al E (2000001 + j) = eV E j := by
  unfold al
  rw [if_neg (by omega), if_neg (by omega), if_neg (by omega), show 2000001 + j - 2000001 = j by omega]
/-- a call on a string constant -/
theorem mx_cJi (As st : List Value) (b : Nat) (x : Int32) {index : Nat} {y : MethodName} {cc' : ByteArray} {nL' : Nat} {ret : Option FieldType} {d' : Nat} {stk : List Value} (hd : decode X.2.2.1 pc = .ok (.invokevirtual index, 3)) (hc : CL X.1 index y cc' nL' ret As.length) (hi : Cond.instanceMethod y ∈ lw_tbl ∧ Cond.selects y.cls y y ∈ lw_tbl) (hst : stk = As.reverse ++ .ref b :: st) (hcat : (st.map fun v => v.category).sum ≤ 8) (hdd : d' + 1 ≤ d) (hb : y.cls = "java/lang/String" ∧ ∃ j, j < nS ∧ b = 1000001 + j) (hrun : RunM l E y cc' nL' ret d' (.ref b :: As) M M (some (.int x))) (kk : Ex l E X d 0 0 (pc + 3) L (.int x :: st) (gh M) 0 0 Po) : Ex l E X d 0 0 pc L stk (gh M) 0 0 Po := by
  intro p e R s m args below meth c H locs ls Q C h1 h2 hlv hH hz hq
  refine w_size fun hle => ?_
  obtain ⟨hS0, j, hj, rfl⟩ := hb
  have hHs : H.size = eB E + (gh M).length := by have := hH.size C.2.2.2.2.2.2.1; omega
  have hen := C.2.2.2.2.2.1
  obtain ⟨hl, hcode, hini, hdd2, hnL⟩ := hc
  have hlow := hH.low C.2.2.2.2.2.2.1
  have hrec : ∃ cell : Cell, H[al E (1000001 + j)]? = some cell ∧ cell.vm.isStatics = false ∧ s.vm.findClass y.cls = some cell.cls := by
    have hv := (hen.2.2.1.1.kept (H1 := H) (fun a ha _ => hlow.2 a ha)).1 j hj
    obtain ⟨cell, g1, g2, g3, -⟩ := hv.1
    rw [al_str hj, hS0]
    exact ⟨cell, g1, g2, g3⟩
  have hfr := C.2.2.2.2.2.2.2
  have hS : CallFix p m c X.2.2.1 X.2.2.2 s args TK X.1 := ⟨C.1, C.2.1, C.2.2.1, C.2.2.2.1, hen.hts⟩
  have hR : (rmk d' 0 0).frames + 1 ≤ R.frames ∧ 8 + (nL' + 11) + (rmk d' 0 0).locals ≤ R.locals := ⟨by show d' + 1 ≤ _; omega, by show 8 + (nL' + 11) + 50 * d' ≤ _; omega⟩
  have hpre := pre_ok (vs := .ref (1000001 + j) :: As) C hH hHs
  subst hst
  have hstk : (As.reverse ++ Value.ref (1000001 + j) :: st).map (rv E) = (As.map (rv E)).reverse ++ .ref (al E (1000001 + j)) :: st.map (rv E) := by simp [rv]
  rw [hstk]
  have hg : ∀ (G' : GH) (v : Option Value), ((G' = gh M ∧ v = some (.int x)) ∧ retOK ret v) → G'.length = (gh M).length + 0 := fun G' w q => by rw [q.1.1, Nat.add_zero]
  have kk2 : ∀ (G' : GH) (v : Option Value), ((G' = gh M ∧ v = some (.int x)) ∧ retOK ret v) → Ex l E X d 0 0 (pc + 3) L (v.toList ++ st) G' (0 + 0) (0 + 0) Po := fun G' w q => by rw [q.1.1, q.1.2]; exact kk
  rcases hl with hl | ⟨host, hl⟩
  · have cw : CallW R s args X.1 y.cls index y cc' nL' ret [.code y cc' nL' ret] (rmk d' 0 0) 0 0 As.length := ⟨callB_of As.length hen.hts (good_code (args := args) hen hcode) rfl rfl rfl (hen.word hini rfl) (hen.word hl rfl) hdd2 hR, hen.word hi.1 rfl, hen.word hi.2 rfl⟩
    exact call_go C h1 h2 hlv hH hz hHs hq (W.runV hS hrun cw ⟨PreG.blind, hrec, hpre⟩ rfl (by simp) hlv.1 rfl (lv_room (by rw [cat_map]; exact hcat)) hd ⟨Nat.zero_le _, Nat.zero_le _⟩) hg kk2
  · have cw := va_cnB (R := R) (host := host) (own := X.1) (index := index) As.length (hen.hts (args := args)) (good_code (args := args) hen hcode) rfl (rm := rmk d' 0 0) rfl rfl (hen.word hl rfl) (hen.word hini rfl) hdd2 hR
    exact call_go C h1 h2 hlv hH hz hHs hq (va_Run.run (va_runVN hS hrun ⟨cw, hen.word hi.1 rfl, hen.word hi.2 rfl⟩ ⟨PreG.blind, hrec, hpre⟩ rfl (by simp) hlv.1 rfl (lv_room (by rw [cat_map]; exact hcat)) hd ⟨Nat.zero_le _, Nat.zero_le _⟩)) hg kk2
end RW
theorem sLnOK {s : Nat} {v : Int32} (h : strLn s = some v) : yJ0_length_8abf5.cls = "java/lang/String" ∧ ∃ j, j < nS ∧ s = 1000001 + j := by
  refine ⟨rfl, ?_⟩
  unfold strLn at h
  split at h
  · rename_i q
    refine ⟨s - 1000001, ?_, by omega⟩
    cases hq : lenS[s - 1000001]? with
    | none => rw [hq] at h; cases h
    | some x => exact (List.getElem?_eq_some_iff.mp hq).1
  · cases h
theorem sAtOK {s : Nat} {k v : Int32} (h : strAt s k = some v) : yJ0_charAt_5068e.cls = "java/lang/String" ∧ ∃ j, j < nS ∧ s = 1000001 + j := by
  refine ⟨rfl, ?_⟩
  unfold strAt at h
  split at h
  · rename_i q
    refine ⟨s - 1000001, ?_, by omega⟩
    split at h
    · rename_i bs hq
      exact (List.getElem?_eq_some_iff.mp hq).1
    · cases h
  · cases h
theorem rd_lit {M : Mem} {a n k : Nat} {i : Int32} (hl : la a = some n) (hi : inb i n = true) (hk : i.toNatClampNeg = k) : rd M a i = some (M a k) := by
  subst hk
  unfold rd
  rw [hl]
  exact if_pos hi
theorem wr_lit {M : Mem} {a n k : Nat} {i x : Int32} (hl : la a = some n) (hi : inb i n = true) (hk : i.toNatClampNeg = k) : wr M a i x = some (up2 M a k x) := by
  subst hk
  unfold wr
  rw [hl]
  exact if_pos hi
theorem la_at_152 : la 152 = some 1024 := by decide +kernel
theorem rdc_152_0 (M : Mem) : rd M 152 0 = some (M 152 0) := rd_lit la_at_152 (by decide) (by decide)
theorem wrc_152_0 (M : Mem) (x : Int32) : wr M 152 0 x = some (up2 M 152 0 x) := wr_lit la_at_152 (by decide) (by decide)
theorem la_at_153 : la 153 = some 1024 := by decide +kernel
theorem rdc_153_0 (M : Mem) : rd M 153 0 = some (M 153 0) := rd_lit la_at_153 (by decide) (by decide)
theorem wrc_153_0 (M : Mem) (x : Int32) : wr M 153 0 x = some (up2 M 153 0 x) := wr_lit la_at_153 (by decide) (by decide)
theorem la_at_156 : la 156 = some 1856 := by decide +kernel
theorem rdc_156_0 (M : Mem) : rd M 156 0 = some (M 156 0) := rd_lit la_at_156 (by decide) (by decide)
theorem wrc_156_0 (M : Mem) (x : Int32) : wr M 156 0 x = some (up2 M 156 0 x) := wr_lit la_at_156 (by decide) (by decide)
theorem rdc_156_1 (M : Mem) : rd M 156 1 = some (M 156 1) := rd_lit la_at_156 (by decide) (by decide)
theorem wrc_156_1 (M : Mem) (x : Int32) : wr M 156 1 x = some (up2 M 156 1 x) := wr_lit la_at_156 (by decide) (by decide)
theorem rdc_156_2 (M : Mem) : rd M 156 2 = some (M 156 2) := rd_lit la_at_156 (by decide) (by decide)
theorem wrc_156_2 (M : Mem) (x : Int32) : wr M 156 2 x = some (up2 M 156 2 x) := wr_lit la_at_156 (by decide) (by decide)
theorem rdc_156_3 (M : Mem) : rd M 156 3 = some (M 156 3) := rd_lit la_at_156 (by decide) (by decide)
theorem wrc_156_3 (M : Mem) (x : Int32) : wr M 156 3 x = some (up2 M 156 3 x) := wr_lit la_at_156 (by decide) (by decide)
theorem rdc_156_4 (M : Mem) : rd M 156 4 = some (M 156 4) := rd_lit la_at_156 (by decide) (by decide)
theorem wrc_156_4 (M : Mem) (x : Int32) : wr M 156 4 x = some (up2 M 156 4 x) := wr_lit la_at_156 (by decide) (by decide)
theorem rdc_156_5 (M : Mem) : rd M 156 5 = some (M 156 5) := rd_lit la_at_156 (by decide) (by decide)
theorem wrc_156_5 (M : Mem) (x : Int32) : wr M 156 5 x = some (up2 M 156 5 x) := wr_lit la_at_156 (by decide) (by decide)
theorem rdc_156_6 (M : Mem) : rd M 156 6 = some (M 156 6) := rd_lit la_at_156 (by decide) (by decide)
theorem wrc_156_6 (M : Mem) (x : Int32) : wr M 156 6 x = some (up2 M 156 6 x) := wr_lit la_at_156 (by decide) (by decide)
theorem rdc_156_7 (M : Mem) : rd M 156 7 = some (M 156 7) := rd_lit la_at_156 (by decide) (by decide)
theorem wrc_156_7 (M : Mem) (x : Int32) : wr M 156 7 x = some (up2 M 156 7 x) := wr_lit la_at_156 (by decide) (by decide)
theorem rdc_156_80 (M : Mem) : rd M 156 80 = some (M 156 80) := rd_lit la_at_156 (by decide) (by decide)
theorem wrc_156_80 (M : Mem) (x : Int32) : wr M 156 80 x = some (up2 M 156 80 x) := wr_lit la_at_156 (by decide) (by decide)
theorem rdc_156_81 (M : Mem) : rd M 156 81 = some (M 156 81) := rd_lit la_at_156 (by decide) (by decide)
theorem wrc_156_81 (M : Mem) (x : Int32) : wr M 156 81 x = some (up2 M 156 81 x) := wr_lit la_at_156 (by decide) (by decide)
theorem rdc_156_82 (M : Mem) : rd M 156 82 = some (M 156 82) := rd_lit la_at_156 (by decide) (by decide)
theorem wrc_156_82 (M : Mem) (x : Int32) : wr M 156 82 x = some (up2 M 156 82 x) := wr_lit la_at_156 (by decide) (by decide)
theorem rdc_156_83 (M : Mem) : rd M 156 83 = some (M 156 83) := rd_lit la_at_156 (by decide) (by decide)
theorem wrc_156_83 (M : Mem) (x : Int32) : wr M 156 83 x = some (up2 M 156 83 x) := wr_lit la_at_156 (by decide) (by decide)
theorem rdc_156_84 (M : Mem) : rd M 156 84 = some (M 156 84) := rd_lit la_at_156 (by decide) (by decide)
theorem wrc_156_84 (M : Mem) (x : Int32) : wr M 156 84 x = some (up2 M 156 84 x) := wr_lit la_at_156 (by decide) (by decide)
theorem rdc_156_85 (M : Mem) : rd M 156 85 = some (M 156 85) := rd_lit la_at_156 (by decide) (by decide)
theorem wrc_156_85 (M : Mem) (x : Int32) : wr M 156 85 x = some (up2 M 156 85 x) := wr_lit la_at_156 (by decide) (by decide)
theorem rdc_156_86 (M : Mem) : rd M 156 86 = some (M 156 86) := rd_lit la_at_156 (by decide) (by decide)
theorem wrc_156_86 (M : Mem) (x : Int32) : wr M 156 86 x = some (up2 M 156 86 x) := wr_lit la_at_156 (by decide) (by decide)
theorem rdc_156_87 (M : Mem) : rd M 156 87 = some (M 156 87) := rd_lit la_at_156 (by decide) (by decide)
theorem wrc_156_87 (M : Mem) (x : Int32) : wr M 156 87 x = some (up2 M 156 87 x) := wr_lit la_at_156 (by decide) (by decide)
theorem rdc_156_88 (M : Mem) : rd M 156 88 = some (M 156 88) := rd_lit la_at_156 (by decide) (by decide)
theorem wrc_156_88 (M : Mem) (x : Int32) : wr M 156 88 x = some (up2 M 156 88 x) := wr_lit la_at_156 (by decide) (by decide)
theorem rdc_156_89 (M : Mem) : rd M 156 89 = some (M 156 89) := rd_lit la_at_156 (by decide) (by decide)
theorem wrc_156_89 (M : Mem) (x : Int32) : wr M 156 89 x = some (up2 M 156 89 x) := wr_lit la_at_156 (by decide) (by decide)
theorem rdc_156_90 (M : Mem) : rd M 156 90 = some (M 156 90) := rd_lit la_at_156 (by decide) (by decide)
theorem wrc_156_90 (M : Mem) (x : Int32) : wr M 156 90 x = some (up2 M 156 90 x) := wr_lit la_at_156 (by decide) (by decide)
theorem la_at_164 : la 164 = some 420 := by decide +kernel
theorem rdc_164_0 (M : Mem) : rd M 164 0 = some (M 164 0) := rd_lit la_at_164 (by decide) (by decide)
theorem wrc_164_0 (M : Mem) (x : Int32) : wr M 164 0 x = some (up2 M 164 0 x) := wr_lit la_at_164 (by decide) (by decide)
theorem la_at_165 : la 165 = some 8 := by decide +kernel
theorem rdc_165_1 (M : Mem) : rd M 165 1 = some (M 165 1) := rd_lit la_at_165 (by decide) (by decide)
theorem wrc_165_1 (M : Mem) (x : Int32) : wr M 165 1 x = some (up2 M 165 1 x) := wr_lit la_at_165 (by decide) (by decide)
theorem rdc_165_2 (M : Mem) : rd M 165 2 = some (M 165 2) := rd_lit la_at_165 (by decide) (by decide)
theorem wrc_165_2 (M : Mem) (x : Int32) : wr M 165 2 x = some (up2 M 165 2 x) := wr_lit la_at_165 (by decide) (by decide)
theorem rdc_165_3 (M : Mem) : rd M 165 3 = some (M 165 3) := rd_lit la_at_165 (by decide) (by decide)
theorem wrc_165_3 (M : Mem) (x : Int32) : wr M 165 3 x = some (up2 M 165 3 x) := wr_lit la_at_165 (by decide) (by decide)
theorem rdc_165_4 (M : Mem) : rd M 165 4 = some (M 165 4) := rd_lit la_at_165 (by decide) (by decide)
theorem wrc_165_4 (M : Mem) (x : Int32) : wr M 165 4 x = some (up2 M 165 4 x) := wr_lit la_at_165 (by decide) (by decide)
theorem rdc_165_5 (M : Mem) : rd M 165 5 = some (M 165 5) := rd_lit la_at_165 (by decide) (by decide)
theorem wrc_165_5 (M : Mem) (x : Int32) : wr M 165 5 x = some (up2 M 165 5 x) := wr_lit la_at_165 (by decide) (by decide)
theorem rdc_165_6 (M : Mem) : rd M 165 6 = some (M 165 6) := rd_lit la_at_165 (by decide) (by decide)
theorem wrc_165_6 (M : Mem) (x : Int32) : wr M 165 6 x = some (up2 M 165 6 x) := wr_lit la_at_165 (by decide) (by decide)
theorem rdc_165_7 (M : Mem) : rd M 165 7 = some (M 165 7) := rd_lit la_at_165 (by decide) (by decide)
theorem wrc_165_7 (M : Mem) (x : Int32) : wr M 165 7 x = some (up2 M 165 7 x) := wr_lit la_at_165 (by decide) (by decide)
theorem la_at_167 : la 167 = some 1024 := by decide +kernel
theorem rdc_167_0 (M : Mem) : rd M 167 0 = some (M 167 0) := rd_lit la_at_167 (by decide) (by decide)
theorem wrc_167_0 (M : Mem) (x : Int32) : wr M 167 0 x = some (up2 M 167 0 x) := wr_lit la_at_167 (by decide) (by decide)
theorem la_f_1_2 {a : Nat} (h : oc a = some 1) : la (a + 3) = some 14 := by simpa using byA (p := fun a => la (a + 3) == some 14) (by decide +kernel) h
theorem rdf_1_2_0 {a : Nat} (h : oc a = some 1) (M : Mem) : rd M (a + 3) 0 = some (M (a + 3) 0) := rd_lit (la_f_1_2 h) (by decide) (by decide)
theorem wrf_1_2_0 {a : Nat} (h : oc a = some 1) (M : Mem) (x : Int32) : wr M (a + 3) 0 x = some (up2 M (a + 3) 0 x) := wr_lit (la_f_1_2 h) (by decide) (by decide)
theorem la_f_5_5 {a : Nat} (h : oc a = some 5) : la (a + 17) = some 256 := by simpa using byA (p := fun a => la (a + 17) == some 256) (by decide +kernel) h
theorem rdf_5_5_0 {a : Nat} (h : oc a = some 5) (M : Mem) : rd M (a + 17) 0 = some (M (a + 17) 0) := rd_lit (la_f_5_5 h) (by decide) (by decide)
theorem wrf_5_5_0 {a : Nat} (h : oc a = some 5) (M : Mem) (x : Int32) : wr M (a + 17) 0 x = some (up2 M (a + 17) 0 x) := wr_lit (la_f_5_5 h) (by decide) (by decide)
theorem la_f_6_8 {a : Nat} (h : oc a = some 6) : la (a + 25) = some 7 := by simpa using byA (p := fun a => la (a + 25) == some 7) (by decide +kernel) h
theorem rdf_6_8_0 {a : Nat} (h : oc a = some 6) (M : Mem) : rd M (a + 25) 0 = some (M (a + 25) 0) := rd_lit (la_f_6_8 h) (by decide) (by decide)
theorem wrf_6_8_0 {a : Nat} (h : oc a = some 6) (M : Mem) (x : Int32) : wr M (a + 25) 0 x = some (up2 M (a + 25) 0 x) := wr_lit (la_f_6_8 h) (by decide) (by decide)
theorem rdf_6_8_1 {a : Nat} (h : oc a = some 6) (M : Mem) : rd M (a + 25) 1 = some (M (a + 25) 1) := rd_lit (la_f_6_8 h) (by decide) (by decide)
theorem wrf_6_8_1 {a : Nat} (h : oc a = some 6) (M : Mem) (x : Int32) : wr M (a + 25) 1 x = some (up2 M (a + 25) 1 x) := wr_lit (la_f_6_8 h) (by decide) (by decide)
theorem rdf_6_8_2 {a : Nat} (h : oc a = some 6) (M : Mem) : rd M (a + 25) 2 = some (M (a + 25) 2) := rd_lit (la_f_6_8 h) (by decide) (by decide)
theorem wrf_6_8_2 {a : Nat} (h : oc a = some 6) (M : Mem) (x : Int32) : wr M (a + 25) 2 x = some (up2 M (a + 25) 2 x) := wr_lit (la_f_6_8 h) (by decide) (by decide)
theorem rdf_6_8_3 {a : Nat} (h : oc a = some 6) (M : Mem) : rd M (a + 25) 3 = some (M (a + 25) 3) := rd_lit (la_f_6_8 h) (by decide) (by decide)
theorem wrf_6_8_3 {a : Nat} (h : oc a = some 6) (M : Mem) (x : Int32) : wr M (a + 25) 3 x = some (up2 M (a + 25) 3 x) := wr_lit (la_f_6_8 h) (by decide) (by decide)
theorem rdf_6_8_4 {a : Nat} (h : oc a = some 6) (M : Mem) : rd M (a + 25) 4 = some (M (a + 25) 4) := rd_lit (la_f_6_8 h) (by decide) (by decide)
theorem wrf_6_8_4 {a : Nat} (h : oc a = some 6) (M : Mem) (x : Int32) : wr M (a + 25) 4 x = some (up2 M (a + 25) 4 x) := wr_lit (la_f_6_8 h) (by decide) (by decide)
theorem rdf_6_8_5 {a : Nat} (h : oc a = some 6) (M : Mem) : rd M (a + 25) 5 = some (M (a + 25) 5) := rd_lit (la_f_6_8 h) (by decide) (by decide)
theorem wrf_6_8_5 {a : Nat} (h : oc a = some 6) (M : Mem) (x : Int32) : wr M (a + 25) 5 x = some (up2 M (a + 25) 5 x) := wr_lit (la_f_6_8 h) (by decide) (by decide)
theorem rdf_6_8_6 {a : Nat} (h : oc a = some 6) (M : Mem) : rd M (a + 25) 6 = some (M (a + 25) 6) := rd_lit (la_f_6_8 h) (by decide) (by decide)
theorem wrf_6_8_6 {a : Nat} (h : oc a = some 6) (M : Mem) (x : Int32) : wr M (a + 25) 6 x = some (up2 M (a + 25) 6 x) := wr_lit (la_f_6_8 h) (by decide) (by decide)
