def ra (σ : St) (a : Nat) (i : Int32) : Int32 := σ.2.1 a i.toNatClampNeg
def rl (σ : St) (a : Nat) (i : Int32) : Int64 := σ.2.2 a i.toNatClampNeg
theorem tsw3 {x : Int32} (h0 : ¬ x = 0) (h1 : ¬ x = 1) (h2 : ¬ x = 2) : x.toInt < 0 ∨ 2 < x.toInt := by
  have k0 : ¬ x.toInt = 0 := lv_neT h0 rfl
  have k1 : ¬ x.toInt = 1 := lv_neT h1 rfl
  have k2 : ¬ x.toInt = 2 := lv_neT h2 rfl
  omega
theorem iX0 : ∀ w ∈ u_ws RX0 TX0 10, w ∈ GT := by decide +kernel
theorem iX1 : ∀ w ∈ u_ws RX1 TX1 11, w ∈ GT := by decide +kernel
theorem iX2 : ∀ w ∈ u_ws RX2 TX2 4, w ∈ GT := by decide +kernel
theorem iX3 : ∀ w ∈ u_ws RX3 TX3 3, w ∈ GT := by decide +kernel
theorem iX4 : ∀ w ∈ u_ws RX4 TX4 7, w ∈ GT := by decide +kernel
theorem iX5 : ∀ w ∈ u_ws RX5 TX5 7, w ∈ GT := by decide +kernel
theorem iX6 : ∀ w ∈ u_ws RX6 TX6 5, w ∈ GT := by decide +kernel
theorem iX7 : ∀ w ∈ u_ws RX7 TX7 30, w ∈ GT := by decide +kernel
theorem kw_0 : Cond.methodLinkNest RX6 172 yX0_hasCell "SlideBoards" ∈ GT := gt_in (List.mem_append_right _ (List.mem_of_getElem? (i := 475) (by decide +kernel))) (by decide +kernel)
theorem kw_1 : Cond.initialized RX0 ∈ GT := gt_in (List.mem_append_right _ (List.mem_of_getElem? (i := 2) (by decide +kernel))) (by decide +kernel)
theorem kw_2 : Cond.code yX0_hasCell cX0_hasCell 3 (some .boolean) ∈ GT := gt_in (List.mem_append_right _ (List.mem_of_getElem? (i := 478) (by decide +kernel))) (by decide +kernel)
theorem kw_3 : Cond.instanceMethod yX0_hasCell ∈ GT := gt_in (List.mem_append_right _ (List.mem_of_getElem? (i := 477) (by decide +kernel))) (by decide +kernel)
theorem kw_4 : Cond.selects RX0 yX0_hasCell yX0_hasCell ∈ GT := gt_in (List.mem_append_left _ (List.mem_of_getElem? (i := 38) (by decide +kernel))) (by decide +kernel)
theorem kw_5 : Cond.methodLink RX6 57 yX6_needCell ∈ GT := gt_in (List.mem_append_right _ (List.mem_of_getElem? (i := 471) (by decide +kernel))) (by decide +kernel)
theorem kw_6 : Cond.initialized RX6 ∈ GT := gt_in (List.mem_append_right _ (List.mem_of_getElem? (i := 1) (by decide +kernel))) (by decide +kernel)
theorem kw_7 : Cond.code yX6_needCell cX6_needCell 3 none ∈ GT := gt_in (List.mem_append_right _ (List.mem_of_getElem? (i := 474) (by decide +kernel))) (by decide +kernel)
theorem kw_8 : Cond.instanceMethod yX6_needCell ∈ GT := gt_in (List.mem_append_right _ (List.mem_of_getElem? (i := 473) (by decide +kernel))) (by decide +kernel)
theorem kw_9 : Cond.selects RX6 yX6_needCell yX6_needCell ∈ GT := gt_in (List.mem_append_left _ (List.mem_of_getElem? (i := 37) (by decide +kernel))) (by decide +kernel)
theorem kw_10 : Cond.methodLink RX0 37 yX0_cellOf ∈ GT := gt_in (List.mem_append_right _ (List.mem_of_getElem? (i := 371) (by decide +kernel))) (by decide +kernel)
theorem kw_11 : Cond.code yX0_cellOf cX0_cellOf 3 (some .int) ∈ GT := gt_in (List.mem_append_right _ (List.mem_of_getElem? (i := 374) (by decide +kernel))) (by decide +kernel)
theorem kw_12 : Cond.instanceMethod yX0_cellOf ∈ GT := gt_in (List.mem_append_right _ (List.mem_of_getElem? (i := 373) (by decide +kernel))) (by decide +kernel)
theorem kw_13 : Cond.selects RX0 yX0_cellOf yX0_cellOf ∈ GT := gt_in (List.mem_append_left _ (List.mem_of_getElem? (i := 21) (by decide +kernel))) (by decide +kernel)
theorem kw_14 : Cond.methodLinkNest RX6 60 yX0_bitOf "SlideBoards" ∈ GT := gt_in (List.mem_append_right _ (List.mem_of_getElem? (i := 551) (by decide +kernel))) (by decide +kernel)
theorem kw_15 : Cond.code yX0_bitOf cX0_bitOf 3 (some .int) ∈ GT := gt_in (List.mem_append_right _ (List.mem_of_getElem? (i := 370) (by decide +kernel))) (by decide +kernel)
theorem kw_16 : Cond.instanceMethod yX0_bitOf ∈ GT := gt_in (List.mem_append_right _ (List.mem_of_getElem? (i := 369) (by decide +kernel))) (by decide +kernel)
theorem kw_17 : Cond.selects RX0 yX0_bitOf yX0_bitOf ∈ GT := gt_in (List.mem_append_left _ (List.mem_of_getElem? (i := 20) (by decide +kernel))) (by decide +kernel)
theorem kw_18 : Cond.methodLink RX0 53 yX0_filled ∈ GT := gt_in (List.mem_append_right _ (List.mem_of_getElem? (i := 556) (by decide +kernel))) (by decide +kernel)
theorem kw_19 : Cond.code yX0_filled cX0_filled 3 (some .int) ∈ GT := gt_in (List.mem_append_right _ (List.mem_of_getElem? (i := 559) (by decide +kernel))) (by decide +kernel)
theorem kw_20 : Cond.instanceMethod yX0_filled ∈ GT := gt_in (List.mem_append_right _ (List.mem_of_getElem? (i := 558) (by decide +kernel))) (by decide +kernel)
theorem kw_21 : Cond.selects RX0 yX0_filled yX0_filled ∈ GT := gt_in (List.mem_append_left _ (List.mem_of_getElem? (i := 41) (by decide +kernel))) (by decide +kernel)
theorem kw_22 : Cond.methodLinkNest RX6 63 yX0_setWall "SlideBoards" ∈ GT := gt_in (List.mem_append_right _ (List.mem_of_getElem? (i := 552) (by decide +kernel))) (by decide +kernel)
theorem kw_23 : Cond.code yX0_setWall cX0_setWall 5 (some .boolean) ∈ GT := gt_in (List.mem_append_right _ (List.mem_of_getElem? (i := 555) (by decide +kernel))) (by decide +kernel)
theorem kw_24 : Cond.instanceMethod yX0_setWall ∈ GT := gt_in (List.mem_append_right _ (List.mem_of_getElem? (i := 554) (by decide +kernel))) (by decide +kernel)
theorem kw_25 : Cond.selects RX0 yX0_setWall yX0_setWall ∈ GT := gt_in (List.mem_append_left _ (List.mem_of_getElem? (i := 40) (by decide +kernel))) (by decide +kernel)
theorem kw_26 : Cond.methodLink RX6 67 yX6_needKind ∈ GT := gt_in (List.mem_append_right _ (List.mem_of_getElem? (i := 568) (by decide +kernel))) (by decide +kernel)
theorem kw_27 : Cond.code yX6_needKind cX6_needKind 1 none ∈ GT := gt_in (List.mem_append_right _ (List.mem_of_getElem? (i := 570) (by decide +kernel))) (by decide +kernel)
theorem kw_28 : Cond.static yX6_needKind ∈ GT := gt_in (List.mem_append_right _ (List.mem_of_getElem? (i := 569) (by decide +kernel))) (by decide +kernel)
theorem kw_29 : Cond.methodLinkNest RX6 71 yX0_addBlock "SlideBoards" ∈ GT := gt_in (List.mem_append_right _ (List.mem_of_getElem? (i := 587) (by decide +kernel))) (by decide +kernel)
theorem kw_30 : Cond.code yX0_addBlock cX0_addBlock 2 (some .int) ∈ GT := gt_in (List.mem_append_right _ (List.mem_of_getElem? (i := 590) (by decide +kernel))) (by decide +kernel)
theorem kw_31 : Cond.instanceMethod yX0_addBlock ∈ GT := gt_in (List.mem_append_right _ (List.mem_of_getElem? (i := 589) (by decide +kernel))) (by decide +kernel)
theorem kw_32 : Cond.selects RX0 yX0_addBlock yX0_addBlock ∈ GT := gt_in (List.mem_append_left _ (List.mem_of_getElem? (i := 42) (by decide +kernel))) (by decide +kernel)
theorem kw_33 : Cond.methodLink RX6 75 yX6_needBlock ∈ GT := gt_in (List.mem_append_right _ (List.mem_of_getElem? (i := 598) (by decide +kernel))) (by decide +kernel)
theorem kw_34 : Cond.code yX6_needBlock cX6_needBlock 2 none ∈ GT := gt_in (List.mem_append_right _ (List.mem_of_getElem? (i := 601) (by decide +kernel))) (by decide +kernel)
theorem kw_35 : Cond.instanceMethod yX6_needBlock ∈ GT := gt_in (List.mem_append_right _ (List.mem_of_getElem? (i := 600) (by decide +kernel))) (by decide +kernel)
theorem kw_36 : Cond.selects RX6 yX6_needBlock yX6_needBlock ∈ GT := gt_in (List.mem_append_left _ (List.mem_of_getElem? (i := 43) (by decide +kernel))) (by decide +kernel)
theorem kw_37 : Cond.methodLinkNest RX6 78 yX0_addCell "SlideBoards" ∈ GT := gt_in (List.mem_append_right _ (List.mem_of_getElem? (i := 603) (by decide +kernel))) (by decide +kernel)
theorem kw_38 : Cond.code yX0_addCell cX0_addCell 3 (some .boolean) ∈ GT := gt_in (List.mem_append_right _ (List.mem_of_getElem? (i := 606) (by decide +kernel))) (by decide +kernel)
theorem kw_39 : Cond.instanceMethod yX0_addCell ∈ GT := gt_in (List.mem_append_right _ (List.mem_of_getElem? (i := 605) (by decide +kernel))) (by decide +kernel)
theorem kw_40 : Cond.selects RX0 yX0_addCell yX0_addCell ∈ GT := gt_in (List.mem_append_left _ (List.mem_of_getElem? (i := 44) (by decide +kernel))) (by decide +kernel)
theorem kw_41 : Cond.constant RJ6 265 (1431655765) ∈ GT := gt_in (List.mem_append_right _ (List.mem_of_getElem? (i := 261) (by decide +kernel))) (by decide +kernel)
theorem kw_42 : Cond.constant RJ6 266 (858993459) ∈ GT := gt_in (List.mem_append_right _ (List.mem_of_getElem? (i := 262) (by decide +kernel))) (by decide +kernel)
theorem kw_43 : Cond.constant RJ6 267 (252645135) ∈ GT := gt_in (List.mem_append_right _ (List.mem_of_getElem? (i := 263) (by decide +kernel))) (by decide +kernel)
theorem kw_44 : Cond.methodLink RX0 41 yJ6_bitCount_0f7a4 ∈ GT := gt_in (List.mem_append_right _ (List.mem_of_getElem? (i := 258) (by decide +kernel))) (by decide +kernel)
theorem kw_45 : Cond.initialized RJ6 ∈ GT := gt_in (List.mem_append_right _ (List.mem_of_getElem? (i := 16) (by decide +kernel))) (by decide +kernel)
theorem kw_46 : Cond.code yJ6_bitCount_0f7a4 cJ6_bitCount_0f7a4 1 (some .int) ∈ GT := gt_in (List.mem_append_right _ (List.mem_of_getElem? (i := 260) (by decide +kernel))) (by decide +kernel)
theorem kw_47 : Cond.static yJ6_bitCount_0f7a4 ∈ GT := gt_in (List.mem_append_right _ (List.mem_of_getElem? (i := 259) (by decide +kernel))) (by decide +kernel)
theorem kw_48 : Cond.methodLinkNest RX6 86 yX0_leastCell "SlideBoards" ∈ GT := gt_in (List.mem_append_right _ (List.mem_of_getElem? (i := 614) (by decide +kernel))) (by decide +kernel)
theorem kw_49 : Cond.code yX0_leastCell cX0_leastCell 1 (some .int) ∈ GT := gt_in (List.mem_append_right _ (List.mem_of_getElem? (i := 257) (by decide +kernel))) (by decide +kernel)
theorem kw_50 : Cond.static yX0_leastCell ∈ GT := gt_in (List.mem_append_right _ (List.mem_of_getElem? (i := 256) (by decide +kernel))) (by decide +kernel)
theorem kw_51 : Cond.methodLink RX6 89 yX6_needWay ∈ GT := gt_in (List.mem_append_right _ (List.mem_of_getElem? (i := 622) (by decide +kernel))) (by decide +kernel)
theorem kw_52 : Cond.code yX6_needWay cX6_needWay 1 none ∈ GT := gt_in (List.mem_append_right _ (List.mem_of_getElem? (i := 624) (by decide +kernel))) (by decide +kernel)
theorem kw_53 : Cond.static yX6_needWay ∈ GT := gt_in (List.mem_append_right _ (List.mem_of_getElem? (i := 623) (by decide +kernel))) (by decide +kernel)
theorem kw_54 : Cond.methodLink RX0 57 yX0_moved ∈ GT := gt_in (List.mem_append_right _ (List.mem_of_getElem? (i := 630) (by decide +kernel))) (by decide +kernel)
theorem kw_55 : Cond.code yX0_moved cX0_moved 5 (some .int) ∈ GT := gt_in (List.mem_append_right _ (List.mem_of_getElem? (i := 339) (by decide +kernel))) (by decide +kernel)
theorem kw_56 : Cond.instanceMethod yX0_moved ∈ GT := gt_in (List.mem_append_right _ (List.mem_of_getElem? (i := 338) (by decide +kernel))) (by decide +kernel)
theorem kw_57 : Cond.selects RX0 yX0_moved yX0_moved ∈ GT := gt_in (List.mem_append_left _ (List.mem_of_getElem? (i := 17) (by decide +kernel))) (by decide +kernel)
theorem kw_58 : Cond.methodLinkNest RX6 92 yX0_slideBlock "SlideBoards" ∈ GT := gt_in (List.mem_append_right _ (List.mem_of_getElem? (i := 626) (by decide +kernel))) (by decide +kernel)
theorem kw_59 : Cond.code yX0_slideBlock cX0_slideBlock 7 (some .int) ∈ GT := gt_in (List.mem_append_right _ (List.mem_of_getElem? (i := 629) (by decide +kernel))) (by decide +kernel)
theorem kw_60 : Cond.instanceMethod yX0_slideBlock ∈ GT := gt_in (List.mem_append_right _ (List.mem_of_getElem? (i := 628) (by decide +kernel))) (by decide +kernel)
theorem kw_61 : Cond.selects RX0 yX0_slideBlock yX0_slideBlock ∈ GT := gt_in (List.mem_append_left _ (List.mem_of_getElem? (i := 45) (by decide +kernel))) (by decide +kernel)
theorem kw_62 : Cond.methodLinkNest RX6 96 yX0_cellOf "SlideBoards" ∈ GT := gt_in (List.mem_append_right _ (List.mem_of_getElem? (i := 638) (by decide +kernel))) (by decide +kernel)
theorem kw_63 : Cond.methodLinkNest RX6 99 yX2_add "SlideBoards" ∈ GT := gt_in (List.mem_append_right _ (List.mem_of_getElem? (i := 639) (by decide +kernel))) (by decide +kernel)
theorem kw_64 : Cond.initialized RX2 ∈ GT := gt_in (List.mem_append_right _ (List.mem_of_getElem? (i := 4) (by decide +kernel))) (by decide +kernel)
theorem kw_65 : Cond.code yX2_add cX2_add 4 (some .int) ∈ GT := gt_in (List.mem_append_right _ (List.mem_of_getElem? (i := 642) (by decide +kernel))) (by decide +kernel)
theorem kw_66 : Cond.instanceMethod yX2_add ∈ GT := gt_in (List.mem_append_right _ (List.mem_of_getElem? (i := 641) (by decide +kernel))) (by decide +kernel)
theorem kw_67 : Cond.selects RX2 yX2_add yX2_add ∈ GT := gt_in (List.mem_append_left _ (List.mem_of_getElem? (i := 46) (by decide +kernel))) (by decide +kernel)
theorem kw_68 : Cond.methodLinkNest RX6 103 yX2_removeAll "SlideBoards" ∈ GT := gt_in (List.mem_append_right _ (List.mem_of_getElem? (i := 243) (by decide +kernel))) (by decide +kernel)
theorem kw_69 : Cond.code yX2_removeAll cX2_removeAll 2 (some .int) ∈ GT := gt_in (List.mem_append_right _ (List.mem_of_getElem? (i := 246) (by decide +kernel))) (by decide +kernel)
theorem kw_70 : Cond.instanceMethod yX2_removeAll ∈ GT := gt_in (List.mem_append_right _ (List.mem_of_getElem? (i := 245) (by decide +kernel))) (by decide +kernel)
theorem kw_71 : Cond.selects RX2 yX2_removeAll yX2_removeAll ∈ GT := gt_in (List.mem_append_left _ (List.mem_of_getElem? (i := 0) (by decide +kernel))) (by decide +kernel)
theorem kw_72 : Cond.methodLink RX2 26 yX2_kindIsAt ∈ GT := gt_in (List.mem_append_right _ (List.mem_of_getElem? (i := 268) (by decide +kernel))) (by decide +kernel)
theorem kw_73 : Cond.code yX2_kindIsAt cX2_kindIsAt 5 (some .boolean) ∈ GT := gt_in (List.mem_append_right _ (List.mem_of_getElem? (i := 270) (by decide +kernel))) (by decide +kernel)
theorem kw_74 : Cond.static yX2_kindIsAt ∈ GT := gt_in (List.mem_append_right _ (List.mem_of_getElem? (i := 269) (by decide +kernel))) (by decide +kernel)
theorem kw_75 : Cond.methodLinkNest RX1 53 yX2_firstOpen "SlideBoards" ∈ GT := gt_in (List.mem_append_right _ (List.mem_of_getElem? (i := 264) (by decide +kernel))) (by decide +kernel)
theorem kw_76 : Cond.code yX2_firstOpen cX2_firstOpen 5 (some .int) ∈ GT := gt_in (List.mem_append_right _ (List.mem_of_getElem? (i := 267) (by decide +kernel))) (by decide +kernel)
theorem kw_77 : Cond.instanceMethod yX2_firstOpen ∈ GT := gt_in (List.mem_append_right _ (List.mem_of_getElem? (i := 266) (by decide +kernel))) (by decide +kernel)
theorem kw_78 : Cond.selects RX2 yX2_firstOpen yX2_firstOpen ∈ GT := gt_in (List.mem_append_left _ (List.mem_of_getElem? (i := 2) (by decide +kernel))) (by decide +kernel)
theorem kw_79 : Cond.methodLinkNest RX1 49 yX0_leastCell "SlideBoards" ∈ GT := gt_in (List.mem_append_right _ (List.mem_of_getElem? (i := 255) (by decide +kernel))) (by decide +kernel)
theorem kw_80 : Cond.methodLinkNest RX6 107 yX1_presentOpenGoal "SlideBoards" ∈ GT := gt_in (List.mem_append_right _ (List.mem_of_getElem? (i := 251) (by decide +kernel))) (by decide +kernel)
theorem kw_81 : Cond.initialized RX1 ∈ GT := gt_in (List.mem_append_right _ (List.mem_of_getElem? (i := 5) (by decide +kernel))) (by decide +kernel)
theorem kw_82 : Cond.code yX1_presentOpenGoal cX1_presentOpenGoal 2 (some .int) ∈ GT := gt_in (List.mem_append_right _ (List.mem_of_getElem? (i := 254) (by decide +kernel))) (by decide +kernel)
theorem kw_83 : Cond.instanceMethod yX1_presentOpenGoal ∈ GT := gt_in (List.mem_append_right _ (List.mem_of_getElem? (i := 253) (by decide +kernel))) (by decide +kernel)
theorem kw_84 : Cond.selects RX1 yX1_presentOpenGoal yX1_presentOpenGoal ∈ GT := gt_in (List.mem_append_left _ (List.mem_of_getElem? (i := 1) (by decide +kernel))) (by decide +kernel)
theorem kw_85 : Cond.constantLong RX4 31 (-7046029254386353131) ∈ GT := gt_in (List.mem_append_right _ (List.mem_of_getElem? (i := 286) (by decide +kernel))) (by decide +kernel)
theorem kw_86 : Cond.methodLink RX4 37 yX4_bucketOf ∈ GT := gt_in (List.mem_append_right _ (List.mem_of_getElem? (i := 283) (by decide +kernel))) (by decide +kernel)
theorem kw_87 : Cond.initialized RX4 ∈ GT := gt_in (List.mem_append_right _ (List.mem_of_getElem? (i := 6) (by decide +kernel))) (by decide +kernel)
theorem kw_88 : Cond.code yX4_bucketOf cX4_bucketOf 2 (some .int) ∈ GT := gt_in (List.mem_append_right _ (List.mem_of_getElem? (i := 285) (by decide +kernel))) (by decide +kernel)
theorem kw_89 : Cond.static yX4_bucketOf ∈ GT := gt_in (List.mem_append_right _ (List.mem_of_getElem? (i := 284) (by decide +kernel))) (by decide +kernel)
theorem kw_90 : Cond.methodLinkNest RX1 69 yX4_clear "SlideBoards" ∈ GT := gt_in (List.mem_append_right _ (List.mem_of_getElem? (i := 279) (by decide +kernel))) (by decide +kernel)
theorem kw_91 : Cond.code yX4_clear cX4_clear 2 none ∈ GT := gt_in (List.mem_append_right _ (List.mem_of_getElem? (i := 282) (by decide +kernel))) (by decide +kernel)
theorem kw_92 : Cond.instanceMethod yX4_clear ∈ GT := gt_in (List.mem_append_right _ (List.mem_of_getElem? (i := 281) (by decide +kernel))) (by decide +kernel)
theorem kw_93 : Cond.selects RX4 yX4_clear yX4_clear ∈ GT := gt_in (List.mem_append_left _ (List.mem_of_getElem? (i := 4) (by decide +kernel))) (by decide +kernel)
theorem kw_94 : Cond.methodLink RX0 61 yX0_cornered ∈ GT := gt_in (List.mem_append_right _ (List.mem_of_getElem? (i := 295) (by decide +kernel))) (by decide +kernel)
theorem kw_95 : Cond.code yX0_cornered cX0_cornered 4 (some .int) ∈ GT := gt_in (List.mem_append_right _ (List.mem_of_getElem? (i := 298) (by decide +kernel))) (by decide +kernel)
theorem kw_96 : Cond.instanceMethod yX0_cornered ∈ GT := gt_in (List.mem_append_right _ (List.mem_of_getElem? (i := 297) (by decide +kernel))) (by decide +kernel)
theorem kw_97 : Cond.selects RX0 yX0_cornered yX0_cornered ∈ GT := gt_in (List.mem_append_left _ (List.mem_of_getElem? (i := 7) (by decide +kernel))) (by decide +kernel)
theorem kw_98 : Cond.methodLinkNest RX1 85 yX0_areAlike "SlideBoards" ∈ GT := gt_in (List.mem_append_right _ (List.mem_of_getElem? (i := 291) (by decide +kernel))) (by decide +kernel)
theorem kw_99 : Cond.code yX0_areAlike cX0_areAlike 3 (some .boolean) ∈ GT := gt_in (List.mem_append_right _ (List.mem_of_getElem? (i := 294) (by decide +kernel))) (by decide +kernel)
theorem kw_100 : Cond.instanceMethod yX0_areAlike ∈ GT := gt_in (List.mem_append_right _ (List.mem_of_getElem? (i := 293) (by decide +kernel))) (by decide +kernel)
theorem kw_101 : Cond.selects RX0 yX0_areAlike yX0_areAlike ∈ GT := gt_in (List.mem_append_left _ (List.mem_of_getElem? (i := 6) (by decide +kernel))) (by decide +kernel)
theorem kw_102 : Cond.methodLink RX1 72 yX1_findAlike ∈ GT := gt_in (List.mem_append_right _ (List.mem_of_getElem? (i := 287) (by decide +kernel))) (by decide +kernel)
theorem kw_103 : Cond.code yX1_findAlike cX1_findAlike 3 none ∈ GT := gt_in (List.mem_append_right _ (List.mem_of_getElem? (i := 290) (by decide +kernel))) (by decide +kernel)
theorem kw_104 : Cond.instanceMethod yX1_findAlike ∈ GT := gt_in (List.mem_append_right _ (List.mem_of_getElem? (i := 289) (by decide +kernel))) (by decide +kernel)
theorem kw_105 : Cond.selects RX1 yX1_findAlike yX1_findAlike ∈ GT := gt_in (List.mem_append_left _ (List.mem_of_getElem? (i := 5) (by decide +kernel))) (by decide +kernel)
theorem kw_106 : Cond.methodLink RX1 109 yX1_keyOfPlaces ∈ GT := gt_in (List.mem_append_right _ (List.mem_of_getElem? (i := 307) (by decide +kernel))) (by decide +kernel)
theorem kw_107 : Cond.code yX1_keyOfPlaces cX1_keyOfPlaces 4 (some .long) ∈ GT := gt_in (List.mem_append_right _ (List.mem_of_getElem? (i := 310) (by decide +kernel))) (by decide +kernel)
theorem kw_108 : Cond.instanceMethod yX1_keyOfPlaces ∈ GT := gt_in (List.mem_append_right _ (List.mem_of_getElem? (i := 309) (by decide +kernel))) (by decide +kernel)
theorem kw_109 : Cond.selects RX1 yX1_keyOfPlaces yX1_keyOfPlaces ∈ GT := gt_in (List.mem_append_left _ (List.mem_of_getElem? (i := 10) (by decide +kernel))) (by decide +kernel)
theorem kw_110 : Cond.methodLinkNest RX1 113 yX4_holds "SlideBoards" ∈ GT := gt_in (List.mem_append_right _ (List.mem_of_getElem? (i := 311) (by decide +kernel))) (by decide +kernel)
theorem kw_111 : Cond.code yX4_holds cX4_holds 5 (some .boolean) ∈ GT := gt_in (List.mem_append_right _ (List.mem_of_getElem? (i := 314) (by decide +kernel))) (by decide +kernel)
theorem kw_112 : Cond.instanceMethod yX4_holds ∈ GT := gt_in (List.mem_append_right _ (List.mem_of_getElem? (i := 313) (by decide +kernel))) (by decide +kernel)
theorem kw_113 : Cond.selects RX4 yX4_holds yX4_holds ∈ GT := gt_in (List.mem_append_left _ (List.mem_of_getElem? (i := 11) (by decide +kernel))) (by decide +kernel)
theorem kw_114 : Cond.methodLink RX1 117 yX1_layoutOfPlaces ∈ GT := gt_in (List.mem_append_right _ (List.mem_of_getElem? (i := 315) (by decide +kernel))) (by decide +kernel)
theorem kw_115 : Cond.code yX1_layoutOfPlaces cX1_layoutOfPlaces 4 (some .long) ∈ GT := gt_in (List.mem_append_right _ (List.mem_of_getElem? (i := 318) (by decide +kernel))) (by decide +kernel)
theorem kw_116 : Cond.instanceMethod yX1_layoutOfPlaces ∈ GT := gt_in (List.mem_append_right _ (List.mem_of_getElem? (i := 317) (by decide +kernel))) (by decide +kernel)
theorem kw_117 : Cond.selects RX1 yX1_layoutOfPlaces yX1_layoutOfPlaces ∈ GT := gt_in (List.mem_append_left _ (List.mem_of_getElem? (i := 12) (by decide +kernel))) (by decide +kernel)
theorem kw_118 : Cond.methodLinkNest RX1 120 yX4_take "SlideBoards" ∈ GT := gt_in (List.mem_append_right _ (List.mem_of_getElem? (i := 319) (by decide +kernel))) (by decide +kernel)
theorem kw_119 : Cond.code yX4_take cX4_take 8 none ∈ GT := gt_in (List.mem_append_right _ (List.mem_of_getElem? (i := 322) (by decide +kernel))) (by decide +kernel)
theorem kw_120 : Cond.instanceMethod yX4_take ∈ GT := gt_in (List.mem_append_right _ (List.mem_of_getElem? (i := 321) (by decide +kernel))) (by decide +kernel)
theorem kw_121 : Cond.selects RX4 yX4_take yX4_take ∈ GT := gt_in (List.mem_append_left _ (List.mem_of_getElem? (i := 13) (by decide +kernel))) (by decide +kernel)
theorem kw_122 : Cond.methodLink RX1 89 yX1_offer ∈ GT := gt_in (List.mem_append_right _ (List.mem_of_getElem? (i := 303) (by decide +kernel))) (by decide +kernel)
theorem kw_123 : Cond.code yX1_offer cX1_offer 5 (some .int) ∈ GT := gt_in (List.mem_append_right _ (List.mem_of_getElem? (i := 306) (by decide +kernel))) (by decide +kernel)
theorem kw_124 : Cond.instanceMethod yX1_offer ∈ GT := gt_in (List.mem_append_right _ (List.mem_of_getElem? (i := 305) (by decide +kernel))) (by decide +kernel)
theorem kw_125 : Cond.selects RX1 yX1_offer yX1_offer ∈ GT := gt_in (List.mem_append_left _ (List.mem_of_getElem? (i := 9) (by decide +kernel))) (by decide +kernel)
theorem kw_126 : Cond.methodLink RX1 75 yX1_offerPresent ∈ GT := gt_in (List.mem_append_right _ (List.mem_of_getElem? (i := 299) (by decide +kernel))) (by decide +kernel)
theorem kw_127 : Cond.code yX1_offerPresent cX1_offerPresent 2 (some .int) ∈ GT := gt_in (List.mem_append_right _ (List.mem_of_getElem? (i := 302) (by decide +kernel))) (by decide +kernel)
theorem kw_128 : Cond.instanceMethod yX1_offerPresent ∈ GT := gt_in (List.mem_append_right _ (List.mem_of_getElem? (i := 301) (by decide +kernel))) (by decide +kernel)
theorem kw_129 : Cond.selects RX1 yX1_offerPresent yX1_offerPresent ∈ GT := gt_in (List.mem_append_left _ (List.mem_of_getElem? (i := 8) (by decide +kernel))) (by decide +kernel)
theorem kw_130 : Cond.constantLong RX1 127 (31) ∈ GT := gt_in (List.mem_append_right _ (List.mem_of_getElem? (i := 331) (by decide +kernel))) (by decide +kernel)
theorem kw_131 : Cond.methodLink RX1 97 yX1_load ∈ GT := gt_in (List.mem_append_right _ (List.mem_of_getElem? (i := 327) (by decide +kernel))) (by decide +kernel)
theorem kw_132 : Cond.code yX1_load cX1_load 8 (some .int) ∈ GT := gt_in (List.mem_append_right _ (List.mem_of_getElem? (i := 330) (by decide +kernel))) (by decide +kernel)
theorem kw_133 : Cond.instanceMethod yX1_load ∈ GT := gt_in (List.mem_append_right _ (List.mem_of_getElem? (i := 329) (by decide +kernel))) (by decide +kernel)
theorem kw_134 : Cond.selects RX1 yX1_load yX1_load ∈ GT := gt_in (List.mem_append_left _ (List.mem_of_getElem? (i := 15) (by decide +kernel))) (by decide +kernel)
theorem kw_135 : Cond.methodLinkNest RX1 105 yX0_moved "SlideBoards" ∈ GT := gt_in (List.mem_append_right _ (List.mem_of_getElem? (i := 336) (by decide +kernel))) (by decide +kernel)
theorem kw_136 : Cond.methodLink RX1 101 yX1_tryWay ∈ GT := gt_in (List.mem_append_right _ (List.mem_of_getElem? (i := 332) (by decide +kernel))) (by decide +kernel)
theorem kw_137 : Cond.code yX1_tryWay cX1_tryWay 9 (some .int) ∈ GT := gt_in (List.mem_append_right _ (List.mem_of_getElem? (i := 335) (by decide +kernel))) (by decide +kernel)
theorem kw_138 : Cond.instanceMethod yX1_tryWay ∈ GT := gt_in (List.mem_append_right _ (List.mem_of_getElem? (i := 334) (by decide +kernel))) (by decide +kernel)
theorem kw_139 : Cond.selects RX1 yX1_tryWay yX1_tryWay ∈ GT := gt_in (List.mem_append_left _ (List.mem_of_getElem? (i := 16) (by decide +kernel))) (by decide +kernel)
theorem kw_140 : Cond.methodLink RX1 82 yX1_expand ∈ GT := gt_in (List.mem_append_right _ (List.mem_of_getElem? (i := 323) (by decide +kernel))) (by decide +kernel)
theorem kw_141 : Cond.code yX1_expand cX1_expand 7 (some .int) ∈ GT := gt_in (List.mem_append_right _ (List.mem_of_getElem? (i := 326) (by decide +kernel))) (by decide +kernel)
theorem kw_142 : Cond.instanceMethod yX1_expand ∈ GT := gt_in (List.mem_append_right _ (List.mem_of_getElem? (i := 325) (by decide +kernel))) (by decide +kernel)
theorem kw_143 : Cond.selects RX1 yX1_expand yX1_expand ∈ GT := gt_in (List.mem_append_left _ (List.mem_of_getElem? (i := 14) (by decide +kernel))) (by decide +kernel)
theorem kw_144 : Cond.methodLinkNest RX6 110 yX1_explore "SlideBoards" ∈ GT := gt_in (List.mem_append_right _ (List.mem_of_getElem? (i := 275) (by decide +kernel))) (by decide +kernel)
theorem kw_145 : Cond.code yX1_explore cX1_explore 6 (some .int) ∈ GT := gt_in (List.mem_append_right _ (List.mem_of_getElem? (i := 278) (by decide +kernel))) (by decide +kernel)
theorem kw_146 : Cond.instanceMethod yX1_explore ∈ GT := gt_in (List.mem_append_right _ (List.mem_of_getElem? (i := 277) (by decide +kernel))) (by decide +kernel)
theorem kw_147 : Cond.selects RX1 yX1_explore yX1_explore ∈ GT := gt_in (List.mem_append_left _ (List.mem_of_getElem? (i := 3) (by decide +kernel))) (by decide +kernel)
theorem kw_148 : Cond.methodLink RX3 24 yX3_depthOf ∈ GT := gt_in (List.mem_append_right _ (List.mem_of_getElem? (i := 344) (by decide +kernel))) (by decide +kernel)
theorem kw_149 : Cond.initialized RX3 ∈ GT := gt_in (List.mem_append_right _ (List.mem_of_getElem? (i := 7) (by decide +kernel))) (by decide +kernel)
theorem kw_150 : Cond.code yX3_depthOf cX3_depthOf 4 (some .int) ∈ GT := gt_in (List.mem_append_right _ (List.mem_of_getElem? (i := 346) (by decide +kernel))) (by decide +kernel)
theorem kw_151 : Cond.static yX3_depthOf ∈ GT := gt_in (List.mem_append_right _ (List.mem_of_getElem? (i := 345) (by decide +kernel))) (by decide +kernel)
theorem kw_152 : Cond.methodLinkNest RX6 118 yX3_keep "SlideBoards" ∈ GT := gt_in (List.mem_append_right _ (List.mem_of_getElem? (i := 340) (by decide +kernel))) (by decide +kernel)
theorem kw_153 : Cond.code yX3_keep cX3_keep 5 none ∈ GT := gt_in (List.mem_append_right _ (List.mem_of_getElem? (i := 343) (by decide +kernel))) (by decide +kernel)
theorem kw_154 : Cond.instanceMethod yX3_keep ∈ GT := gt_in (List.mem_append_right _ (List.mem_of_getElem? (i := 342) (by decide +kernel))) (by decide +kernel)
theorem kw_155 : Cond.selects RX3 yX3_keep yX3_keep ∈ GT := gt_in (List.mem_append_left _ (List.mem_of_getElem? (i := 18) (by decide +kernel))) (by decide +kernel)
theorem kw_156 : Cond.methodLink RX0 64 yX0_bitOf ∈ GT := gt_in (List.mem_append_right _ (List.mem_of_getElem? (i := 367) (by decide +kernel))) (by decide +kernel)
theorem kw_157 : Cond.methodLink RX0 67 yX0_cellByte ∈ GT := gt_in (List.mem_append_right _ (List.mem_of_getElem? (i := 375) (by decide +kernel))) (by decide +kernel)
theorem kw_158 : Cond.code yX0_cellByte cX0_cellByte 3 (some .int) ∈ GT := gt_in (List.mem_append_right _ (List.mem_of_getElem? (i := 378) (by decide +kernel))) (by decide +kernel)
theorem kw_159 : Cond.instanceMethod yX0_cellByte ∈ GT := gt_in (List.mem_append_right _ (List.mem_of_getElem? (i := 377) (by decide +kernel))) (by decide +kernel)
theorem kw_160 : Cond.selects RX0 yX0_cellByte yX0_cellByte ∈ GT := gt_in (List.mem_append_left _ (List.mem_of_getElem? (i := 22) (by decide +kernel))) (by decide +kernel)
theorem kw_161 : Cond.methodLinkNest RX6 137 yX0_pictureByte "SlideBoards" ∈ GT := gt_in (List.mem_append_right _ (List.mem_of_getElem? (i := 363) (by decide +kernel))) (by decide +kernel)
theorem kw_162 : Cond.code yX0_pictureByte cX0_pictureByte 4 (some .int) ∈ GT := gt_in (List.mem_append_right _ (List.mem_of_getElem? (i := 366) (by decide +kernel))) (by decide +kernel)
theorem kw_163 : Cond.instanceMethod yX0_pictureByte ∈ GT := gt_in (List.mem_append_right _ (List.mem_of_getElem? (i := 365) (by decide +kernel))) (by decide +kernel)
theorem kw_164 : Cond.selects RX0 yX0_pictureByte yX0_pictureByte ∈ GT := gt_in (List.mem_append_left _ (List.mem_of_getElem? (i := 19) (by decide +kernel))) (by decide +kernel)
theorem kw_165 : Cond.methodLinkNest RX6 140 yX5_addNode "SlideBoards" ∈ GT := gt_in (List.mem_append_right _ (List.mem_of_getElem? (i := 383) (by decide +kernel))) (by decide +kernel)
theorem kw_166 : Cond.initialized RX5 ∈ GT := gt_in (List.mem_append_right _ (List.mem_of_getElem? (i := 8) (by decide +kernel))) (by decide +kernel)
theorem kw_167 : Cond.code yX5_addNode cX5_addNode 2 (some .int) ∈ GT := gt_in (List.mem_append_right _ (List.mem_of_getElem? (i := 386) (by decide +kernel))) (by decide +kernel)
theorem kw_168 : Cond.instanceMethod yX5_addNode ∈ GT := gt_in (List.mem_append_right _ (List.mem_of_getElem? (i := 385) (by decide +kernel))) (by decide +kernel)
theorem kw_169 : Cond.selects RX5 yX5_addNode yX5_addNode ∈ GT := gt_in (List.mem_append_left _ (List.mem_of_getElem? (i := 23) (by decide +kernel))) (by decide +kernel)
theorem kw_170 : Cond.methodLink RX6 143 yX6_needNode ∈ GT := gt_in (List.mem_append_right _ (List.mem_of_getElem? (i := 657) (by decide +kernel))) (by decide +kernel)
theorem kw_171 : Cond.code yX6_needNode cX6_needNode 2 none ∈ GT := gt_in (List.mem_append_right _ (List.mem_of_getElem? (i := 660) (by decide +kernel))) (by decide +kernel)
theorem kw_172 : Cond.instanceMethod yX6_needNode ∈ GT := gt_in (List.mem_append_right _ (List.mem_of_getElem? (i := 659) (by decide +kernel))) (by decide +kernel)
theorem kw_173 : Cond.selects RX6 yX6_needNode yX6_needNode ∈ GT := gt_in (List.mem_append_left _ (List.mem_of_getElem? (i := 47) (by decide +kernel))) (by decide +kernel)
theorem kw_174 : Cond.methodLink RX5 34 yX5_areJoined ∈ GT := gt_in (List.mem_append_right _ (List.mem_of_getElem? (i := 403) (by decide +kernel))) (by decide +kernel)
theorem kw_175 : Cond.code yX5_areJoined cX5_areJoined 3 (some .boolean) ∈ GT := gt_in (List.mem_append_right _ (List.mem_of_getElem? (i := 406) (by decide +kernel))) (by decide +kernel)
theorem kw_176 : Cond.instanceMethod yX5_areJoined ∈ GT := gt_in (List.mem_append_right _ (List.mem_of_getElem? (i := 405) (by decide +kernel))) (by decide +kernel)
theorem kw_177 : Cond.selects RX5 yX5_areJoined yX5_areJoined ∈ GT := gt_in (List.mem_append_left _ (List.mem_of_getElem? (i := 27) (by decide +kernel))) (by decide +kernel)
theorem kw_178 : Cond.methodLinkNest RX6 146 yX5_addLine "SlideBoards" ∈ GT := gt_in (List.mem_append_right _ (List.mem_of_getElem? (i := 662) (by decide +kernel))) (by decide +kernel)
theorem kw_179 : Cond.code yX5_addLine cX5_addLine 3 (some .boolean) ∈ GT := gt_in (List.mem_append_right _ (List.mem_of_getElem? (i := 665) (by decide +kernel))) (by decide +kernel)
theorem kw_180 : Cond.instanceMethod yX5_addLine ∈ GT := gt_in (List.mem_append_right _ (List.mem_of_getElem? (i := 664) (by decide +kernel))) (by decide +kernel)
theorem kw_181 : Cond.selects RX5 yX5_addLine yX5_addLine ∈ GT := gt_in (List.mem_append_left _ (List.mem_of_getElem? (i := 48) (by decide +kernel))) (by decide +kernel)
theorem kw_182 : Cond.methodLink RX5 38 yX5_gapNode ∈ GT := gt_in (List.mem_append_right _ (List.mem_of_getElem? (i := 420) (by decide +kernel))) (by decide +kernel)
theorem kw_183 : Cond.code yX5_gapNode cX5_gapNode 2 (some .int) ∈ GT := gt_in (List.mem_append_right _ (List.mem_of_getElem? (i := 423) (by decide +kernel))) (by decide +kernel)
theorem kw_184 : Cond.instanceMethod yX5_gapNode ∈ GT := gt_in (List.mem_append_right _ (List.mem_of_getElem? (i := 422) (by decide +kernel))) (by decide +kernel)
theorem kw_185 : Cond.selects RX5 yX5_gapNode yX5_gapNode ∈ GT := gt_in (List.mem_append_left _ (List.mem_of_getElem? (i := 30) (by decide +kernel))) (by decide +kernel)
theorem kw_186 : Cond.methodLink RX5 42 yX5_exchange ∈ GT := gt_in (List.mem_append_right _ (List.mem_of_getElem? (i := 684) (by decide +kernel))) (by decide +kernel)
theorem kw_187 : Cond.code yX5_exchange cX5_exchange 4 (some .boolean) ∈ GT := gt_in (List.mem_append_right _ (List.mem_of_getElem? (i := 687) (by decide +kernel))) (by decide +kernel)
theorem kw_188 : Cond.instanceMethod yX5_exchange ∈ GT := gt_in (List.mem_append_right _ (List.mem_of_getElem? (i := 686) (by decide +kernel))) (by decide +kernel)
theorem kw_189 : Cond.selects RX5 yX5_exchange yX5_exchange ∈ GT := gt_in (List.mem_append_left _ (List.mem_of_getElem? (i := 50) (by decide +kernel))) (by decide +kernel)
theorem kw_190 : Cond.methodLinkNest RX6 152 yX5_moveToGap "SlideBoards" ∈ GT := gt_in (List.mem_append_right _ (List.mem_of_getElem? (i := 680) (by decide +kernel))) (by decide +kernel)
theorem kw_191 : Cond.code yX5_moveToGap cX5_moveToGap 3 (some .boolean) ∈ GT := gt_in (List.mem_append_right _ (List.mem_of_getElem? (i := 683) (by decide +kernel))) (by decide +kernel)
theorem kw_192 : Cond.instanceMethod yX5_moveToGap ∈ GT := gt_in (List.mem_append_right _ (List.mem_of_getElem? (i := 682) (by decide +kernel))) (by decide +kernel)
theorem kw_193 : Cond.selects RX5 yX5_moveToGap yX5_moveToGap ∈ GT := gt_in (List.mem_append_left _ (List.mem_of_getElem? (i := 49) (by decide +kernel))) (by decide +kernel)
theorem kw_194 : Cond.methodLinkNest RX6 156 yX5_exchange "SlideBoards" ∈ GT := gt_in (List.mem_append_right _ (List.mem_of_getElem? (i := 695) (by decide +kernel))) (by decide +kernel)
theorem kw_195 : Cond.methodLink RX5 45 yX5_spreadDistances ∈ GT := gt_in (List.mem_append_right _ (List.mem_of_getElem? (i := 399) (by decide +kernel))) (by decide +kernel)
theorem kw_196 : Cond.code yX5_spreadDistances cX5_spreadDistances 4 none ∈ GT := gt_in (List.mem_append_right _ (List.mem_of_getElem? (i := 402) (by decide +kernel))) (by decide +kernel)
theorem kw_197 : Cond.instanceMethod yX5_spreadDistances ∈ GT := gt_in (List.mem_append_right _ (List.mem_of_getElem? (i := 401) (by decide +kernel))) (by decide +kernel)
theorem kw_198 : Cond.selects RX5 yX5_spreadDistances yX5_spreadDistances ∈ GT := gt_in (List.mem_append_left _ (List.mem_of_getElem? (i := 26) (by decide +kernel))) (by decide +kernel)
theorem kw_199 : Cond.methodLink RX5 48 yX5_measureDistances ∈ GT := gt_in (List.mem_append_right _ (List.mem_of_getElem? (i := 395) (by decide +kernel))) (by decide +kernel)
theorem kw_200 : Cond.code yX5_measureDistances cX5_measureDistances 2 none ∈ GT := gt_in (List.mem_append_right _ (List.mem_of_getElem? (i := 398) (by decide +kernel))) (by decide +kernel)
theorem kw_201 : Cond.instanceMethod yX5_measureDistances ∈ GT := gt_in (List.mem_append_right _ (List.mem_of_getElem? (i := 397) (by decide +kernel))) (by decide +kernel)
theorem kw_202 : Cond.selects RX5 yX5_measureDistances yX5_measureDistances ∈ GT := gt_in (List.mem_append_left _ (List.mem_of_getElem? (i := 25) (by decide +kernel))) (by decide +kernel)
theorem kw_203 : Cond.methodLinkNest RX6 159 yX5_hasTwoColours "SlideBoards" ∈ GT := gt_in (List.mem_append_right _ (List.mem_of_getElem? (i := 391) (by decide +kernel))) (by decide +kernel)
theorem kw_204 : Cond.code yX5_hasTwoColours cX5_hasTwoColours 3 (some .boolean) ∈ GT := gt_in (List.mem_append_right _ (List.mem_of_getElem? (i := 394) (by decide +kernel))) (by decide +kernel)
theorem kw_205 : Cond.instanceMethod yX5_hasTwoColours ∈ GT := gt_in (List.mem_append_right _ (List.mem_of_getElem? (i := 393) (by decide +kernel))) (by decide +kernel)
theorem kw_206 : Cond.selects RX5 yX5_hasTwoColours yX5_hasTwoColours ∈ GT := gt_in (List.mem_append_left _ (List.mem_of_getElem? (i := 24) (by decide +kernel))) (by decide +kernel)
theorem kw_207 : Cond.methodLink RX5 51 yX5_hasTwoColours ∈ GT := gt_in (List.mem_append_right _ (List.mem_of_getElem? (i := 415) (by decide +kernel))) (by decide +kernel)
theorem kw_208 : Cond.methodLink RX5 55 yX5_countInversions ∈ GT := gt_in (List.mem_append_right _ (List.mem_of_getElem? (i := 416) (by decide +kernel))) (by decide +kernel)
theorem kw_209 : Cond.code yX5_countInversions cX5_countInversions 4 (some .int) ∈ GT := gt_in (List.mem_append_right _ (List.mem_of_getElem? (i := 419) (by decide +kernel))) (by decide +kernel)
theorem kw_210 : Cond.instanceMethod yX5_countInversions ∈ GT := gt_in (List.mem_append_right _ (List.mem_of_getElem? (i := 418) (by decide +kernel))) (by decide +kernel)
theorem kw_211 : Cond.selects RX5 yX5_countInversions yX5_countInversions ∈ GT := gt_in (List.mem_append_left _ (List.mem_of_getElem? (i := 29) (by decide +kernel))) (by decide +kernel)
theorem kw_212 : Cond.methodLinkNest RX6 163 yX5_invariant "SlideBoards" ∈ GT := gt_in (List.mem_append_right _ (List.mem_of_getElem? (i := 411) (by decide +kernel))) (by decide +kernel)
theorem kw_213 : Cond.code yX5_invariant cX5_invariant 1 (some .int) ∈ GT := gt_in (List.mem_append_right _ (List.mem_of_getElem? (i := 414) (by decide +kernel))) (by decide +kernel)
theorem kw_214 : Cond.instanceMethod yX5_invariant ∈ GT := gt_in (List.mem_append_right _ (List.mem_of_getElem? (i := 413) (by decide +kernel))) (by decide +kernel)
theorem kw_215 : Cond.selects RX5 yX5_invariant yX5_invariant ∈ GT := gt_in (List.mem_append_left _ (List.mem_of_getElem? (i := 28) (by decide +kernel))) (by decide +kernel)
theorem kw_216 : Cond.constant RX5 79 (2097151) ∈ GT := gt_in (List.mem_append_right _ (List.mem_of_getElem? (i := 439) (by decide +kernel))) (by decide +kernel)
theorem kw_217 : Cond.methodLink RX5 68 yX5_markOf ∈ GT := gt_in (List.mem_append_right _ (List.mem_of_getElem? (i := 436) (by decide +kernel))) (by decide +kernel)
theorem kw_218 : Cond.code yX5_markOf cX5_markOf 1 (some .int) ∈ GT := gt_in (List.mem_append_right _ (List.mem_of_getElem? (i := 438) (by decide +kernel))) (by decide +kernel)
theorem kw_219 : Cond.static yX5_markOf ∈ GT := gt_in (List.mem_append_right _ (List.mem_of_getElem? (i := 437) (by decide +kernel))) (by decide +kernel)
theorem kw_220 : Cond.methodLink RX5 64 yX5_isMarked ∈ GT := gt_in (List.mem_append_right _ (List.mem_of_getElem? (i := 444) (by decide +kernel))) (by decide +kernel)
theorem kw_221 : Cond.code yX5_isMarked cX5_isMarked 2 (some .boolean) ∈ GT := gt_in (List.mem_append_right _ (List.mem_of_getElem? (i := 447) (by decide +kernel))) (by decide +kernel)
theorem kw_222 : Cond.instanceMethod yX5_isMarked ∈ GT := gt_in (List.mem_append_right _ (List.mem_of_getElem? (i := 446) (by decide +kernel))) (by decide +kernel)
theorem kw_223 : Cond.selects RX5 yX5_isMarked yX5_isMarked ∈ GT := gt_in (List.mem_append_left _ (List.mem_of_getElem? (i := 34) (by decide +kernel))) (by decide +kernel)
theorem kw_224 : Cond.constant RX5 21 (40320) ∈ GT := gt_in (List.mem_append_right _ (List.mem_of_getElem? (i := 197) (by decide +kernel))) (by decide +kernel)
theorem kw_225 : Cond.methodLink RX5 72 yX5_mark ∈ GT := gt_in (List.mem_append_right _ (List.mem_of_getElem? (i := 440) (by decide +kernel))) (by decide +kernel)
theorem kw_226 : Cond.code yX5_mark cX5_mark 2 none ∈ GT := gt_in (List.mem_append_right _ (List.mem_of_getElem? (i := 443) (by decide +kernel))) (by decide +kernel)
theorem kw_227 : Cond.instanceMethod yX5_mark ∈ GT := gt_in (List.mem_append_right _ (List.mem_of_getElem? (i := 442) (by decide +kernel))) (by decide +kernel)
theorem kw_228 : Cond.selects RX5 yX5_mark yX5_mark ∈ GT := gt_in (List.mem_append_left _ (List.mem_of_getElem? (i := 33) (by decide +kernel))) (by decide +kernel)
theorem kw_229 : Cond.methodLink RX5 76 yX5_markShifts ∈ GT := gt_in (List.mem_append_right _ (List.mem_of_getElem? (i := 448) (by decide +kernel))) (by decide +kernel)
theorem kw_230 : Cond.code yX5_markShifts cX5_markShifts 5 none ∈ GT := gt_in (List.mem_append_right _ (List.mem_of_getElem? (i := 451) (by decide +kernel))) (by decide +kernel)
theorem kw_231 : Cond.instanceMethod yX5_markShifts ∈ GT := gt_in (List.mem_append_right _ (List.mem_of_getElem? (i := 450) (by decide +kernel))) (by decide +kernel)
theorem kw_232 : Cond.selects RX5 yX5_markShifts yX5_markShifts ∈ GT := gt_in (List.mem_append_left _ (List.mem_of_getElem? (i := 35) (by decide +kernel))) (by decide +kernel)
theorem kw_233 : Cond.methodLink RX5 58 yX5_findArrangements ∈ GT := gt_in (List.mem_append_right _ (List.mem_of_getElem? (i := 432) (by decide +kernel))) (by decide +kernel)
theorem kw_234 : Cond.code yX5_findArrangements cX5_findArrangements 3 none ∈ GT := gt_in (List.mem_append_right _ (List.mem_of_getElem? (i := 435) (by decide +kernel))) (by decide +kernel)
theorem kw_235 : Cond.instanceMethod yX5_findArrangements ∈ GT := gt_in (List.mem_append_right _ (List.mem_of_getElem? (i := 434) (by decide +kernel))) (by decide +kernel)
theorem kw_236 : Cond.selects RX5 yX5_findArrangements yX5_findArrangements ∈ GT := gt_in (List.mem_append_left _ (List.mem_of_getElem? (i := 32) (by decide +kernel))) (by decide +kernel)
theorem kw_237 : Cond.methodLinkNest RX6 166 yX5_countArrangements "SlideBoards" ∈ GT := gt_in (List.mem_append_right _ (List.mem_of_getElem? (i := 428) (by decide +kernel))) (by decide +kernel)
theorem kw_238 : Cond.code yX5_countArrangements cX5_countArrangements 1 (some .int) ∈ GT := gt_in (List.mem_append_right _ (List.mem_of_getElem? (i := 431) (by decide +kernel))) (by decide +kernel)
theorem kw_239 : Cond.instanceMethod yX5_countArrangements ∈ GT := gt_in (List.mem_append_right _ (List.mem_of_getElem? (i := 430) (by decide +kernel))) (by decide +kernel)
theorem kw_240 : Cond.selects RX5 yX5_countArrangements yX5_countArrangements ∈ GT := gt_in (List.mem_append_left _ (List.mem_of_getElem? (i := 31) (by decide +kernel))) (by decide +kernel)
theorem kw_241 : Cond.methodLinkNest RX6 169 yX5_comesHome "SlideBoards" ∈ GT := gt_in (List.mem_append_right _ (List.mem_of_getElem? (i := 456) (by decide +kernel))) (by decide +kernel)
theorem kw_242 : Cond.code yX5_comesHome cX5_comesHome 3 (some .boolean) ∈ GT := gt_in (List.mem_append_right _ (List.mem_of_getElem? (i := 459) (by decide +kernel))) (by decide +kernel)
theorem kw_243 : Cond.instanceMethod yX5_comesHome ∈ GT := gt_in (List.mem_append_right _ (List.mem_of_getElem? (i := 458) (by decide +kernel))) (by decide +kernel)
theorem kw_244 : Cond.selects RX5 yX5_comesHome yX5_comesHome ∈ GT := gt_in (List.mem_append_left _ (List.mem_of_getElem? (i := 36) (by decide +kernel))) (by decide +kernel)
theorem kw_245 : Cond.methodLink RX7 90 yX7_isCell ∈ GT := gt_in (List.mem_append_right _ (List.mem_of_getElem? (i := 804) (by decide +kernel))) (by decide +kernel)
theorem kw_246 : Cond.initialized RX7 ∈ GT := gt_in (List.mem_append_right _ (List.mem_of_getElem? (i := 9) (by decide +kernel))) (by decide +kernel)
theorem kw_247 : Cond.code yX7_isCell cX7_isCell 3 (some .boolean) ∈ GT := gt_in (List.mem_append_right _ (List.mem_of_getElem? (i := 807) (by decide +kernel))) (by decide +kernel)
theorem kw_248 : Cond.instanceMethod yX7_isCell ∈ GT := gt_in (List.mem_append_right _ (List.mem_of_getElem? (i := 806) (by decide +kernel))) (by decide +kernel)
theorem kw_249 : Cond.selects RX7 yX7_isCell yX7_isCell ∈ GT := gt_in (List.mem_append_left _ (List.mem_of_getElem? (i := 51) (by decide +kernel))) (by decide +kernel)
theorem kw_250 : Cond.methodLink RX7 94 yX7_throwsIf ∈ GT := gt_in (List.mem_append_right _ (List.mem_of_getElem? (i := 808) (by decide +kernel))) (by decide +kernel)
theorem kw_251 : Cond.code yX7_throwsIf cX7_throwsIf 3 (some .boolean) ∈ GT := gt_in (List.mem_append_right _ (List.mem_of_getElem? (i := 811) (by decide +kernel))) (by decide +kernel)
theorem kw_252 : Cond.instanceMethod yX7_throwsIf ∈ GT := gt_in (List.mem_append_right _ (List.mem_of_getElem? (i := 810) (by decide +kernel))) (by decide +kernel)
theorem kw_253 : Cond.selects RX7 yX7_throwsIf yX7_throwsIf ∈ GT := gt_in (List.mem_append_left _ (List.mem_of_getElem? (i := 52) (by decide +kernel))) (by decide +kernel)
theorem kw_254 : Cond.methodLink RX7 98 yX7_blocked ∈ GT := gt_in (List.mem_append_right _ (List.mem_of_getElem? (i := 812) (by decide +kernel))) (by decide +kernel)
theorem kw_255 : Cond.code yX7_blocked cX7_blocked 3 (some .int) ∈ GT := gt_in (List.mem_append_right _ (List.mem_of_getElem? (i := 815) (by decide +kernel))) (by decide +kernel)
theorem kw_256 : Cond.instanceMethod yX7_blocked ∈ GT := gt_in (List.mem_append_right _ (List.mem_of_getElem? (i := 814) (by decide +kernel))) (by decide +kernel)
theorem kw_257 : Cond.selects RX7 yX7_blocked yX7_blocked ∈ GT := gt_in (List.mem_append_left _ (List.mem_of_getElem? (i := 53) (by decide +kernel))) (by decide +kernel)
theorem kw_258 : Cond.methodLink RX7 102 yX7_isBlock ∈ GT := gt_in (List.mem_append_right _ (List.mem_of_getElem? (i := 824) (by decide +kernel))) (by decide +kernel)
theorem kw_259 : Cond.code yX7_isBlock cX7_isBlock 2 (some .boolean) ∈ GT := gt_in (List.mem_append_right _ (List.mem_of_getElem? (i := 827) (by decide +kernel))) (by decide +kernel)
theorem kw_260 : Cond.instanceMethod yX7_isBlock ∈ GT := gt_in (List.mem_append_right _ (List.mem_of_getElem? (i := 826) (by decide +kernel))) (by decide +kernel)
theorem kw_261 : Cond.selects RX7 yX7_isBlock yX7_isBlock ∈ GT := gt_in (List.mem_append_left _ (List.mem_of_getElem? (i := 54) (by decide +kernel))) (by decide +kernel)
theorem kw_262 : Cond.methodLink RX7 106 yX7_placeOf ∈ GT := gt_in (List.mem_append_right _ (List.mem_of_getElem? (i := 832) (by decide +kernel))) (by decide +kernel)
theorem kw_263 : Cond.code yX7_placeOf cX7_placeOf 2 (some .int) ∈ GT := gt_in (List.mem_append_right _ (List.mem_of_getElem? (i := 834) (by decide +kernel))) (by decide +kernel)
theorem kw_264 : Cond.static yX7_placeOf ∈ GT := gt_in (List.mem_append_right _ (List.mem_of_getElem? (i := 833) (by decide +kernel))) (by decide +kernel)
theorem kw_265 : Cond.methodLink RX7 110 yX7_moved ∈ GT := gt_in (List.mem_append_right _ (List.mem_of_getElem? (i := 843) (by decide +kernel))) (by decide +kernel)
theorem kw_266 : Cond.code yX7_moved cX7_moved 6 (some .int) ∈ GT := gt_in (List.mem_append_right _ (List.mem_of_getElem? (i := 846) (by decide +kernel))) (by decide +kernel)
theorem kw_267 : Cond.instanceMethod yX7_moved ∈ GT := gt_in (List.mem_append_right _ (List.mem_of_getElem? (i := 845) (by decide +kernel))) (by decide +kernel)
theorem kw_268 : Cond.selects RX7 yX7_moved yX7_moved ∈ GT := gt_in (List.mem_append_left _ (List.mem_of_getElem? (i := 56) (by decide +kernel))) (by decide +kernel)
theorem kw_269 : Cond.methodLink RX7 114 yX7_stepped ∈ GT := gt_in (List.mem_append_right _ (List.mem_of_getElem? (i := 839) (by decide +kernel))) (by decide +kernel)
theorem kw_270 : Cond.code yX7_stepped cX7_stepped 7 (some .int) ∈ GT := gt_in (List.mem_append_right _ (List.mem_of_getElem? (i := 842) (by decide +kernel))) (by decide +kernel)
theorem kw_271 : Cond.instanceMethod yX7_stepped ∈ GT := gt_in (List.mem_append_right _ (List.mem_of_getElem? (i := 841) (by decide +kernel))) (by decide +kernel)
theorem kw_272 : Cond.selects RX7 yX7_stepped yX7_stepped ∈ GT := gt_in (List.mem_append_left _ (List.mem_of_getElem? (i := 55) (by decide +kernel))) (by decide +kernel)
theorem kw_273 : Cond.methodLink RX7 118 yX7_addGoal ∈ GT := gt_in (List.mem_append_right _ (List.mem_of_getElem? (i := 851) (by decide +kernel))) (by decide +kernel)
theorem kw_274 : Cond.code yX7_addGoal cX7_addGoal 4 (some .int) ∈ GT := gt_in (List.mem_append_right _ (List.mem_of_getElem? (i := 854) (by decide +kernel))) (by decide +kernel)
theorem kw_275 : Cond.instanceMethod yX7_addGoal ∈ GT := gt_in (List.mem_append_right _ (List.mem_of_getElem? (i := 853) (by decide +kernel))) (by decide +kernel)
theorem kw_276 : Cond.selects RX7 yX7_addGoal yX7_addGoal ∈ GT := gt_in (List.mem_append_left _ (List.mem_of_getElem? (i := 57) (by decide +kernel))) (by decide +kernel)
theorem kw_277 : Cond.methodLink RX7 125 yX7_isMet ∈ GT := gt_in (List.mem_append_right _ (List.mem_of_getElem? (i := 871) (by decide +kernel))) (by decide +kernel)
theorem kw_278 : Cond.code yX7_isMet cX7_isMet 4 (some .boolean) ∈ GT := gt_in (List.mem_append_right _ (List.mem_of_getElem? (i := 874) (by decide +kernel))) (by decide +kernel)
theorem kw_279 : Cond.instanceMethod yX7_isMet ∈ GT := gt_in (List.mem_append_right _ (List.mem_of_getElem? (i := 873) (by decide +kernel))) (by decide +kernel)
theorem kw_280 : Cond.selects RX7 yX7_isMet yX7_isMet ∈ GT := gt_in (List.mem_append_left _ (List.mem_of_getElem? (i := 59) (by decide +kernel))) (by decide +kernel)
theorem kw_281 : Cond.methodLink RX7 129 yX7_openIn ∈ GT := gt_in (List.mem_append_right _ (List.mem_of_getElem? (i := 867) (by decide +kernel))) (by decide +kernel)
theorem kw_282 : Cond.code yX7_openIn cX7_openIn 3 (some .int) ∈ GT := gt_in (List.mem_append_right _ (List.mem_of_getElem? (i := 870) (by decide +kernel))) (by decide +kernel)
theorem kw_283 : Cond.instanceMethod yX7_openIn ∈ GT := gt_in (List.mem_append_right _ (List.mem_of_getElem? (i := 869) (by decide +kernel))) (by decide +kernel)
theorem kw_284 : Cond.selects RX7 yX7_openIn yX7_openIn ∈ GT := gt_in (List.mem_append_left _ (List.mem_of_getElem? (i := 58) (by decide +kernel))) (by decide +kernel)
theorem kw_285 : Cond.methodLink RX7 133 yX7_isIn ∈ GT := gt_in (List.mem_append_right _ (List.mem_of_getElem? (i := 891) (by decide +kernel))) (by decide +kernel)
theorem kw_286 : Cond.code yX7_isIn cX7_isIn 7 (some .boolean) ∈ GT := gt_in (List.mem_append_right _ (List.mem_of_getElem? (i := 894) (by decide +kernel))) (by decide +kernel)
theorem kw_287 : Cond.instanceMethod yX7_isIn ∈ GT := gt_in (List.mem_append_right _ (List.mem_of_getElem? (i := 893) (by decide +kernel))) (by decide +kernel)
theorem kw_288 : Cond.selects RX7 yX7_isIn yX7_isIn ∈ GT := gt_in (List.mem_append_left _ (List.mem_of_getElem? (i := 63) (by decide +kernel))) (by decide +kernel)
theorem kw_289 : Cond.methodLink RX7 137 yX7_isShape ∈ GT := gt_in (List.mem_append_right _ (List.mem_of_getElem? (i := 887) (by decide +kernel))) (by decide +kernel)
theorem kw_290 : Cond.code yX7_isShape cX7_isShape 7 (some .boolean) ∈ GT := gt_in (List.mem_append_right _ (List.mem_of_getElem? (i := 890) (by decide +kernel))) (by decide +kernel)
theorem kw_291 : Cond.instanceMethod yX7_isShape ∈ GT := gt_in (List.mem_append_right _ (List.mem_of_getElem? (i := 889) (by decide +kernel))) (by decide +kernel)
theorem kw_292 : Cond.selects RX7 yX7_isShape yX7_isShape ∈ GT := gt_in (List.mem_append_left _ (List.mem_of_getElem? (i := 62) (by decide +kernel))) (by decide +kernel)
theorem kw_293 : Cond.methodLink RX7 140 yX7_isKey ∈ GT := gt_in (List.mem_append_right _ (List.mem_of_getElem? (i := 907) (by decide +kernel))) (by decide +kernel)
theorem kw_294 : Cond.code yX7_isKey cX7_isKey 3 (some .boolean) ∈ GT := gt_in (List.mem_append_right _ (List.mem_of_getElem? (i := 910) (by decide +kernel))) (by decide +kernel)
theorem kw_295 : Cond.instanceMethod yX7_isKey ∈ GT := gt_in (List.mem_append_right _ (List.mem_of_getElem? (i := 909) (by decide +kernel))) (by decide +kernel)
theorem kw_296 : Cond.selects RX7 yX7_isKey yX7_isKey ∈ GT := gt_in (List.mem_append_left _ (List.mem_of_getElem? (i := 67) (by decide +kernel))) (by decide +kernel)
theorem kw_297 : Cond.constant RX7 35 (32768) ∈ GT := gt_in (List.mem_append_right _ (List.mem_of_getElem? (i := 703) (by decide +kernel))) (by decide +kernel)
theorem kw_298 : Cond.methodLink RX7 143 yX7_order ∈ GT := gt_in (List.mem_append_right _ (List.mem_of_getElem? (i := 899) (by decide +kernel))) (by decide +kernel)
theorem kw_299 : Cond.code yX7_order cX7_order 4 none ∈ GT := gt_in (List.mem_append_right _ (List.mem_of_getElem? (i := 902) (by decide +kernel))) (by decide +kernel)
theorem kw_300 : Cond.instanceMethod yX7_order ∈ GT := gt_in (List.mem_append_right _ (List.mem_of_getElem? (i := 901) (by decide +kernel))) (by decide +kernel)
theorem kw_301 : Cond.selects RX7 yX7_order yX7_order ∈ GT := gt_in (List.mem_append_left _ (List.mem_of_getElem? (i := 65) (by decide +kernel))) (by decide +kernel)
theorem kw_302 : Cond.methodLink RX7 146 yX7_seatOf ∈ GT := gt_in (List.mem_append_right _ (List.mem_of_getElem? (i := 903) (by decide +kernel))) (by decide +kernel)
theorem kw_303 : Cond.code yX7_seatOf cX7_seatOf 3 (some .int) ∈ GT := gt_in (List.mem_append_right _ (List.mem_of_getElem? (i := 906) (by decide +kernel))) (by decide +kernel)
theorem kw_304 : Cond.instanceMethod yX7_seatOf ∈ GT := gt_in (List.mem_append_right _ (List.mem_of_getElem? (i := 905) (by decide +kernel))) (by decide +kernel)
theorem kw_305 : Cond.selects RX7 yX7_seatOf yX7_seatOf ∈ GT := gt_in (List.mem_append_left _ (List.mem_of_getElem? (i := 66) (by decide +kernel))) (by decide +kernel)
theorem kw_306 : Cond.methodLink RX7 152 yX7_liken ∈ GT := gt_in (List.mem_append_right _ (List.mem_of_getElem? (i := 883) (by decide +kernel))) (by decide +kernel)
theorem kw_307 : Cond.code yX7_liken cX7_liken 3 none ∈ GT := gt_in (List.mem_append_right _ (List.mem_of_getElem? (i := 886) (by decide +kernel))) (by decide +kernel)
theorem kw_308 : Cond.instanceMethod yX7_liken ∈ GT := gt_in (List.mem_append_right _ (List.mem_of_getElem? (i := 885) (by decide +kernel))) (by decide +kernel)
theorem kw_309 : Cond.selects RX7 yX7_liken yX7_liken ∈ GT := gt_in (List.mem_append_left _ (List.mem_of_getElem? (i := 61) (by decide +kernel))) (by decide +kernel)
theorem kw_310 : Cond.methodLink RX7 155 yX7_isNew ∈ GT := gt_in (List.mem_append_right _ (List.mem_of_getElem? (i := 895) (by decide +kernel))) (by decide +kernel)
theorem kw_311 : Cond.code yX7_isNew cX7_isNew 5 (some .boolean) ∈ GT := gt_in (List.mem_append_right _ (List.mem_of_getElem? (i := 898) (by decide +kernel))) (by decide +kernel)
theorem kw_312 : Cond.instanceMethod yX7_isNew ∈ GT := gt_in (List.mem_append_right _ (List.mem_of_getElem? (i := 897) (by decide +kernel))) (by decide +kernel)
theorem kw_313 : Cond.selects RX7 yX7_isNew yX7_isNew ∈ GT := gt_in (List.mem_append_left _ (List.mem_of_getElem? (i := 64) (by decide +kernel))) (by decide +kernel)
theorem kw_314 : Cond.methodLink RX7 158 yX7_load ∈ GT := gt_in (List.mem_append_right _ (List.mem_of_getElem? (i := 911) (by decide +kernel))) (by decide +kernel)
theorem kw_315 : Cond.code yX7_load cX7_load 3 none ∈ GT := gt_in (List.mem_append_right _ (List.mem_of_getElem? (i := 914) (by decide +kernel))) (by decide +kernel)
theorem kw_316 : Cond.instanceMethod yX7_load ∈ GT := gt_in (List.mem_append_right _ (List.mem_of_getElem? (i := 913) (by decide +kernel))) (by decide +kernel)
theorem kw_317 : Cond.selects RX7 yX7_load yX7_load ∈ GT := gt_in (List.mem_append_left _ (List.mem_of_getElem? (i := 68) (by decide +kernel))) (by decide +kernel)
theorem kw_318 : Cond.methodLink RX7 162 yX7_spread ∈ GT := gt_in (List.mem_append_right _ (List.mem_of_getElem? (i := 879) (by decide +kernel))) (by decide +kernel)
theorem kw_319 : Cond.code yX7_spread cX7_spread 10 (some .int) ∈ GT := gt_in (List.mem_append_right _ (List.mem_of_getElem? (i := 882) (by decide +kernel))) (by decide +kernel)
theorem kw_320 : Cond.instanceMethod yX7_spread ∈ GT := gt_in (List.mem_append_right _ (List.mem_of_getElem? (i := 881) (by decide +kernel))) (by decide +kernel)
theorem kw_321 : Cond.selects RX7 yX7_spread yX7_spread ∈ GT := gt_in (List.mem_append_left _ (List.mem_of_getElem? (i := 60) (by decide +kernel))) (by decide +kernel)
theorem kw_322 : Cond.methodLink RX7 175 yX7_isNode ∈ GT := gt_in (List.mem_append_right _ (List.mem_of_getElem? (i := 939) (by decide +kernel))) (by decide +kernel)
theorem kw_323 : Cond.code yX7_isNode cX7_isNode 2 (some .boolean) ∈ GT := gt_in (List.mem_append_right _ (List.mem_of_getElem? (i := 942) (by decide +kernel))) (by decide +kernel)
theorem kw_324 : Cond.instanceMethod yX7_isNode ∈ GT := gt_in (List.mem_append_right _ (List.mem_of_getElem? (i := 941) (by decide +kernel))) (by decide +kernel)
theorem kw_325 : Cond.selects RX7 yX7_isNode yX7_isNode ∈ GT := gt_in (List.mem_append_left _ (List.mem_of_getElem? (i := 69) (by decide +kernel))) (by decide +kernel)
theorem kw_326 : Cond.methodLink RX7 178 yX7_isJoined ∈ GT := gt_in (List.mem_append_right _ (List.mem_of_getElem? (i := 943) (by decide +kernel))) (by decide +kernel)
theorem kw_327 : Cond.code yX7_isJoined cX7_isJoined 3 (some .boolean) ∈ GT := gt_in (List.mem_append_right _ (List.mem_of_getElem? (i := 946) (by decide +kernel))) (by decide +kernel)
theorem kw_328 : Cond.instanceMethod yX7_isJoined ∈ GT := gt_in (List.mem_append_right _ (List.mem_of_getElem? (i := 945) (by decide +kernel))) (by decide +kernel)
theorem kw_329 : Cond.selects RX7 yX7_isJoined yX7_isJoined ∈ GT := gt_in (List.mem_append_left _ (List.mem_of_getElem? (i := 70) (by decide +kernel))) (by decide +kernel)
theorem kw_330 : Cond.methodLink RX7 181 yX7_gap ∈ GT := gt_in (List.mem_append_right _ (List.mem_of_getElem? (i := 955) (by decide +kernel))) (by decide +kernel)
theorem kw_331 : Cond.code yX7_gap cX7_gap 2 (some .int) ∈ GT := gt_in (List.mem_append_right _ (List.mem_of_getElem? (i := 958) (by decide +kernel))) (by decide +kernel)
theorem kw_332 : Cond.instanceMethod yX7_gap ∈ GT := gt_in (List.mem_append_right _ (List.mem_of_getElem? (i := 957) (by decide +kernel))) (by decide +kernel)
theorem kw_333 : Cond.selects RX7 yX7_gap yX7_gap ∈ GT := gt_in (List.mem_append_left _ (List.mem_of_getElem? (i := 71) (by decide +kernel))) (by decide +kernel)
theorem kw_334 : Cond.methodLink RX7 184 yX7_exchange ∈ GT := gt_in (List.mem_append_right _ (List.mem_of_getElem? (i := 959) (by decide +kernel))) (by decide +kernel)
theorem kw_335 : Cond.code yX7_exchange cX7_exchange 4 none ∈ GT := gt_in (List.mem_append_right _ (List.mem_of_getElem? (i := 962) (by decide +kernel))) (by decide +kernel)
theorem kw_336 : Cond.instanceMethod yX7_exchange ∈ GT := gt_in (List.mem_append_right _ (List.mem_of_getElem? (i := 961) (by decide +kernel))) (by decide +kernel)
theorem kw_337 : Cond.selects RX7 yX7_exchange yX7_exchange ∈ GT := gt_in (List.mem_append_left _ (List.mem_of_getElem? (i := 72) (by decide +kernel))) (by decide +kernel)
theorem kw_338 : Cond.methodLink RX7 188 yX7_measure ∈ GT := gt_in (List.mem_append_right _ (List.mem_of_getElem? (i := 975) (by decide +kernel))) (by decide +kernel)
theorem kw_339 : Cond.code yX7_measure cX7_measure 5 none ∈ GT := gt_in (List.mem_append_right _ (List.mem_of_getElem? (i := 978) (by decide +kernel))) (by decide +kernel)
theorem kw_340 : Cond.instanceMethod yX7_measure ∈ GT := gt_in (List.mem_append_right _ (List.mem_of_getElem? (i := 977) (by decide +kernel))) (by decide +kernel)
theorem kw_341 : Cond.selects RX7 yX7_measure yX7_measure ∈ GT := gt_in (List.mem_append_left _ (List.mem_of_getElem? (i := 74) (by decide +kernel))) (by decide +kernel)
theorem kw_342 : Cond.methodLink RX7 191 yX7_isEven ∈ GT := gt_in (List.mem_append_right _ (List.mem_of_getElem? (i := 971) (by decide +kernel))) (by decide +kernel)
theorem kw_343 : Cond.code yX7_isEven cX7_isEven 3 (some .boolean) ∈ GT := gt_in (List.mem_append_right _ (List.mem_of_getElem? (i := 974) (by decide +kernel))) (by decide +kernel)
theorem kw_344 : Cond.instanceMethod yX7_isEven ∈ GT := gt_in (List.mem_append_right _ (List.mem_of_getElem? (i := 973) (by decide +kernel))) (by decide +kernel)
theorem kw_345 : Cond.selects RX7 yX7_isEven yX7_isEven ∈ GT := gt_in (List.mem_append_left _ (List.mem_of_getElem? (i := 73) (by decide +kernel))) (by decide +kernel)
theorem kw_346 : Cond.constant RX7 61 (40320) ∈ GT := gt_in (List.mem_append_right _ (List.mem_of_getElem? (i := 704) (by decide +kernel))) (by decide +kernel)
theorem kw_347 : Cond.methodLink RX7 195 yX7_rank ∈ GT := gt_in (List.mem_append_right _ (List.mem_of_getElem? (i := 991) (by decide +kernel))) (by decide +kernel)
theorem kw_348 : Cond.code yX7_rank cX7_rank 5 (some .int) ∈ GT := gt_in (List.mem_append_right _ (List.mem_of_getElem? (i := 994) (by decide +kernel))) (by decide +kernel)
theorem kw_349 : Cond.instanceMethod yX7_rank ∈ GT := gt_in (List.mem_append_right _ (List.mem_of_getElem? (i := 993) (by decide +kernel))) (by decide +kernel)
theorem kw_350 : Cond.selects RX7 yX7_rank yX7_rank ∈ GT := gt_in (List.mem_append_left _ (List.mem_of_getElem? (i := 76) (by decide +kernel))) (by decide +kernel)
theorem kw_351 : Cond.methodLink RX7 198 yX7_unrank ∈ GT := gt_in (List.mem_append_right _ (List.mem_of_getElem? (i := 995) (by decide +kernel))) (by decide +kernel)
theorem kw_352 : Cond.code yX7_unrank cX7_unrank 5 none ∈ GT := gt_in (List.mem_append_right _ (List.mem_of_getElem? (i := 998) (by decide +kernel))) (by decide +kernel)
theorem kw_353 : Cond.instanceMethod yX7_unrank ∈ GT := gt_in (List.mem_append_right _ (List.mem_of_getElem? (i := 997) (by decide +kernel))) (by decide +kernel)
theorem kw_354 : Cond.selects RX7 yX7_unrank yX7_unrank ∈ GT := gt_in (List.mem_append_left _ (List.mem_of_getElem? (i := 77) (by decide +kernel))) (by decide +kernel)
theorem kw_355 : Cond.methodLink RX7 201 yX7_go ∈ GT := gt_in (List.mem_append_right _ (List.mem_of_getElem? (i := 987) (by decide +kernel))) (by decide +kernel)
theorem kw_356 : Cond.code yX7_go cX7_go 6 (some .int) ∈ GT := gt_in (List.mem_append_right _ (List.mem_of_getElem? (i := 990) (by decide +kernel))) (by decide +kernel)
theorem kw_357 : Cond.instanceMethod yX7_go ∈ GT := gt_in (List.mem_append_right _ (List.mem_of_getElem? (i := 989) (by decide +kernel))) (by decide +kernel)
theorem kw_358 : Cond.selects RX7 yX7_go yX7_go ∈ GT := gt_in (List.mem_append_left _ (List.mem_of_getElem? (i := 75) (by decide +kernel))) (by decide +kernel)
theorem kw_359 : Cond.fieldLink RX0 15 "SlideBoards$Board" "masks" "[I" ∈ GT := gt_in (List.mem_append_right _ (List.mem_of_getElem? (i := 45) (by decide +kernel))) (by decide +kernel)
theorem kw_360 : Cond.fieldLink RX0 18 "SlideBoards$Board" "width" "I" ∈ GT := gt_in (List.mem_append_right _ (List.mem_of_getElem? (i := 37) (by decide +kernel))) (by decide +kernel)
theorem kw_361 : Cond.fieldLink RX0 22 "SlideBoards$Board" "height" "I" ∈ GT := gt_in (List.mem_append_right _ (List.mem_of_getElem? (i := 38) (by decide +kernel))) (by decide +kernel)
theorem kw_362 : Cond.fieldLink RX0 25 "SlideBoards$Board" "leftEdge" "I" ∈ GT := gt_in (List.mem_append_right _ (List.mem_of_getElem? (i := 39) (by decide +kernel))) (by decide +kernel)
theorem kw_363 : Cond.fieldLink RX0 28 "SlideBoards$Board" "rightEdge" "I" ∈ GT := gt_in (List.mem_append_right _ (List.mem_of_getElem? (i := 40) (by decide +kernel))) (by decide +kernel)
theorem kw_364 : Cond.fieldLink RX0 31 "SlideBoards$Board" "topEdge" "I" ∈ GT := gt_in (List.mem_append_right _ (List.mem_of_getElem? (i := 41) (by decide +kernel))) (by decide +kernel)
theorem kw_365 : Cond.fieldLink RX0 34 "SlideBoards$Board" "bottomEdge" "I" ∈ GT := gt_in (List.mem_append_right _ (List.mem_of_getElem? (i := 42) (by decide +kernel))) (by decide +kernel)
theorem kw_366 : Cond.fieldLink RX0 47 "SlideBoards$Board" "walls" "I" ∈ GT := gt_in (List.mem_append_right _ (List.mem_of_getElem? (i := 52) (by decide +kernel))) (by decide +kernel)
theorem kw_367 : Cond.fieldLink RX0 50 "SlideBoards$Board" "blocks" "I" ∈ GT := gt_in (List.mem_append_right _ (List.mem_of_getElem? (i := 50) (by decide +kernel))) (by decide +kernel)
theorem kw_368 : Cond.fieldLink RX0 9 "SlideBoards$Board" "kinds" "[I" ∈ GT := gt_in (List.mem_append_right _ (List.mem_of_getElem? (i := 43) (by decide +kernel))) (by decide +kernel)
theorem kw_369 : Cond.fieldLink RX1 12 "SlideBoards$Finder" "store" "LSlideBoards$StateStore;" ∈ GT := gt_in (List.mem_append_right _ (List.mem_of_getElem? (i := 139) (by decide +kernel))) (by decide +kernel)
theorem kw_370 : Cond.fieldLinkNest RX1 124 "SlideBoards$Board" "walls" "I" "SlideBoards" ∈ GT := gt_in (List.mem_append_right _ (List.mem_of_getElem? (i := 53) (by decide +kernel))) (by decide +kernel)
theorem kw_371 : Cond.fieldLink RX1 18 "SlideBoards$Finder" "alike" "[I" ∈ GT := gt_in (List.mem_append_right _ (List.mem_of_getElem? (i := 141) (by decide +kernel))) (by decide +kernel)
theorem kw_372 : Cond.fieldLink RX1 22 "SlideBoards$Finder" "startPlaces" "[I" ∈ GT := gt_in (List.mem_append_right _ (List.mem_of_getElem? (i := 142) (by decide +kernel))) (by decide +kernel)
theorem kw_373 : Cond.fieldLink RX1 25 "SlideBoards$Finder" "places" "[I" ∈ GT := gt_in (List.mem_append_right _ (List.mem_of_getElem? (i := 143) (by decide +kernel))) (by decide +kernel)
theorem kw_374 : Cond.fieldLink RX1 28 "SlideBoards$Finder" "masks" "[I" ∈ GT := gt_in (List.mem_append_right _ (List.mem_of_getElem? (i := 144) (by decide +kernel))) (by decide +kernel)
theorem kw_375 : Cond.fieldLink RX1 31 "SlideBoards$Finder" "sorted" "[I" ∈ GT := gt_in (List.mem_append_right _ (List.mem_of_getElem? (i := 145) (by decide +kernel))) (by decide +kernel)
theorem kw_376 : Cond.fieldLink RX1 34 "SlideBoards$Finder" "board" "LSlideBoards$Board;" ∈ GT := gt_in (List.mem_append_right _ (List.mem_of_getElem? (i := 137) (by decide +kernel))) (by decide +kernel)
theorem kw_377 : Cond.fieldLink RX1 38 "SlideBoards$Finder" "goals" "LSlideBoards$Goals;" ∈ GT := gt_in (List.mem_append_right _ (List.mem_of_getElem? (i := 138) (by decide +kernel))) (by decide +kernel)
theorem kw_378 : Cond.fieldLinkNest RX1 42 "SlideBoards$Board" "blocks" "I" "SlideBoards" ∈ GT := gt_in (List.mem_append_right _ (List.mem_of_getElem? (i := 48) (by decide +kernel))) (by decide +kernel)
theorem kw_379 : Cond.fieldLinkNest RX1 48 "SlideBoards$Board" "masks" "[I" "SlideBoards" ∈ GT := gt_in (List.mem_append_right _ (List.mem_of_getElem? (i := 46) (by decide +kernel))) (by decide +kernel)
theorem kw_380 : Cond.fieldLink RX1 59 "SlideBoards$Finder" "most" "I" ∈ GT := gt_in (List.mem_append_right _ (List.mem_of_getElem? (i := 146) (by decide +kernel))) (by decide +kernel)
theorem kw_381 : Cond.fieldLink RX1 62 "SlideBoards$Finder" "stepsMost" "I" ∈ GT := gt_in (List.mem_append_right _ (List.mem_of_getElem? (i := 147) (by decide +kernel))) (by decide +kernel)
theorem kw_382 : Cond.fieldLink RX1 65 "SlideBoards$Finder" "toGoal" "Z" ∈ GT := gt_in (List.mem_append_right _ (List.mem_of_getElem? (i := 148) (by decide +kernel))) (by decide +kernel)
theorem kw_383 : Cond.fieldLinkNest RX1 79 "SlideBoards$StateStore" "count" "I" "SlideBoards" ∈ GT := gt_in (List.mem_append_right _ (List.mem_of_getElem? (i := 119) (by decide +kernel))) (by decide +kernel)
theorem kw_384 : Cond.fieldLinkNest RX1 93 "SlideBoards$StateStore" "layouts" "[J" "SlideBoards" ∈ GT := gt_in (List.mem_append_right _ (List.mem_of_getElem? (i := 110) (by decide +kernel))) (by decide +kernel)
theorem kw_385 : Cond.fieldLink RX2 15 "SlideBoards$Goals" "wanted" "[I" ∈ GT := gt_in (List.mem_append_right _ (List.mem_of_getElem? (i := 83) (by decide +kernel))) (by decide +kernel)
theorem kw_386 : Cond.fieldLink RX2 19 "SlideBoards$Goals" "cells" "[I" ∈ GT := gt_in (List.mem_append_right _ (List.mem_of_getElem? (i := 84) (by decide +kernel))) (by decide +kernel)
theorem kw_387 : Cond.fieldLink RX2 22 "SlideBoards$Goals" "count" "I" ∈ GT := gt_in (List.mem_append_right _ (List.mem_of_getElem? (i := 85) (by decide +kernel))) (by decide +kernel)
theorem kw_388 : Cond.fieldLinkNest RX2 30 "SlideBoards$Board" "blocks" "I" "SlideBoards" ∈ GT := gt_in (List.mem_append_right _ (List.mem_of_getElem? (i := 49) (by decide +kernel))) (by decide +kernel)
theorem kw_389 : Cond.fieldLinkNest RX2 35 "SlideBoards$Board" "kinds" "[I" "SlideBoards" ∈ GT := gt_in (List.mem_append_right _ (List.mem_of_getElem? (i := 44) (by decide +kernel))) (by decide +kernel)
theorem kw_390 : Cond.fieldLink RX2 9 "SlideBoards$Goals" "ofKinds" "[Z" ∈ GT := gt_in (List.mem_append_right _ (List.mem_of_getElem? (i := 82) (by decide +kernel))) (by decide +kernel)
theorem kw_391 : Cond.fieldLinkNest RX3 15 "SlideBoards$StateStore" "count" "I" "SlideBoards" ∈ GT := gt_in (List.mem_append_right _ (List.mem_of_getElem? (i := 117) (by decide +kernel))) (by decide +kernel)
theorem kw_392 : Cond.fieldLink RX3 28 "SlideBoards$Route" "length" "I" ∈ GT := gt_in (List.mem_append_right _ (List.mem_of_getElem? (i := 180) (by decide +kernel))) (by decide +kernel)
theorem kw_393 : Cond.fieldLinkNest RX3 31 "SlideBoards$StateStore" "moves" "[I" "SlideBoards" ∈ GT := gt_in (List.mem_append_right _ (List.mem_of_getElem? (i := 114) (by decide +kernel))) (by decide +kernel)
theorem kw_394 : Cond.fieldLinkNest RX3 32 "SlideBoards$StateStore" "parents" "[I" "SlideBoards" ∈ GT := gt_in (List.mem_append_right _ (List.mem_of_getElem? (i := 112) (by decide +kernel))) (by decide +kernel)
theorem kw_395 : Cond.fieldLink RX3 9 "SlideBoards$Route" "moves" "[I" ∈ GT := gt_in (List.mem_append_right _ (List.mem_of_getElem? (i := 178) (by decide +kernel))) (by decide +kernel)
theorem kw_396 : Cond.fieldLink RX4 15 "SlideBoards$StateStore" "layouts" "[J" ∈ GT := gt_in (List.mem_append_right _ (List.mem_of_getElem? (i := 109) (by decide +kernel))) (by decide +kernel)
theorem kw_397 : Cond.fieldLink RX4 18 "SlideBoards$StateStore" "parents" "[I" ∈ GT := gt_in (List.mem_append_right _ (List.mem_of_getElem? (i := 111) (by decide +kernel))) (by decide +kernel)
theorem kw_398 : Cond.fieldLink RX4 22 "SlideBoards$StateStore" "moves" "[I" ∈ GT := gt_in (List.mem_append_right _ (List.mem_of_getElem? (i := 113) (by decide +kernel))) (by decide +kernel)
theorem kw_399 : Cond.fieldLink RX4 25 "SlideBoards$StateStore" "heads" "[I" ∈ GT := gt_in (List.mem_append_right _ (List.mem_of_getElem? (i := 115) (by decide +kernel))) (by decide +kernel)
theorem kw_400 : Cond.fieldLink RX4 28 "SlideBoards$StateStore" "nexts" "[I" ∈ GT := gt_in (List.mem_append_right _ (List.mem_of_getElem? (i := 116) (by decide +kernel))) (by decide +kernel)
theorem kw_401 : Cond.fieldLink RX4 33 "SlideBoards$StateStore" "count" "I" ∈ GT := gt_in (List.mem_append_right _ (List.mem_of_getElem? (i := 118) (by decide +kernel))) (by decide +kernel)
theorem kw_402 : Cond.fieldLink RX4 9 "SlideBoards$StateStore" "keys" "[J" ∈ GT := gt_in (List.mem_append_right _ (List.mem_of_getElem? (i := 108) (by decide +kernel))) (by decide +kernel)
theorem kw_403 : Cond.fieldLink RX5 15 "SlideBoards$TileGraph" "lines" "[I" ∈ GT := gt_in (List.mem_append_right _ (List.mem_of_getElem? (i := 201) (by decide +kernel))) (by decide +kernel)
theorem kw_404 : Cond.fieldLink RX5 18 "SlideBoards$TileGraph" "distances" "[I" ∈ GT := gt_in (List.mem_append_right _ (List.mem_of_getElem? (i := 202) (by decide +kernel))) (by decide +kernel)
theorem kw_405 : Cond.fieldLink RX5 22 "SlideBoards$TileGraph" "arrangements" "[I" ∈ GT := gt_in (List.mem_append_right _ (List.mem_of_getElem? (i := 203) (by decide +kernel))) (by decide +kernel)
theorem kw_406 : Cond.fieldLink RX5 26 "SlideBoards$TileGraph" "marks" "[J" ∈ GT := gt_in (List.mem_append_right _ (List.mem_of_getElem? (i := 204) (by decide +kernel))) (by decide +kernel)
theorem kw_407 : Cond.fieldLink RX5 30 "SlideBoards$TileGraph" "nodes" "I" ∈ GT := gt_in (List.mem_append_right _ (List.mem_of_getElem? (i := 205) (by decide +kernel))) (by decide +kernel)
theorem kw_408 : Cond.fieldLink RX5 61 "SlideBoards$TileGraph" "found" "I" ∈ GT := gt_in (List.mem_append_right _ (List.mem_of_getElem? (i := 207) (by decide +kernel))) (by decide +kernel)
theorem kw_409 : Cond.fieldLink RX5 9 "SlideBoards$TileGraph" "tiles" "[I" ∈ GT := gt_in (List.mem_append_right _ (List.mem_of_getElem? (i := 199) (by decide +kernel))) (by decide +kernel)
theorem kw_410 : Cond.fieldLinkNest RX6 114 "SlideBoards$Finder" "store" "LSlideBoards$StateStore;" "SlideBoards" ∈ GT := gt_in (List.mem_append_right _ (List.mem_of_getElem? (i := 140) (by decide +kernel))) (by decide +kernel)
theorem kw_411 : Cond.fieldLinkNest RX6 122 "SlideBoards$Route" "length" "I" "SlideBoards" ∈ GT := gt_in (List.mem_append_right _ (List.mem_of_getElem? (i := 181) (by decide +kernel))) (by decide +kernel)
theorem kw_412 : Cond.fieldLinkNest RX6 126 "SlideBoards$Route" "moves" "[I" "SlideBoards" ∈ GT := gt_in (List.mem_append_right _ (List.mem_of_getElem? (i := 179) (by decide +kernel))) (by decide +kernel)
theorem kw_413 : Cond.fieldLinkNest RX6 129 "SlideBoards$Route" "states" "I" "SlideBoards" ∈ GT := gt_in (List.mem_append_right _ (List.mem_of_getElem? (i := 183) (by decide +kernel))) (by decide +kernel)
theorem kw_414 : Cond.fieldLinkNest RX6 132 "SlideBoards$StateStore" "count" "I" "SlideBoards" ∈ GT := gt_in (List.mem_append_right _ (List.mem_of_getElem? (i := 120) (by decide +kernel))) (by decide +kernel)
theorem kw_415 : Cond.fieldLinkNest RX6 149 "SlideBoards$TileGraph" "tiles" "[I" "SlideBoards" ∈ GT := gt_in (List.mem_append_right _ (List.mem_of_getElem? (i := 200) (by decide +kernel))) (by decide +kernel)
theorem kw_416 : Cond.fieldLinkNest RX6 182 "SlideBoards$Board" "blocks" "I" "SlideBoards" ∈ GT := gt_in (List.mem_append_right _ (List.mem_of_getElem? (i := 51) (by decide +kernel))) (by decide +kernel)
theorem kw_417 : Cond.fieldLinkNest RX6 194 "SlideBoards$TileGraph" "nodes" "I" "SlideBoards" ∈ GT := gt_in (List.mem_append_right _ (List.mem_of_getElem? (i := 206) (by decide +kernel))) (by decide +kernel)
theorem kw_418 : Cond.fieldLink RX6 23 "SlideBoards" "board" "LSlideBoards$Board;" ∈ GT := gt_in (List.mem_append_right _ (List.mem_of_getElem? (i := 223) (by decide +kernel))) (by decide +kernel)
theorem kw_419 : Cond.fieldLink RX6 30 "SlideBoards" "goals" "LSlideBoards$Goals;" ∈ GT := gt_in (List.mem_append_right _ (List.mem_of_getElem? (i := 224) (by decide +kernel))) (by decide +kernel)
theorem kw_420 : Cond.fieldLink RX6 39 "SlideBoards" "finder" "LSlideBoards$Finder;" ∈ GT := gt_in (List.mem_append_right _ (List.mem_of_getElem? (i := 225) (by decide +kernel))) (by decide +kernel)
theorem kw_421 : Cond.fieldLink RX6 46 "SlideBoards" "latest" "LSlideBoards$Route;" ∈ GT := gt_in (List.mem_append_right _ (List.mem_of_getElem? (i := 226) (by decide +kernel))) (by decide +kernel)
theorem kw_422 : Cond.fieldLink RX6 53 "SlideBoards" "graph" "LSlideBoards$TileGraph;" ∈ GT := gt_in (List.mem_append_right _ (List.mem_of_getElem? (i := 227) (by decide +kernel))) (by decide +kernel)
theorem kw_423 : Cond.fieldLinkNest RX6 82 "SlideBoards$Board" "masks" "[I" "SlideBoards" ∈ GT := gt_in (List.mem_append_right _ (List.mem_of_getElem? (i := 47) (by decide +kernel))) (by decide +kernel)
theorem kw_424 : Cond.fieldLink RX3 21 "SlideBoards$Route" "states" "I" ∈ GT := gt_in (List.mem_append_right _ (List.mem_of_getElem? (i := 182) (by decide +kernel))) (by decide +kernel)
theorem kw_425 : Cond.fieldLink RX7 122 "SlideBoardsModel" "goals" "I" ∈ GT := gt_in (List.mem_append_right _ (List.mem_of_getElem? (i := 712) (by decide +kernel))) (by decide +kernel)
theorem kw_426 : Cond.fieldLink RX7 13 "SlideBoardsModel" "sets" "[I" ∈ GT := gt_in (List.mem_append_right _ (List.mem_of_getElem? (i := 711) (by decide +kernel))) (by decide +kernel)
theorem kw_427 : Cond.fieldLink RX7 149 "SlideBoardsModel" "many" "I" ∈ GT := gt_in (List.mem_append_right _ (List.mem_of_getElem? (i := 715) (by decide +kernel))) (by decide +kernel)
theorem kw_428 : Cond.fieldLink RX7 16 "SlideBoardsModel" "whose" "[I" ∈ GT := gt_in (List.mem_append_right _ (List.mem_of_getElem? (i := 713) (by decide +kernel))) (by decide +kernel)
theorem kw_429 : Cond.fieldLink RX7 166 "SlideBoardsModel" "taken" "I" ∈ GT := gt_in (List.mem_append_right _ (List.mem_of_getElem? (i := 724) (by decide +kernel))) (by decide +kernel)
theorem kw_430 : Cond.fieldLink RX7 169 "SlideBoardsModel" "length" "I" ∈ GT := gt_in (List.mem_append_right _ (List.mem_of_getElem? (i := 725) (by decide +kernel))) (by decide +kernel)
theorem kw_431 : Cond.fieldLink RX7 172 "SlideBoardsModel" "nodes" "I" ∈ GT := gt_in (List.mem_append_right _ (List.mem_of_getElem? (i := 727) (by decide +kernel))) (by decide +kernel)
theorem kw_432 : Cond.fieldLink RX7 19 "SlideBoardsModel" "where" "[I" ∈ GT := gt_in (List.mem_append_right _ (List.mem_of_getElem? (i := 714) (by decide +kernel))) (by decide +kernel)
theorem kw_433 : Cond.fieldLink RX7 23 "SlideBoardsModel" "states" "[I" ∈ GT := gt_in (List.mem_append_right _ (List.mem_of_getElem? (i := 716) (by decide +kernel))) (by decide +kernel)
theorem kw_434 : Cond.fieldLink RX7 26 "SlideBoardsModel" "keys" "[I" ∈ GT := gt_in (List.mem_append_right _ (List.mem_of_getElem? (i := 717) (by decide +kernel))) (by decide +kernel)
theorem kw_435 : Cond.fieldLink RX7 29 "SlideBoardsModel" "from" "[I" ∈ GT := gt_in (List.mem_append_right _ (List.mem_of_getElem? (i := 718) (by decide +kernel))) (by decide +kernel)
theorem kw_436 : Cond.fieldLink RX7 32 "SlideBoardsModel" "by" "[I" ∈ GT := gt_in (List.mem_append_right _ (List.mem_of_getElem? (i := 719) (by decide +kernel))) (by decide +kernel)
theorem kw_437 : Cond.fieldLink RX7 36 "SlideBoardsModel" "seats" "[I" ∈ GT := gt_in (List.mem_append_right _ (List.mem_of_getElem? (i := 720) (by decide +kernel))) (by decide +kernel)
theorem kw_438 : Cond.fieldLink RX7 39 "SlideBoardsModel" "alike" "[I" ∈ GT := gt_in (List.mem_append_right _ (List.mem_of_getElem? (i := 721) (by decide +kernel))) (by decide +kernel)
theorem kw_439 : Cond.fieldLink RX7 42 "SlideBoardsModel" "now" "[I" ∈ GT := gt_in (List.mem_append_right _ (List.mem_of_getElem? (i := 722) (by decide +kernel))) (by decide +kernel)
theorem kw_440 : Cond.fieldLink RX7 45 "SlideBoardsModel" "key" "[I" ∈ GT := gt_in (List.mem_append_right _ (List.mem_of_getElem? (i := 723) (by decide +kernel))) (by decide +kernel)
theorem kw_441 : Cond.fieldLink RX7 48 "SlideBoardsModel" "path" "[I" ∈ GT := gt_in (List.mem_append_right _ (List.mem_of_getElem? (i := 726) (by decide +kernel))) (by decide +kernel)
theorem kw_442 : Cond.fieldLink RX7 51 "SlideBoardsModel" "joined" "[Z" ∈ GT := gt_in (List.mem_append_right _ (List.mem_of_getElem? (i := 728) (by decide +kernel))) (by decide +kernel)
theorem kw_443 : Cond.fieldLink RX7 55 "SlideBoardsModel" "tiles" "[I" ∈ GT := gt_in (List.mem_append_right _ (List.mem_of_getElem? (i := 729) (by decide +kernel))) (by decide +kernel)
theorem kw_444 : Cond.fieldLink RX7 58 "SlideBoardsModel" "lies" "[I" ∈ GT := gt_in (List.mem_append_right _ (List.mem_of_getElem? (i := 730) (by decide +kernel))) (by decide +kernel)
theorem kw_445 : Cond.fieldLink RX7 62 "SlideBoardsModel" "isSeen" "[Z" ∈ GT := gt_in (List.mem_append_right _ (List.mem_of_getElem? (i := 731) (by decide +kernel))) (by decide +kernel)
theorem kw_446 : Cond.fieldLink RX7 65 "SlideBoardsModel" "queue" "[I" ∈ GT := gt_in (List.mem_append_right _ (List.mem_of_getElem? (i := 732) (by decide +kernel))) (by decide +kernel)
theorem kw_447 : Cond.fieldLink RX7 68 "SlideBoardsModel" "colours" "[I" ∈ GT := gt_in (List.mem_append_right _ (List.mem_of_getElem? (i := 733) (by decide +kernel))) (by decide +kernel)
theorem kw_448 : Cond.fieldLink RX7 7 "SlideBoardsModel" "kinds" "[I" ∈ GT := gt_in (List.mem_append_right _ (List.mem_of_getElem? (i := 710) (by decide +kernel))) (by decide +kernel)
theorem kw_449 : Cond.fieldLink RX7 71 "SlideBoardsModel" "far" "[I" ∈ GT := gt_in (List.mem_append_right _ (List.mem_of_getElem? (i := 734) (by decide +kernel))) (by decide +kernel)
theorem kw_450 : Cond.fieldLink RX7 74 "SlideBoardsModel" "width" "I" ∈ GT := gt_in (List.mem_append_right _ (List.mem_of_getElem? (i := 706) (by decide +kernel))) (by decide +kernel)
theorem kw_451 : Cond.fieldLink RX7 78 "SlideBoardsModel" "height" "I" ∈ GT := gt_in (List.mem_append_right _ (List.mem_of_getElem? (i := 707) (by decide +kernel))) (by decide +kernel)
theorem kw_452 : Cond.fieldLink RX7 81 "SlideBoardsModel" "thrown" "I" ∈ GT := gt_in (List.mem_append_right _ (List.mem_of_getElem? (i := 705) (by decide +kernel))) (by decide +kernel)
theorem kw_453 : Cond.fieldLink RX7 84 "SlideBoardsModel" "blocks" "I" ∈ GT := gt_in (List.mem_append_right _ (List.mem_of_getElem? (i := 709) (by decide +kernel))) (by decide +kernel)
theorem kw_454 : Cond.fieldLink RX7 87 "SlideBoardsModel" "walls" "I" ∈ GT := gt_in (List.mem_append_right _ (List.mem_of_getElem? (i := 708) (by decide +kernel))) (by decide +kernel)
theorem hd_X0_hasCell : yX0_hasCell.cls ≠ "java/lang/invoke/MethodHandle" ∧ yX0_hasCell.cls ≠ "java/lang/invoke/VarHandle" ∧ (parseMethodDescriptor yX0_hasCell.desc).map (fun d => d.parameters.length) = some 2 := by decide +kernel
theorem hd_X6_needCell : yX6_needCell.cls ≠ "java/lang/invoke/MethodHandle" ∧ yX6_needCell.cls ≠ "java/lang/invoke/VarHandle" ∧ (parseMethodDescriptor yX6_needCell.desc).map (fun d => d.parameters.length) = some 2 := by decide +kernel
theorem hd_X0_cellOf : yX0_cellOf.cls ≠ "java/lang/invoke/MethodHandle" ∧ yX0_cellOf.cls ≠ "java/lang/invoke/VarHandle" ∧ (parseMethodDescriptor yX0_cellOf.desc).map (fun d => d.parameters.length) = some 2 := by decide +kernel
theorem hd_X0_bitOf : yX0_bitOf.cls ≠ "java/lang/invoke/MethodHandle" ∧ yX0_bitOf.cls ≠ "java/lang/invoke/VarHandle" ∧ (parseMethodDescriptor yX0_bitOf.desc).map (fun d => d.parameters.length) = some 2 := by decide +kernel
theorem hd_X0_filled : yX0_filled.cls ≠ "java/lang/invoke/MethodHandle" ∧ yX0_filled.cls ≠ "java/lang/invoke/VarHandle" ∧ (parseMethodDescriptor yX0_filled.desc).map (fun d => d.parameters.length) = some 0 := by decide +kernel
theorem hd_X0_setWall : yX0_setWall.cls ≠ "java/lang/invoke/MethodHandle" ∧ yX0_setWall.cls ≠ "java/lang/invoke/VarHandle" ∧ (parseMethodDescriptor yX0_setWall.desc).map (fun d => d.parameters.length) = some 2 := by decide +kernel
theorem hd_X6_wall : yX6_wall.cls ≠ "java/lang/invoke/MethodHandle" ∧ yX6_wall.cls ≠ "java/lang/invoke/VarHandle" ∧ (parseMethodDescriptor yX6_wall.desc).map (fun d => d.parameters.length) = some 3 := by decide +kernel
theorem hd_X6_needKind : yX6_needKind.cls ≠ "java/lang/invoke/MethodHandle" ∧ yX6_needKind.cls ≠ "java/lang/invoke/VarHandle" ∧ (parseMethodDescriptor yX6_needKind.desc).map (fun d => d.parameters.length) = some 1 := by decide +kernel
theorem hd_X0_addBlock : yX0_addBlock.cls ≠ "java/lang/invoke/MethodHandle" ∧ yX0_addBlock.cls ≠ "java/lang/invoke/VarHandle" ∧ (parseMethodDescriptor yX0_addBlock.desc).map (fun d => d.parameters.length) = some 1 := by decide +kernel
theorem hd_X6_block : yX6_block.cls ≠ "java/lang/invoke/MethodHandle" ∧ yX6_block.cls ≠ "java/lang/invoke/VarHandle" ∧ (parseMethodDescriptor yX6_block.desc).map (fun d => d.parameters.length) = some 1 := by decide +kernel
theorem hd_X6_needBlock : yX6_needBlock.cls ≠ "java/lang/invoke/MethodHandle" ∧ yX6_needBlock.cls ≠ "java/lang/invoke/VarHandle" ∧ (parseMethodDescriptor yX6_needBlock.desc).map (fun d => d.parameters.length) = some 1 := by decide +kernel
theorem hd_X0_addCell : yX0_addCell.cls ≠ "java/lang/invoke/MethodHandle" ∧ yX0_addCell.cls ≠ "java/lang/invoke/VarHandle" ∧ (parseMethodDescriptor yX0_addCell.desc).map (fun d => d.parameters.length) = some 2 := by decide +kernel
theorem hd_X6_cell : yX6_cell.cls ≠ "java/lang/invoke/MethodHandle" ∧ yX6_cell.cls ≠ "java/lang/invoke/VarHandle" ∧ (parseMethodDescriptor yX6_cell.desc).map (fun d => d.parameters.length) = some 3 := by decide +kernel
theorem hd_J6_bitCount_0f7a4 : yJ6_bitCount_0f7a4.cls ≠ "java/lang/invoke/MethodHandle" ∧ yJ6_bitCount_0f7a4.cls ≠ "java/lang/invoke/VarHandle" ∧ (parseMethodDescriptor yJ6_bitCount_0f7a4.desc).map (fun d => d.parameters.length) = some 1 := by decide +kernel
theorem hd_X0_leastCell : yX0_leastCell.cls ≠ "java/lang/invoke/MethodHandle" ∧ yX0_leastCell.cls ≠ "java/lang/invoke/VarHandle" ∧ (parseMethodDescriptor yX0_leastCell.desc).map (fun d => d.parameters.length) = some 1 := by decide +kernel
theorem hd_X6_place : yX6_place.cls ≠ "java/lang/invoke/MethodHandle" ∧ yX6_place.cls ≠ "java/lang/invoke/VarHandle" ∧ (parseMethodDescriptor yX6_place.desc).map (fun d => d.parameters.length) = some 1 := by decide +kernel
theorem hd_X6_needWay : yX6_needWay.cls ≠ "java/lang/invoke/MethodHandle" ∧ yX6_needWay.cls ≠ "java/lang/invoke/VarHandle" ∧ (parseMethodDescriptor yX6_needWay.desc).map (fun d => d.parameters.length) = some 1 := by decide +kernel
theorem hd_X0_moved : yX0_moved.cls ≠ "java/lang/invoke/MethodHandle" ∧ yX0_moved.cls ≠ "java/lang/invoke/VarHandle" ∧ (parseMethodDescriptor yX0_moved.desc).map (fun d => d.parameters.length) = some 3 := by decide +kernel
theorem hd_X0_slideBlock : yX0_slideBlock.cls ≠ "java/lang/invoke/MethodHandle" ∧ yX0_slideBlock.cls ≠ "java/lang/invoke/VarHandle" ∧ (parseMethodDescriptor yX0_slideBlock.desc).map (fun d => d.parameters.length) = some 3 := by decide +kernel
theorem hd_X6_slide : yX6_slide.cls ≠ "java/lang/invoke/MethodHandle" ∧ yX6_slide.cls ≠ "java/lang/invoke/VarHandle" ∧ (parseMethodDescriptor yX6_slide.desc).map (fun d => d.parameters.length) = some 3 := by decide +kernel
theorem hd_X2_add : yX2_add.cls ≠ "java/lang/invoke/MethodHandle" ∧ yX2_add.cls ≠ "java/lang/invoke/VarHandle" ∧ (parseMethodDescriptor yX2_add.desc).map (fun d => d.parameters.length) = some 3 := by decide +kernel
theorem hd_X6_goal : yX6_goal.cls ≠ "java/lang/invoke/MethodHandle" ∧ yX6_goal.cls ≠ "java/lang/invoke/VarHandle" ∧ (parseMethodDescriptor yX6_goal.desc).map (fun d => d.parameters.length) = some 3 := by decide +kernel
theorem hd_X6_kindGoal : yX6_kindGoal.cls ≠ "java/lang/invoke/MethodHandle" ∧ yX6_kindGoal.cls ≠ "java/lang/invoke/VarHandle" ∧ (parseMethodDescriptor yX6_kindGoal.desc).map (fun d => d.parameters.length) = some 3 := by decide +kernel
theorem hd_X2_removeAll : yX2_removeAll.cls ≠ "java/lang/invoke/MethodHandle" ∧ yX2_removeAll.cls ≠ "java/lang/invoke/VarHandle" ∧ (parseMethodDescriptor yX2_removeAll.desc).map (fun d => d.parameters.length) = some 0 := by decide +kernel
theorem hd_X6_noGoals : yX6_noGoals.cls ≠ "java/lang/invoke/MethodHandle" ∧ yX6_noGoals.cls ≠ "java/lang/invoke/VarHandle" ∧ (parseMethodDescriptor yX6_noGoals.desc).map (fun d => d.parameters.length) = some 0 := by decide +kernel
theorem hd_X2_kindIsAt : yX2_kindIsAt.cls ≠ "java/lang/invoke/MethodHandle" ∧ yX2_kindIsAt.cls ≠ "java/lang/invoke/VarHandle" ∧ (parseMethodDescriptor yX2_kindIsAt.desc).map (fun d => d.parameters.length) = some 4 := by decide +kernel
theorem hd_X2_firstOpen : yX2_firstOpen.cls ≠ "java/lang/invoke/MethodHandle" ∧ yX2_firstOpen.cls ≠ "java/lang/invoke/VarHandle" ∧ (parseMethodDescriptor yX2_firstOpen.desc).map (fun d => d.parameters.length) = some 2 := by decide +kernel
theorem hd_X1_presentOpenGoal : yX1_presentOpenGoal.cls ≠ "java/lang/invoke/MethodHandle" ∧ yX1_presentOpenGoal.cls ≠ "java/lang/invoke/VarHandle" ∧ (parseMethodDescriptor yX1_presentOpenGoal.desc).map (fun d => d.parameters.length) = some 0 := by decide +kernel
theorem hd_X6_open : yX6_open.cls ≠ "java/lang/invoke/MethodHandle" ∧ yX6_open.cls ≠ "java/lang/invoke/VarHandle" ∧ (parseMethodDescriptor yX6_open.desc).map (fun d => d.parameters.length) = some 0 := by decide +kernel
theorem hd_X4_bucketOf : yX4_bucketOf.cls ≠ "java/lang/invoke/MethodHandle" ∧ yX4_bucketOf.cls ≠ "java/lang/invoke/VarHandle" ∧ (parseMethodDescriptor yX4_bucketOf.desc).map (fun d => d.parameters.length) = some 1 := by decide +kernel
theorem hd_X4_clear : yX4_clear.cls ≠ "java/lang/invoke/MethodHandle" ∧ yX4_clear.cls ≠ "java/lang/invoke/VarHandle" ∧ (parseMethodDescriptor yX4_clear.desc).map (fun d => d.parameters.length) = some 0 := by decide +kernel
theorem hd_X0_cornered : yX0_cornered.cls ≠ "java/lang/invoke/MethodHandle" ∧ yX0_cornered.cls ≠ "java/lang/invoke/VarHandle" ∧ (parseMethodDescriptor yX0_cornered.desc).map (fun d => d.parameters.length) = some 1 := by decide +kernel
theorem hd_X0_areAlike : yX0_areAlike.cls ≠ "java/lang/invoke/MethodHandle" ∧ yX0_areAlike.cls ≠ "java/lang/invoke/VarHandle" ∧ (parseMethodDescriptor yX0_areAlike.desc).map (fun d => d.parameters.length) = some 2 := by decide +kernel
theorem hd_X1_findAlike : yX1_findAlike.cls ≠ "java/lang/invoke/MethodHandle" ∧ yX1_findAlike.cls ≠ "java/lang/invoke/VarHandle" ∧ (parseMethodDescriptor yX1_findAlike.desc).map (fun d => d.parameters.length) = some 0 := by decide +kernel
theorem hd_X1_keyOfPlaces : yX1_keyOfPlaces.cls ≠ "java/lang/invoke/MethodHandle" ∧ yX1_keyOfPlaces.cls ≠ "java/lang/invoke/VarHandle" ∧ (parseMethodDescriptor yX1_keyOfPlaces.desc).map (fun d => d.parameters.length) = some 0 := by decide +kernel
theorem hd_X4_holds : yX4_holds.cls ≠ "java/lang/invoke/MethodHandle" ∧ yX4_holds.cls ≠ "java/lang/invoke/VarHandle" ∧ (parseMethodDescriptor yX4_holds.desc).map (fun d => d.parameters.length) = some 1 := by decide +kernel
theorem hd_X1_layoutOfPlaces : yX1_layoutOfPlaces.cls ≠ "java/lang/invoke/MethodHandle" ∧ yX1_layoutOfPlaces.cls ≠ "java/lang/invoke/VarHandle" ∧ (parseMethodDescriptor yX1_layoutOfPlaces.desc).map (fun d => d.parameters.length) = some 0 := by decide +kernel
theorem hd_X4_take : yX4_take.cls ≠ "java/lang/invoke/MethodHandle" ∧ yX4_take.cls ≠ "java/lang/invoke/VarHandle" ∧ (parseMethodDescriptor yX4_take.desc).map (fun d => d.parameters.length) = some 4 := by decide +kernel
theorem hd_X1_offer : yX1_offer.cls ≠ "java/lang/invoke/MethodHandle" ∧ yX1_offer.cls ≠ "java/lang/invoke/VarHandle" ∧ (parseMethodDescriptor yX1_offer.desc).map (fun d => d.parameters.length) = some 2 := by decide +kernel
theorem hd_X1_offerPresent : yX1_offerPresent.cls ≠ "java/lang/invoke/MethodHandle" ∧ yX1_offerPresent.cls ≠ "java/lang/invoke/VarHandle" ∧ (parseMethodDescriptor yX1_offerPresent.desc).map (fun d => d.parameters.length) = some 0 := by decide +kernel
theorem hd_X1_load : yX1_load.cls ≠ "java/lang/invoke/MethodHandle" ∧ yX1_load.cls ≠ "java/lang/invoke/VarHandle" ∧ (parseMethodDescriptor yX1_load.desc).map (fun d => d.parameters.length) = some 1 := by decide +kernel
theorem hd_X1_tryWay : yX1_tryWay.cls ≠ "java/lang/invoke/MethodHandle" ∧ yX1_tryWay.cls ≠ "java/lang/invoke/VarHandle" ∧ (parseMethodDescriptor yX1_tryWay.desc).map (fun d => d.parameters.length) = some 4 := by decide +kernel
theorem hd_X1_expand : yX1_expand.cls ≠ "java/lang/invoke/MethodHandle" ∧ yX1_expand.cls ≠ "java/lang/invoke/VarHandle" ∧ (parseMethodDescriptor yX1_expand.desc).map (fun d => d.parameters.length) = some 1 := by decide +kernel
theorem hd_X1_explore : yX1_explore.cls ≠ "java/lang/invoke/MethodHandle" ∧ yX1_explore.cls ≠ "java/lang/invoke/VarHandle" ∧ (parseMethodDescriptor yX1_explore.desc).map (fun d => d.parameters.length) = some 3 := by decide +kernel
theorem hd_X3_depthOf : yX3_depthOf.cls ≠ "java/lang/invoke/MethodHandle" ∧ yX3_depthOf.cls ≠ "java/lang/invoke/VarHandle" ∧ (parseMethodDescriptor yX3_depthOf.desc).map (fun d => d.parameters.length) = some 2 := by decide +kernel
theorem hd_X3_keep : yX3_keep.cls ≠ "java/lang/invoke/MethodHandle" ∧ yX3_keep.cls ≠ "java/lang/invoke/VarHandle" ∧ (parseMethodDescriptor yX3_keep.desc).map (fun d => d.parameters.length) = some 2 := by decide +kernel
theorem hd_X6_search : yX6_search.cls ≠ "java/lang/invoke/MethodHandle" ∧ yX6_search.cls ≠ "java/lang/invoke/VarHandle" ∧ (parseMethodDescriptor yX6_search.desc).map (fun d => d.parameters.length) = some 2 := by decide +kernel
theorem hd_X6_step : yX6_step.cls ≠ "java/lang/invoke/MethodHandle" ∧ yX6_step.cls ≠ "java/lang/invoke/VarHandle" ∧ (parseMethodDescriptor yX6_step.desc).map (fun d => d.parameters.length) = some 1 := by decide +kernel
theorem hd_X6_states : yX6_states.cls ≠ "java/lang/invoke/MethodHandle" ∧ yX6_states.cls ≠ "java/lang/invoke/VarHandle" ∧ (parseMethodDescriptor yX6_states.desc).map (fun d => d.parameters.length) = some 0 := by decide +kernel
theorem hd_X6_reach : yX6_reach.cls ≠ "java/lang/invoke/MethodHandle" ∧ yX6_reach.cls ≠ "java/lang/invoke/VarHandle" ∧ (parseMethodDescriptor yX6_reach.desc).map (fun d => d.parameters.length) = some 0 := by decide +kernel
theorem hd_X0_cellByte : yX0_cellByte.cls ≠ "java/lang/invoke/MethodHandle" ∧ yX0_cellByte.cls ≠ "java/lang/invoke/VarHandle" ∧ (parseMethodDescriptor yX0_cellByte.desc).map (fun d => d.parameters.length) = some 1 := by decide +kernel
theorem hd_X0_pictureByte : yX0_pictureByte.cls ≠ "java/lang/invoke/MethodHandle" ∧ yX0_pictureByte.cls ≠ "java/lang/invoke/VarHandle" ∧ (parseMethodDescriptor yX0_pictureByte.desc).map (fun d => d.parameters.length) = some 1 := by decide +kernel
theorem hd_X6_picture : yX6_picture.cls ≠ "java/lang/invoke/MethodHandle" ∧ yX6_picture.cls ≠ "java/lang/invoke/VarHandle" ∧ (parseMethodDescriptor yX6_picture.desc).map (fun d => d.parameters.length) = some 1 := by decide +kernel
theorem hd_X5_addNode : yX5_addNode.cls ≠ "java/lang/invoke/MethodHandle" ∧ yX5_addNode.cls ≠ "java/lang/invoke/VarHandle" ∧ (parseMethodDescriptor yX5_addNode.desc).map (fun d => d.parameters.length) = some 0 := by decide +kernel
theorem hd_X6_node : yX6_node.cls ≠ "java/lang/invoke/MethodHandle" ∧ yX6_node.cls ≠ "java/lang/invoke/VarHandle" ∧ (parseMethodDescriptor yX6_node.desc).map (fun d => d.parameters.length) = some 0 := by decide +kernel
theorem hd_X6_needNode : yX6_needNode.cls ≠ "java/lang/invoke/MethodHandle" ∧ yX6_needNode.cls ≠ "java/lang/invoke/VarHandle" ∧ (parseMethodDescriptor yX6_needNode.desc).map (fun d => d.parameters.length) = some 1 := by decide +kernel
theorem hd_X5_areJoined : yX5_areJoined.cls ≠ "java/lang/invoke/MethodHandle" ∧ yX5_areJoined.cls ≠ "java/lang/invoke/VarHandle" ∧ (parseMethodDescriptor yX5_areJoined.desc).map (fun d => d.parameters.length) = some 2 := by decide +kernel
theorem hd_X5_addLine : yX5_addLine.cls ≠ "java/lang/invoke/MethodHandle" ∧ yX5_addLine.cls ≠ "java/lang/invoke/VarHandle" ∧ (parseMethodDescriptor yX5_addLine.desc).map (fun d => d.parameters.length) = some 2 := by decide +kernel
theorem hd_X6_join : yX6_join.cls ≠ "java/lang/invoke/MethodHandle" ∧ yX6_join.cls ≠ "java/lang/invoke/VarHandle" ∧ (parseMethodDescriptor yX6_join.desc).map (fun d => d.parameters.length) = some 2 := by decide +kernel
theorem hd_X6_tile : yX6_tile.cls ≠ "java/lang/invoke/MethodHandle" ∧ yX6_tile.cls ≠ "java/lang/invoke/VarHandle" ∧ (parseMethodDescriptor yX6_tile.desc).map (fun d => d.parameters.length) = some 1 := by decide +kernel
theorem hd_X5_gapNode : yX5_gapNode.cls ≠ "java/lang/invoke/MethodHandle" ∧ yX5_gapNode.cls ≠ "java/lang/invoke/VarHandle" ∧ (parseMethodDescriptor yX5_gapNode.desc).map (fun d => d.parameters.length) = some 0 := by decide +kernel
theorem hd_X5_exchange : yX5_exchange.cls ≠ "java/lang/invoke/MethodHandle" ∧ yX5_exchange.cls ≠ "java/lang/invoke/VarHandle" ∧ (parseMethodDescriptor yX5_exchange.desc).map (fun d => d.parameters.length) = some 2 := by decide +kernel
theorem hd_X5_moveToGap : yX5_moveToGap.cls ≠ "java/lang/invoke/MethodHandle" ∧ yX5_moveToGap.cls ≠ "java/lang/invoke/VarHandle" ∧ (parseMethodDescriptor yX5_moveToGap.desc).map (fun d => d.parameters.length) = some 1 := by decide +kernel
theorem hd_X6_shift : yX6_shift.cls ≠ "java/lang/invoke/MethodHandle" ∧ yX6_shift.cls ≠ "java/lang/invoke/VarHandle" ∧ (parseMethodDescriptor yX6_shift.desc).map (fun d => d.parameters.length) = some 1 := by decide +kernel
theorem hd_X6_swap : yX6_swap.cls ≠ "java/lang/invoke/MethodHandle" ∧ yX6_swap.cls ≠ "java/lang/invoke/VarHandle" ∧ (parseMethodDescriptor yX6_swap.desc).map (fun d => d.parameters.length) = some 2 := by decide +kernel
theorem hd_X5_spreadDistances : yX5_spreadDistances.cls ≠ "java/lang/invoke/MethodHandle" ∧ yX5_spreadDistances.cls ≠ "java/lang/invoke/VarHandle" ∧ (parseMethodDescriptor yX5_spreadDistances.desc).map (fun d => d.parameters.length) = some 0 := by decide +kernel
theorem hd_X5_measureDistances : yX5_measureDistances.cls ≠ "java/lang/invoke/MethodHandle" ∧ yX5_measureDistances.cls ≠ "java/lang/invoke/VarHandle" ∧ (parseMethodDescriptor yX5_measureDistances.desc).map (fun d => d.parameters.length) = some 0 := by decide +kernel
theorem hd_X5_hasTwoColours : yX5_hasTwoColours.cls ≠ "java/lang/invoke/MethodHandle" ∧ yX5_hasTwoColours.cls ≠ "java/lang/invoke/VarHandle" ∧ (parseMethodDescriptor yX5_hasTwoColours.desc).map (fun d => d.parameters.length) = some 0 := by decide +kernel
theorem hd_X6_even : yX6_even.cls ≠ "java/lang/invoke/MethodHandle" ∧ yX6_even.cls ≠ "java/lang/invoke/VarHandle" ∧ (parseMethodDescriptor yX6_even.desc).map (fun d => d.parameters.length) = some 0 := by decide +kernel
theorem hd_X5_countInversions : yX5_countInversions.cls ≠ "java/lang/invoke/MethodHandle" ∧ yX5_countInversions.cls ≠ "java/lang/invoke/VarHandle" ∧ (parseMethodDescriptor yX5_countInversions.desc).map (fun d => d.parameters.length) = some 0 := by decide +kernel
theorem hd_X5_invariant : yX5_invariant.cls ≠ "java/lang/invoke/MethodHandle" ∧ yX5_invariant.cls ≠ "java/lang/invoke/VarHandle" ∧ (parseMethodDescriptor yX5_invariant.desc).map (fun d => d.parameters.length) = some 0 := by decide +kernel
theorem hd_X6_parity : yX6_parity.cls ≠ "java/lang/invoke/MethodHandle" ∧ yX6_parity.cls ≠ "java/lang/invoke/VarHandle" ∧ (parseMethodDescriptor yX6_parity.desc).map (fun d => d.parameters.length) = some 0 := by decide +kernel
theorem hd_X5_markOf : yX5_markOf.cls ≠ "java/lang/invoke/MethodHandle" ∧ yX5_markOf.cls ≠ "java/lang/invoke/VarHandle" ∧ (parseMethodDescriptor yX5_markOf.desc).map (fun d => d.parameters.length) = some 1 := by decide +kernel
theorem hd_X5_isMarked : yX5_isMarked.cls ≠ "java/lang/invoke/MethodHandle" ∧ yX5_isMarked.cls ≠ "java/lang/invoke/VarHandle" ∧ (parseMethodDescriptor yX5_isMarked.desc).map (fun d => d.parameters.length) = some 1 := by decide +kernel
theorem hd_X5_mark : yX5_mark.cls ≠ "java/lang/invoke/MethodHandle" ∧ yX5_mark.cls ≠ "java/lang/invoke/VarHandle" ∧ (parseMethodDescriptor yX5_mark.desc).map (fun d => d.parameters.length) = some 1 := by decide +kernel
theorem hd_X5_markShifts : yX5_markShifts.cls ≠ "java/lang/invoke/MethodHandle" ∧ yX5_markShifts.cls ≠ "java/lang/invoke/VarHandle" ∧ (parseMethodDescriptor yX5_markShifts.desc).map (fun d => d.parameters.length) = some 1 := by decide +kernel
theorem hd_X5_findArrangements : yX5_findArrangements.cls ≠ "java/lang/invoke/MethodHandle" ∧ yX5_findArrangements.cls ≠ "java/lang/invoke/VarHandle" ∧ (parseMethodDescriptor yX5_findArrangements.desc).map (fun d => d.parameters.length) = some 0 := by decide +kernel
theorem hd_X5_countArrangements : yX5_countArrangements.cls ≠ "java/lang/invoke/MethodHandle" ∧ yX5_countArrangements.cls ≠ "java/lang/invoke/VarHandle" ∧ (parseMethodDescriptor yX5_countArrangements.desc).map (fun d => d.parameters.length) = some 0 := by decide +kernel
theorem hd_X6_ways : yX6_ways.cls ≠ "java/lang/invoke/MethodHandle" ∧ yX6_ways.cls ≠ "java/lang/invoke/VarHandle" ∧ (parseMethodDescriptor yX6_ways.desc).map (fun d => d.parameters.length) = some 0 := by decide +kernel
theorem hd_X5_comesHome : yX5_comesHome.cls ≠ "java/lang/invoke/MethodHandle" ∧ yX5_comesHome.cls ≠ "java/lang/invoke/VarHandle" ∧ (parseMethodDescriptor yX5_comesHome.desc).map (fun d => d.parameters.length) = some 0 := by decide +kernel
theorem hd_X6_home : yX6_home.cls ≠ "java/lang/invoke/MethodHandle" ∧ yX6_home.cls ≠ "java/lang/invoke/VarHandle" ∧ (parseMethodDescriptor yX6_home.desc).map (fun d => d.parameters.length) = some 0 := by decide +kernel
theorem hd_X7_thrown : yX7_thrown.cls ≠ "java/lang/invoke/MethodHandle" ∧ yX7_thrown.cls ≠ "java/lang/invoke/VarHandle" ∧ (parseMethodDescriptor yX7_thrown.desc).map (fun d => d.parameters.length) = some 0 := by decide +kernel
theorem hd_X7_throwsIf : yX7_throwsIf.cls ≠ "java/lang/invoke/MethodHandle" ∧ yX7_throwsIf.cls ≠ "java/lang/invoke/VarHandle" ∧ (parseMethodDescriptor yX7_throwsIf.desc).map (fun d => d.parameters.length) = some 2 := by decide +kernel
theorem hd_X7_isCell : yX7_isCell.cls ≠ "java/lang/invoke/MethodHandle" ∧ yX7_isCell.cls ≠ "java/lang/invoke/VarHandle" ∧ (parseMethodDescriptor yX7_isCell.desc).map (fun d => d.parameters.length) = some 2 := by decide +kernel
theorem hd_X7_isBlock : yX7_isBlock.cls ≠ "java/lang/invoke/MethodHandle" ∧ yX7_isBlock.cls ≠ "java/lang/invoke/VarHandle" ∧ (parseMethodDescriptor yX7_isBlock.desc).map (fun d => d.parameters.length) = some 1 := by decide +kernel
theorem hd_X7_blocked : yX7_blocked.cls ≠ "java/lang/invoke/MethodHandle" ∧ yX7_blocked.cls ≠ "java/lang/invoke/VarHandle" ∧ (parseMethodDescriptor yX7_blocked.desc).map (fun d => d.parameters.length) = some 0 := by decide +kernel
theorem hd_X7_wall : yX7_wall.cls ≠ "java/lang/invoke/MethodHandle" ∧ yX7_wall.cls ≠ "java/lang/invoke/VarHandle" ∧ (parseMethodDescriptor yX7_wall.desc).map (fun d => d.parameters.length) = some 3 := by decide +kernel
theorem hd_X7_block : yX7_block.cls ≠ "java/lang/invoke/MethodHandle" ∧ yX7_block.cls ≠ "java/lang/invoke/VarHandle" ∧ (parseMethodDescriptor yX7_block.desc).map (fun d => d.parameters.length) = some 1 := by decide +kernel
theorem hd_X7_cell : yX7_cell.cls ≠ "java/lang/invoke/MethodHandle" ∧ yX7_cell.cls ≠ "java/lang/invoke/VarHandle" ∧ (parseMethodDescriptor yX7_cell.desc).map (fun d => d.parameters.length) = some 3 := by decide +kernel
theorem hd_X7_placeOf : yX7_placeOf.cls ≠ "java/lang/invoke/MethodHandle" ∧ yX7_placeOf.cls ≠ "java/lang/invoke/VarHandle" ∧ (parseMethodDescriptor yX7_placeOf.desc).map (fun d => d.parameters.length) = some 1 := by decide +kernel
theorem hd_X7_place : yX7_place.cls ≠ "java/lang/invoke/MethodHandle" ∧ yX7_place.cls ≠ "java/lang/invoke/VarHandle" ∧ (parseMethodDescriptor yX7_place.desc).map (fun d => d.parameters.length) = some 1 := by decide +kernel
theorem hd_X7_moved : yX7_moved.cls ≠ "java/lang/invoke/MethodHandle" ∧ yX7_moved.cls ≠ "java/lang/invoke/VarHandle" ∧ (parseMethodDescriptor yX7_moved.desc).map (fun d => d.parameters.length) = some 2 := by decide +kernel
theorem hd_X7_stepped : yX7_stepped.cls ≠ "java/lang/invoke/MethodHandle" ∧ yX7_stepped.cls ≠ "java/lang/invoke/VarHandle" ∧ (parseMethodDescriptor yX7_stepped.desc).map (fun d => d.parameters.length) = some 3 := by decide +kernel
theorem hd_X7_slide : yX7_slide.cls ≠ "java/lang/invoke/MethodHandle" ∧ yX7_slide.cls ≠ "java/lang/invoke/VarHandle" ∧ (parseMethodDescriptor yX7_slide.desc).map (fun d => d.parameters.length) = some 3 := by decide +kernel
theorem hd_X7_addGoal : yX7_addGoal.cls ≠ "java/lang/invoke/MethodHandle" ∧ yX7_addGoal.cls ≠ "java/lang/invoke/VarHandle" ∧ (parseMethodDescriptor yX7_addGoal.desc).map (fun d => d.parameters.length) = some 3 := by decide +kernel
theorem hd_X7_goal : yX7_goal.cls ≠ "java/lang/invoke/MethodHandle" ∧ yX7_goal.cls ≠ "java/lang/invoke/VarHandle" ∧ (parseMethodDescriptor yX7_goal.desc).map (fun d => d.parameters.length) = some 3 := by decide +kernel
theorem hd_X7_kindGoal : yX7_kindGoal.cls ≠ "java/lang/invoke/MethodHandle" ∧ yX7_kindGoal.cls ≠ "java/lang/invoke/VarHandle" ∧ (parseMethodDescriptor yX7_kindGoal.desc).map (fun d => d.parameters.length) = some 3 := by decide +kernel
theorem hd_X7_noGoals : yX7_noGoals.cls ≠ "java/lang/invoke/MethodHandle" ∧ yX7_noGoals.cls ≠ "java/lang/invoke/VarHandle" ∧ (parseMethodDescriptor yX7_noGoals.desc).map (fun d => d.parameters.length) = some 0 := by decide +kernel
theorem hd_X7_isMet : yX7_isMet.cls ≠ "java/lang/invoke/MethodHandle" ∧ yX7_isMet.cls ≠ "java/lang/invoke/VarHandle" ∧ (parseMethodDescriptor yX7_isMet.desc).map (fun d => d.parameters.length) = some 2 := by decide +kernel
theorem hd_X7_openIn : yX7_openIn.cls ≠ "java/lang/invoke/MethodHandle" ∧ yX7_openIn.cls ≠ "java/lang/invoke/VarHandle" ∧ (parseMethodDescriptor yX7_openIn.desc).map (fun d => d.parameters.length) = some 1 := by decide +kernel
theorem hd_X7_open : yX7_open.cls ≠ "java/lang/invoke/MethodHandle" ∧ yX7_open.cls ≠ "java/lang/invoke/VarHandle" ∧ (parseMethodDescriptor yX7_open.desc).map (fun d => d.parameters.length) = some 0 := by decide +kernel
theorem hd_X7_isIn : yX7_isIn.cls ≠ "java/lang/invoke/MethodHandle" ∧ yX7_isIn.cls ≠ "java/lang/invoke/VarHandle" ∧ (parseMethodDescriptor yX7_isIn.desc).map (fun d => d.parameters.length) = some 4 := by decide +kernel
theorem hd_X7_isShape : yX7_isShape.cls ≠ "java/lang/invoke/MethodHandle" ∧ yX7_isShape.cls ≠ "java/lang/invoke/VarHandle" ∧ (parseMethodDescriptor yX7_isShape.desc).map (fun d => d.parameters.length) = some 2 := by decide +kernel
theorem hd_X7_liken : yX7_liken.cls ≠ "java/lang/invoke/MethodHandle" ∧ yX7_liken.cls ≠ "java/lang/invoke/VarHandle" ∧ (parseMethodDescriptor yX7_liken.desc).map (fun d => d.parameters.length) = some 0 := by decide +kernel
theorem hd_X7_order : yX7_order.cls ≠ "java/lang/invoke/MethodHandle" ∧ yX7_order.cls ≠ "java/lang/invoke/VarHandle" ∧ (parseMethodDescriptor yX7_order.desc).map (fun d => d.parameters.length) = some 0 := by decide +kernel
theorem hd_X7_isKey : yX7_isKey.cls ≠ "java/lang/invoke/MethodHandle" ∧ yX7_isKey.cls ≠ "java/lang/invoke/VarHandle" ∧ (parseMethodDescriptor yX7_isKey.desc).map (fun d => d.parameters.length) = some 1 := by decide +kernel
theorem hd_X7_seatOf : yX7_seatOf.cls ≠ "java/lang/invoke/MethodHandle" ∧ yX7_seatOf.cls ≠ "java/lang/invoke/VarHandle" ∧ (parseMethodDescriptor yX7_seatOf.desc).map (fun d => d.parameters.length) = some 0 := by decide +kernel
theorem hd_X7_isNew : yX7_isNew.cls ≠ "java/lang/invoke/MethodHandle" ∧ yX7_isNew.cls ≠ "java/lang/invoke/VarHandle" ∧ (parseMethodDescriptor yX7_isNew.desc).map (fun d => d.parameters.length) = some 2 := by decide +kernel
theorem hd_X7_load : yX7_load.cls ≠ "java/lang/invoke/MethodHandle" ∧ yX7_load.cls ≠ "java/lang/invoke/VarHandle" ∧ (parseMethodDescriptor yX7_load.desc).map (fun d => d.parameters.length) = some 1 := by decide +kernel
theorem hd_X7_spread : yX7_spread.cls ≠ "java/lang/invoke/MethodHandle" ∧ yX7_spread.cls ≠ "java/lang/invoke/VarHandle" ∧ (parseMethodDescriptor yX7_spread.desc).map (fun d => d.parameters.length) = some 3 := by decide +kernel
theorem hd_X7_search : yX7_search.cls ≠ "java/lang/invoke/MethodHandle" ∧ yX7_search.cls ≠ "java/lang/invoke/VarHandle" ∧ (parseMethodDescriptor yX7_search.desc).map (fun d => d.parameters.length) = some 2 := by decide +kernel
theorem hd_X7_step : yX7_step.cls ≠ "java/lang/invoke/MethodHandle" ∧ yX7_step.cls ≠ "java/lang/invoke/VarHandle" ∧ (parseMethodDescriptor yX7_step.desc).map (fun d => d.parameters.length) = some 1 := by decide +kernel
theorem hd_X7_states : yX7_states.cls ≠ "java/lang/invoke/MethodHandle" ∧ yX7_states.cls ≠ "java/lang/invoke/VarHandle" ∧ (parseMethodDescriptor yX7_states.desc).map (fun d => d.parameters.length) = some 0 := by decide +kernel
theorem hd_X7_reach : yX7_reach.cls ≠ "java/lang/invoke/MethodHandle" ∧ yX7_reach.cls ≠ "java/lang/invoke/VarHandle" ∧ (parseMethodDescriptor yX7_reach.desc).map (fun d => d.parameters.length) = some 0 := by decide +kernel
theorem hd_X7_picture : yX7_picture.cls ≠ "java/lang/invoke/MethodHandle" ∧ yX7_picture.cls ≠ "java/lang/invoke/VarHandle" ∧ (parseMethodDescriptor yX7_picture.desc).map (fun d => d.parameters.length) = some 1 := by decide +kernel
theorem hd_X7_isNode : yX7_isNode.cls ≠ "java/lang/invoke/MethodHandle" ∧ yX7_isNode.cls ≠ "java/lang/invoke/VarHandle" ∧ (parseMethodDescriptor yX7_isNode.desc).map (fun d => d.parameters.length) = some 1 := by decide +kernel
theorem hd_X7_node : yX7_node.cls ≠ "java/lang/invoke/MethodHandle" ∧ yX7_node.cls ≠ "java/lang/invoke/VarHandle" ∧ (parseMethodDescriptor yX7_node.desc).map (fun d => d.parameters.length) = some 0 := by decide +kernel
theorem hd_X7_isJoined : yX7_isJoined.cls ≠ "java/lang/invoke/MethodHandle" ∧ yX7_isJoined.cls ≠ "java/lang/invoke/VarHandle" ∧ (parseMethodDescriptor yX7_isJoined.desc).map (fun d => d.parameters.length) = some 2 := by decide +kernel
theorem hd_X7_join : yX7_join.cls ≠ "java/lang/invoke/MethodHandle" ∧ yX7_join.cls ≠ "java/lang/invoke/VarHandle" ∧ (parseMethodDescriptor yX7_join.desc).map (fun d => d.parameters.length) = some 2 := by decide +kernel
theorem hd_X7_tile : yX7_tile.cls ≠ "java/lang/invoke/MethodHandle" ∧ yX7_tile.cls ≠ "java/lang/invoke/VarHandle" ∧ (parseMethodDescriptor yX7_tile.desc).map (fun d => d.parameters.length) = some 1 := by decide +kernel
theorem hd_X7_gap : yX7_gap.cls ≠ "java/lang/invoke/MethodHandle" ∧ yX7_gap.cls ≠ "java/lang/invoke/VarHandle" ∧ (parseMethodDescriptor yX7_gap.desc).map (fun d => d.parameters.length) = some 0 := by decide +kernel
theorem hd_X7_exchange : yX7_exchange.cls ≠ "java/lang/invoke/MethodHandle" ∧ yX7_exchange.cls ≠ "java/lang/invoke/VarHandle" ∧ (parseMethodDescriptor yX7_exchange.desc).map (fun d => d.parameters.length) = some 2 := by decide +kernel
theorem hd_X7_shift : yX7_shift.cls ≠ "java/lang/invoke/MethodHandle" ∧ yX7_shift.cls ≠ "java/lang/invoke/VarHandle" ∧ (parseMethodDescriptor yX7_shift.desc).map (fun d => d.parameters.length) = some 1 := by decide +kernel
theorem hd_X7_swap : yX7_swap.cls ≠ "java/lang/invoke/MethodHandle" ∧ yX7_swap.cls ≠ "java/lang/invoke/VarHandle" ∧ (parseMethodDescriptor yX7_swap.desc).map (fun d => d.parameters.length) = some 2 := by decide +kernel
theorem hd_X7_measure : yX7_measure.cls ≠ "java/lang/invoke/MethodHandle" ∧ yX7_measure.cls ≠ "java/lang/invoke/VarHandle" ∧ (parseMethodDescriptor yX7_measure.desc).map (fun d => d.parameters.length) = some 1 := by decide +kernel
theorem hd_X7_isEven : yX7_isEven.cls ≠ "java/lang/invoke/MethodHandle" ∧ yX7_isEven.cls ≠ "java/lang/invoke/VarHandle" ∧ (parseMethodDescriptor yX7_isEven.desc).map (fun d => d.parameters.length) = some 0 := by decide +kernel
theorem hd_X7_even : yX7_even.cls ≠ "java/lang/invoke/MethodHandle" ∧ yX7_even.cls ≠ "java/lang/invoke/VarHandle" ∧ (parseMethodDescriptor yX7_even.desc).map (fun d => d.parameters.length) = some 0 := by decide +kernel
theorem hd_X7_parity : yX7_parity.cls ≠ "java/lang/invoke/MethodHandle" ∧ yX7_parity.cls ≠ "java/lang/invoke/VarHandle" ∧ (parseMethodDescriptor yX7_parity.desc).map (fun d => d.parameters.length) = some 0 := by decide +kernel
theorem hd_X7_rank : yX7_rank.cls ≠ "java/lang/invoke/MethodHandle" ∧ yX7_rank.cls ≠ "java/lang/invoke/VarHandle" ∧ (parseMethodDescriptor yX7_rank.desc).map (fun d => d.parameters.length) = some 0 := by decide +kernel
theorem hd_X7_unrank : yX7_unrank.cls ≠ "java/lang/invoke/MethodHandle" ∧ yX7_unrank.cls ≠ "java/lang/invoke/VarHandle" ∧ (parseMethodDescriptor yX7_unrank.desc).map (fun d => d.parameters.length) = some 1 := by decide +kernel
theorem hd_X7_go : yX7_go.cls ≠ "java/lang/invoke/MethodHandle" ∧ yX7_go.cls ≠ "java/lang/invoke/VarHandle" ∧ (parseMethodDescriptor yX7_go.desc).map (fun d => d.parameters.length) = some 0 := by decide +kernel
theorem hd_X7_ways : yX7_ways.cls ≠ "java/lang/invoke/MethodHandle" ∧ yX7_ways.cls ≠ "java/lang/invoke/VarHandle" ∧ (parseMethodDescriptor yX7_ways.desc).map (fun d => d.parameters.length) = some 0 := by decide +kernel
theorem hd_X7_home : yX7_home.cls ≠ "java/lang/invoke/MethodHandle" ∧ yX7_home.cls ≠ "java/lang/invoke/VarHandle" ∧ (parseMethodDescriptor yX7_home.desc).map (fun d => d.parameters.length) = some 0 := by decide +kernel
