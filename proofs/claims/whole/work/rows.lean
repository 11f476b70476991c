section
-- ===== PART A: goes FIRST, ahead of the names: the tables' words, and 'selects' of the private methods out of them =====
/-- a private method of a class that the tables say can be made, by its rows of tables_1 -/
def lw_okq (q : MethodName × Nat) : Prop := (q.1.cls ≠ "java/lang/invoke/MethodHandle" ∧ q.1.cls ≠ "java/lang/invoke/VarHandle") ∧ Cond.instantiable q.1.cls q.2 ∈ tables_1 ∧ Cond.privateMethod q.1 ∈ tables_1 ∧ Cond.instanceMethod q.1 ∈ tables_1
theorem lw_p0 : lw_okq (⟨"SlideBoards$Goals", "removeAll", "()I"⟩, 4) := ⟨⟨by decide +kernel, by decide +kernel⟩, List.mem_of_getElem? (i := 77) (by decide +kernel), List.mem_of_getElem? (i := 244) (by decide +kernel), List.mem_of_getElem? (i := 245) (by decide +kernel)⟩
theorem lw_p1 : lw_okq (⟨"SlideBoards$Finder", "presentOpenGoal", "()I"⟩, 11) := ⟨⟨by decide +kernel, by decide +kernel⟩, List.mem_of_getElem? (i := 97) (by decide +kernel), List.mem_of_getElem? (i := 252) (by decide +kernel), List.mem_of_getElem? (i := 253) (by decide +kernel)⟩
theorem lw_p2 : lw_okq (⟨"SlideBoards$Goals", "firstOpen", "(LSlideBoards$Board;[I)I"⟩, 4) := ⟨⟨by decide +kernel, by decide +kernel⟩, List.mem_of_getElem? (i := 77) (by decide +kernel), List.mem_of_getElem? (i := 265) (by decide +kernel), List.mem_of_getElem? (i := 266) (by decide +kernel)⟩
theorem lw_p3 : lw_okq (⟨"SlideBoards$Finder", "explore", "(IIZ)I"⟩, 11) := ⟨⟨by decide +kernel, by decide +kernel⟩, List.mem_of_getElem? (i := 97) (by decide +kernel), List.mem_of_getElem? (i := 276) (by decide +kernel), List.mem_of_getElem? (i := 277) (by decide +kernel)⟩
theorem lw_p4 : lw_okq (⟨"SlideBoards$StateStore", "clear", "()V"⟩, 7) := ⟨⟨by decide +kernel, by decide +kernel⟩, List.mem_of_getElem? (i := 103) (by decide +kernel), List.mem_of_getElem? (i := 280) (by decide +kernel), List.mem_of_getElem? (i := 281) (by decide +kernel)⟩
theorem lw_p5 : lw_okq (⟨"SlideBoards$Finder", "findAlike", "()V"⟩, 11) := ⟨⟨by decide +kernel, by decide +kernel⟩, List.mem_of_getElem? (i := 97) (by decide +kernel), List.mem_of_getElem? (i := 288) (by decide +kernel), List.mem_of_getElem? (i := 289) (by decide +kernel)⟩
theorem lw_p6 : lw_okq (⟨"SlideBoards$Board", "areAlike", "(II)Z"⟩, 10) := ⟨⟨by decide +kernel, by decide +kernel⟩, List.mem_of_getElem? (i := 26) (by decide +kernel), List.mem_of_getElem? (i := 292) (by decide +kernel), List.mem_of_getElem? (i := 293) (by decide +kernel)⟩
theorem lw_p7 : lw_okq (⟨"SlideBoards$Board", "cornered", "(I)I"⟩, 10) := ⟨⟨by decide +kernel, by decide +kernel⟩, List.mem_of_getElem? (i := 26) (by decide +kernel), List.mem_of_getElem? (i := 296) (by decide +kernel), List.mem_of_getElem? (i := 297) (by decide +kernel)⟩
theorem lw_p8 : lw_okq (⟨"SlideBoards$Finder", "offerPresent", "()I"⟩, 11) := ⟨⟨by decide +kernel, by decide +kernel⟩, List.mem_of_getElem? (i := 97) (by decide +kernel), List.mem_of_getElem? (i := 300) (by decide +kernel), List.mem_of_getElem? (i := 301) (by decide +kernel)⟩
theorem lw_p9 : lw_okq (⟨"SlideBoards$Finder", "offer", "(II)I"⟩, 11) := ⟨⟨by decide +kernel, by decide +kernel⟩, List.mem_of_getElem? (i := 97) (by decide +kernel), List.mem_of_getElem? (i := 304) (by decide +kernel), List.mem_of_getElem? (i := 305) (by decide +kernel)⟩
theorem lw_p10 : lw_okq (⟨"SlideBoards$Finder", "keyOfPlaces", "()J"⟩, 11) := ⟨⟨by decide +kernel, by decide +kernel⟩, List.mem_of_getElem? (i := 97) (by decide +kernel), List.mem_of_getElem? (i := 308) (by decide +kernel), List.mem_of_getElem? (i := 309) (by decide +kernel)⟩
theorem lw_p11 : lw_okq (⟨"SlideBoards$StateStore", "holds", "(J)Z"⟩, 7) := ⟨⟨by decide +kernel, by decide +kernel⟩, List.mem_of_getElem? (i := 103) (by decide +kernel), List.mem_of_getElem? (i := 312) (by decide +kernel), List.mem_of_getElem? (i := 313) (by decide +kernel)⟩
theorem lw_p12 : lw_okq (⟨"SlideBoards$Finder", "layoutOfPlaces", "()J"⟩, 11) := ⟨⟨by decide +kernel, by decide +kernel⟩, List.mem_of_getElem? (i := 97) (by decide +kernel), List.mem_of_getElem? (i := 316) (by decide +kernel), List.mem_of_getElem? (i := 317) (by decide +kernel)⟩
theorem lw_p13 : lw_okq (⟨"SlideBoards$StateStore", "take", "(JJII)V"⟩, 7) := ⟨⟨by decide +kernel, by decide +kernel⟩, List.mem_of_getElem? (i := 103) (by decide +kernel), List.mem_of_getElem? (i := 320) (by decide +kernel), List.mem_of_getElem? (i := 321) (by decide +kernel)⟩
theorem lw_p14 : lw_okq (⟨"SlideBoards$Finder", "expand", "(I)I"⟩, 11) := ⟨⟨by decide +kernel, by decide +kernel⟩, List.mem_of_getElem? (i := 97) (by decide +kernel), List.mem_of_getElem? (i := 324) (by decide +kernel), List.mem_of_getElem? (i := 325) (by decide +kernel)⟩
theorem lw_p15 : lw_okq (⟨"SlideBoards$Finder", "load", "(J)I"⟩, 11) := ⟨⟨by decide +kernel, by decide +kernel⟩, List.mem_of_getElem? (i := 97) (by decide +kernel), List.mem_of_getElem? (i := 328) (by decide +kernel), List.mem_of_getElem? (i := 329) (by decide +kernel)⟩
def lw_privs_1 : List (MethodName × Nat) := [(⟨"SlideBoards$Goals", "removeAll", "()I"⟩, 4), (⟨"SlideBoards$Finder", "presentOpenGoal", "()I"⟩, 11), (⟨"SlideBoards$Goals", "firstOpen", "(LSlideBoards$Board;[I)I"⟩, 4), (⟨"SlideBoards$Finder", "explore", "(IIZ)I"⟩, 11), (⟨"SlideBoards$StateStore", "clear", "()V"⟩, 7), (⟨"SlideBoards$Finder", "findAlike", "()V"⟩, 11), (⟨"SlideBoards$Board", "areAlike", "(II)Z"⟩, 10), (⟨"SlideBoards$Board", "cornered", "(I)I"⟩, 10), (⟨"SlideBoards$Finder", "offerPresent", "()I"⟩, 11), (⟨"SlideBoards$Finder", "offer", "(II)I"⟩, 11), (⟨"SlideBoards$Finder", "keyOfPlaces", "()J"⟩, 11), (⟨"SlideBoards$StateStore", "holds", "(J)Z"⟩, 7), (⟨"SlideBoards$Finder", "layoutOfPlaces", "()J"⟩, 11), (⟨"SlideBoards$StateStore", "take", "(JJII)V"⟩, 7), (⟨"SlideBoards$Finder", "expand", "(I)I"⟩, 11), (⟨"SlideBoards$Finder", "load", "(J)I"⟩, 11)]
theorem lw_r1 : ∀ q ∈ lw_privs_1, lw_okq q := List.forall_mem_cons.mpr ⟨lw_p0, List.forall_mem_cons.mpr ⟨lw_p1, List.forall_mem_cons.mpr ⟨lw_p2, List.forall_mem_cons.mpr ⟨lw_p3, List.forall_mem_cons.mpr ⟨lw_p4, List.forall_mem_cons.mpr ⟨lw_p5, List.forall_mem_cons.mpr ⟨lw_p6, List.forall_mem_cons.mpr ⟨lw_p7, List.forall_mem_cons.mpr ⟨lw_p8, List.forall_mem_cons.mpr ⟨lw_p9, List.forall_mem_cons.mpr ⟨lw_p10, List.forall_mem_cons.mpr ⟨lw_p11, List.forall_mem_cons.mpr ⟨lw_p12, List.forall_mem_cons.mpr ⟨lw_p13, List.forall_mem_cons.mpr ⟨lw_p14, List.forall_mem_cons.mpr ⟨lw_p15, fun _ h => absurd h List.not_mem_nil⟩⟩⟩⟩⟩⟩⟩⟩⟩⟩⟩⟩⟩⟩⟩⟩
theorem lw_p16 : lw_okq (⟨"SlideBoards$Finder", "tryWay", "(IIII)I"⟩, 11) := ⟨⟨by decide +kernel, by decide +kernel⟩, List.mem_of_getElem? (i := 97) (by decide +kernel), List.mem_of_getElem? (i := 333) (by decide +kernel), List.mem_of_getElem? (i := 334) (by decide +kernel)⟩
theorem lw_p17 : lw_okq (⟨"SlideBoards$Board", "moved", "(III)I"⟩, 10) := ⟨⟨by decide +kernel, by decide +kernel⟩, List.mem_of_getElem? (i := 26) (by decide +kernel), List.mem_of_getElem? (i := 337) (by decide +kernel), List.mem_of_getElem? (i := 338) (by decide +kernel)⟩
theorem lw_p18 : lw_okq (⟨"SlideBoards$Route", "keep", "(LSlideBoards$StateStore;Z)V"⟩, 3) := ⟨⟨by decide +kernel, by decide +kernel⟩, List.mem_of_getElem? (i := 173) (by decide +kernel), List.mem_of_getElem? (i := 341) (by decide +kernel), List.mem_of_getElem? (i := 342) (by decide +kernel)⟩
theorem lw_p19 : lw_okq (⟨"SlideBoards$Board", "pictureByte", "(I)I"⟩, 10) := ⟨⟨by decide +kernel, by decide +kernel⟩, List.mem_of_getElem? (i := 26) (by decide +kernel), List.mem_of_getElem? (i := 364) (by decide +kernel), List.mem_of_getElem? (i := 365) (by decide +kernel)⟩
theorem lw_p20 : lw_okq (⟨"SlideBoards$Board", "bitOf", "(II)I"⟩, 10) := ⟨⟨by decide +kernel, by decide +kernel⟩, List.mem_of_getElem? (i := 26) (by decide +kernel), List.mem_of_getElem? (i := 368) (by decide +kernel), List.mem_of_getElem? (i := 369) (by decide +kernel)⟩
theorem lw_p21 : lw_okq (⟨"SlideBoards$Board", "cellOf", "(II)I"⟩, 10) := ⟨⟨by decide +kernel, by decide +kernel⟩, List.mem_of_getElem? (i := 26) (by decide +kernel), List.mem_of_getElem? (i := 372) (by decide +kernel), List.mem_of_getElem? (i := 373) (by decide +kernel)⟩
theorem lw_p22 : lw_okq (⟨"SlideBoards$Board", "cellByte", "(I)I"⟩, 10) := ⟨⟨by decide +kernel, by decide +kernel⟩, List.mem_of_getElem? (i := 26) (by decide +kernel), List.mem_of_getElem? (i := 376) (by decide +kernel), List.mem_of_getElem? (i := 377) (by decide +kernel)⟩
theorem lw_p23 : lw_okq (⟨"SlideBoards$TileGraph", "addNode", "()I"⟩, 7) := ⟨⟨by decide +kernel, by decide +kernel⟩, List.mem_of_getElem? (i := 192) (by decide +kernel), List.mem_of_getElem? (i := 384) (by decide +kernel), List.mem_of_getElem? (i := 385) (by decide +kernel)⟩
theorem lw_p24 : lw_okq (⟨"SlideBoards$TileGraph", "hasTwoColours", "()Z"⟩, 7) := ⟨⟨by decide +kernel, by decide +kernel⟩, List.mem_of_getElem? (i := 192) (by decide +kernel), List.mem_of_getElem? (i := 392) (by decide +kernel), List.mem_of_getElem? (i := 393) (by decide +kernel)⟩
theorem lw_p25 : lw_okq (⟨"SlideBoards$TileGraph", "measureDistances", "()V"⟩, 7) := ⟨⟨by decide +kernel, by decide +kernel⟩, List.mem_of_getElem? (i := 192) (by decide +kernel), List.mem_of_getElem? (i := 396) (by decide +kernel), List.mem_of_getElem? (i := 397) (by decide +kernel)⟩
theorem lw_p26 : lw_okq (⟨"SlideBoards$TileGraph", "spreadDistances", "()V"⟩, 7) := ⟨⟨by decide +kernel, by decide +kernel⟩, List.mem_of_getElem? (i := 192) (by decide +kernel), List.mem_of_getElem? (i := 400) (by decide +kernel), List.mem_of_getElem? (i := 401) (by decide +kernel)⟩
theorem lw_p27 : lw_okq (⟨"SlideBoards$TileGraph", "areJoined", "(II)Z"⟩, 7) := ⟨⟨by decide +kernel, by decide +kernel⟩, List.mem_of_getElem? (i := 192) (by decide +kernel), List.mem_of_getElem? (i := 404) (by decide +kernel), List.mem_of_getElem? (i := 405) (by decide +kernel)⟩
theorem lw_p28 : lw_okq (⟨"SlideBoards$TileGraph", "invariant", "()I"⟩, 7) := ⟨⟨by decide +kernel, by decide +kernel⟩, List.mem_of_getElem? (i := 192) (by decide +kernel), List.mem_of_getElem? (i := 412) (by decide +kernel), List.mem_of_getElem? (i := 413) (by decide +kernel)⟩
theorem lw_p29 : lw_okq (⟨"SlideBoards$TileGraph", "countInversions", "()I"⟩, 7) := ⟨⟨by decide +kernel, by decide +kernel⟩, List.mem_of_getElem? (i := 192) (by decide +kernel), List.mem_of_getElem? (i := 417) (by decide +kernel), List.mem_of_getElem? (i := 418) (by decide +kernel)⟩
theorem lw_p30 : lw_okq (⟨"SlideBoards$TileGraph", "gapNode", "()I"⟩, 7) := ⟨⟨by decide +kernel, by decide +kernel⟩, List.mem_of_getElem? (i := 192) (by decide +kernel), List.mem_of_getElem? (i := 421) (by decide +kernel), List.mem_of_getElem? (i := 422) (by decide +kernel)⟩
theorem lw_p31 : lw_okq (⟨"SlideBoards$TileGraph", "countArrangements", "()I"⟩, 7) := ⟨⟨by decide +kernel, by decide +kernel⟩, List.mem_of_getElem? (i := 192) (by decide +kernel), List.mem_of_getElem? (i := 429) (by decide +kernel), List.mem_of_getElem? (i := 430) (by decide +kernel)⟩
def lw_privs_2 : List (MethodName × Nat) := [(⟨"SlideBoards$Finder", "tryWay", "(IIII)I"⟩, 11), (⟨"SlideBoards$Board", "moved", "(III)I"⟩, 10), (⟨"SlideBoards$Route", "keep", "(LSlideBoards$StateStore;Z)V"⟩, 3), (⟨"SlideBoards$Board", "pictureByte", "(I)I"⟩, 10), (⟨"SlideBoards$Board", "bitOf", "(II)I"⟩, 10), (⟨"SlideBoards$Board", "cellOf", "(II)I"⟩, 10), (⟨"SlideBoards$Board", "cellByte", "(I)I"⟩, 10), (⟨"SlideBoards$TileGraph", "addNode", "()I"⟩, 7), (⟨"SlideBoards$TileGraph", "hasTwoColours", "()Z"⟩, 7), (⟨"SlideBoards$TileGraph", "measureDistances", "()V"⟩, 7), (⟨"SlideBoards$TileGraph", "spreadDistances", "()V"⟩, 7), (⟨"SlideBoards$TileGraph", "areJoined", "(II)Z"⟩, 7), (⟨"SlideBoards$TileGraph", "invariant", "()I"⟩, 7), (⟨"SlideBoards$TileGraph", "countInversions", "()I"⟩, 7), (⟨"SlideBoards$TileGraph", "gapNode", "()I"⟩, 7), (⟨"SlideBoards$TileGraph", "countArrangements", "()I"⟩, 7)]
theorem lw_r2 : ∀ q ∈ lw_privs_2, lw_okq q := List.forall_mem_cons.mpr ⟨lw_p16, List.forall_mem_cons.mpr ⟨lw_p17, List.forall_mem_cons.mpr ⟨lw_p18, List.forall_mem_cons.mpr ⟨lw_p19, List.forall_mem_cons.mpr ⟨lw_p20, List.forall_mem_cons.mpr ⟨lw_p21, List.forall_mem_cons.mpr ⟨lw_p22, List.forall_mem_cons.mpr ⟨lw_p23, List.forall_mem_cons.mpr ⟨lw_p24, List.forall_mem_cons.mpr ⟨lw_p25, List.forall_mem_cons.mpr ⟨lw_p26, List.forall_mem_cons.mpr ⟨lw_p27, List.forall_mem_cons.mpr ⟨lw_p28, List.forall_mem_cons.mpr ⟨lw_p29, List.forall_mem_cons.mpr ⟨lw_p30, List.forall_mem_cons.mpr ⟨lw_p31, fun _ h => absurd h List.not_mem_nil⟩⟩⟩⟩⟩⟩⟩⟩⟩⟩⟩⟩⟩⟩⟩⟩
theorem lw_p32 : lw_okq (⟨"SlideBoards$TileGraph", "findArrangements", "()V"⟩, 7) := ⟨⟨by decide +kernel, by decide +kernel⟩, List.mem_of_getElem? (i := 192) (by decide +kernel), List.mem_of_getElem? (i := 433) (by decide +kernel), List.mem_of_getElem? (i := 434) (by decide +kernel)⟩
theorem lw_p33 : lw_okq (⟨"SlideBoards$TileGraph", "mark", "(I)V"⟩, 7) := ⟨⟨by decide +kernel, by decide +kernel⟩, List.mem_of_getElem? (i := 192) (by decide +kernel), List.mem_of_getElem? (i := 441) (by decide +kernel), List.mem_of_getElem? (i := 442) (by decide +kernel)⟩
theorem lw_p34 : lw_okq (⟨"SlideBoards$TileGraph", "isMarked", "(I)Z"⟩, 7) := ⟨⟨by decide +kernel, by decide +kernel⟩, List.mem_of_getElem? (i := 192) (by decide +kernel), List.mem_of_getElem? (i := 445) (by decide +kernel), List.mem_of_getElem? (i := 446) (by decide +kernel)⟩
theorem lw_p35 : lw_okq (⟨"SlideBoards$TileGraph", "markShifts", "(I)V"⟩, 7) := ⟨⟨by decide +kernel, by decide +kernel⟩, List.mem_of_getElem? (i := 192) (by decide +kernel), List.mem_of_getElem? (i := 449) (by decide +kernel), List.mem_of_getElem? (i := 450) (by decide +kernel)⟩
theorem lw_p36 : lw_okq (⟨"SlideBoards$TileGraph", "comesHome", "()Z"⟩, 7) := ⟨⟨by decide +kernel, by decide +kernel⟩, List.mem_of_getElem? (i := 192) (by decide +kernel), List.mem_of_getElem? (i := 457) (by decide +kernel), List.mem_of_getElem? (i := 458) (by decide +kernel)⟩
theorem lw_p37 : lw_okq (⟨"SlideBoards", "needCell", "(II)V"⟩, 5) := ⟨⟨by decide +kernel, by decide +kernel⟩, List.mem_of_getElem? (i := 18) (by decide +kernel), List.mem_of_getElem? (i := 472) (by decide +kernel), List.mem_of_getElem? (i := 473) (by decide +kernel)⟩
theorem lw_p38 : lw_okq (⟨"SlideBoards$Board", "hasCell", "(II)Z"⟩, 10) := ⟨⟨by decide +kernel, by decide +kernel⟩, List.mem_of_getElem? (i := 26) (by decide +kernel), List.mem_of_getElem? (i := 476) (by decide +kernel), List.mem_of_getElem? (i := 477) (by decide +kernel)⟩
theorem lw_p39 : lw_okq (⟨"java/lang/Throwable", "fillInStackTrace", "(I)Ljava/lang/Throwable;"⟩, 6) := ⟨⟨by decide +kernel, by decide +kernel⟩, List.mem_of_getElem? (i := 519) (by decide +kernel), List.mem_of_getElem? (i := 517) (by decide +kernel), List.mem_of_getElem? (i := 518) (by decide +kernel)⟩
theorem lw_p40 : lw_okq (⟨"SlideBoards$Board", "setWall", "(IZ)Z"⟩, 10) := ⟨⟨by decide +kernel, by decide +kernel⟩, List.mem_of_getElem? (i := 26) (by decide +kernel), List.mem_of_getElem? (i := 553) (by decide +kernel), List.mem_of_getElem? (i := 554) (by decide +kernel)⟩
theorem lw_p41 : lw_okq (⟨"SlideBoards$Board", "filled", "()I"⟩, 10) := ⟨⟨by decide +kernel, by decide +kernel⟩, List.mem_of_getElem? (i := 26) (by decide +kernel), List.mem_of_getElem? (i := 557) (by decide +kernel), List.mem_of_getElem? (i := 558) (by decide +kernel)⟩
theorem lw_p42 : lw_okq (⟨"SlideBoards$Board", "addBlock", "(I)I"⟩, 10) := ⟨⟨by decide +kernel, by decide +kernel⟩, List.mem_of_getElem? (i := 26) (by decide +kernel), List.mem_of_getElem? (i := 588) (by decide +kernel), List.mem_of_getElem? (i := 589) (by decide +kernel)⟩
theorem lw_p43 : lw_okq (⟨"SlideBoards", "needBlock", "(I)V"⟩, 5) := ⟨⟨by decide +kernel, by decide +kernel⟩, List.mem_of_getElem? (i := 18) (by decide +kernel), List.mem_of_getElem? (i := 599) (by decide +kernel), List.mem_of_getElem? (i := 600) (by decide +kernel)⟩
theorem lw_p44 : lw_okq (⟨"SlideBoards$Board", "addCell", "(II)Z"⟩, 10) := ⟨⟨by decide +kernel, by decide +kernel⟩, List.mem_of_getElem? (i := 26) (by decide +kernel), List.mem_of_getElem? (i := 604) (by decide +kernel), List.mem_of_getElem? (i := 605) (by decide +kernel)⟩
theorem lw_p45 : lw_okq (⟨"SlideBoards$Board", "slideBlock", "(III)I"⟩, 10) := ⟨⟨by decide +kernel, by decide +kernel⟩, List.mem_of_getElem? (i := 26) (by decide +kernel), List.mem_of_getElem? (i := 627) (by decide +kernel), List.mem_of_getElem? (i := 628) (by decide +kernel)⟩
theorem lw_p46 : lw_okq (⟨"SlideBoards$Goals", "add", "(ZII)I"⟩, 4) := ⟨⟨by decide +kernel, by decide +kernel⟩, List.mem_of_getElem? (i := 77) (by decide +kernel), List.mem_of_getElem? (i := 640) (by decide +kernel), List.mem_of_getElem? (i := 641) (by decide +kernel)⟩
theorem lw_p47 : lw_okq (⟨"SlideBoards", "needNode", "(I)V"⟩, 5) := ⟨⟨by decide +kernel, by decide +kernel⟩, List.mem_of_getElem? (i := 18) (by decide +kernel), List.mem_of_getElem? (i := 658) (by decide +kernel), List.mem_of_getElem? (i := 659) (by decide +kernel)⟩
def lw_privs_3 : List (MethodName × Nat) := [(⟨"SlideBoards$TileGraph", "findArrangements", "()V"⟩, 7), (⟨"SlideBoards$TileGraph", "mark", "(I)V"⟩, 7), (⟨"SlideBoards$TileGraph", "isMarked", "(I)Z"⟩, 7), (⟨"SlideBoards$TileGraph", "markShifts", "(I)V"⟩, 7), (⟨"SlideBoards$TileGraph", "comesHome", "()Z"⟩, 7), (⟨"SlideBoards", "needCell", "(II)V"⟩, 5), (⟨"SlideBoards$Board", "hasCell", "(II)Z"⟩, 10), (⟨"java/lang/Throwable", "fillInStackTrace", "(I)Ljava/lang/Throwable;"⟩, 6), (⟨"SlideBoards$Board", "setWall", "(IZ)Z"⟩, 10), (⟨"SlideBoards$Board", "filled", "()I"⟩, 10), (⟨"SlideBoards$Board", "addBlock", "(I)I"⟩, 10), (⟨"SlideBoards", "needBlock", "(I)V"⟩, 5), (⟨"SlideBoards$Board", "addCell", "(II)Z"⟩, 10), (⟨"SlideBoards$Board", "slideBlock", "(III)I"⟩, 10), (⟨"SlideBoards$Goals", "add", "(ZII)I"⟩, 4), (⟨"SlideBoards", "needNode", "(I)V"⟩, 5)]
theorem lw_r3 : ∀ q ∈ lw_privs_3, lw_okq q := List.forall_mem_cons.mpr ⟨lw_p32, List.forall_mem_cons.mpr ⟨lw_p33, List.forall_mem_cons.mpr ⟨lw_p34, List.forall_mem_cons.mpr ⟨lw_p35, List.forall_mem_cons.mpr ⟨lw_p36, List.forall_mem_cons.mpr ⟨lw_p37, List.forall_mem_cons.mpr ⟨lw_p38, List.forall_mem_cons.mpr ⟨lw_p39, List.forall_mem_cons.mpr ⟨lw_p40, List.forall_mem_cons.mpr ⟨lw_p41, List.forall_mem_cons.mpr ⟨lw_p42, List.forall_mem_cons.mpr ⟨lw_p43, List.forall_mem_cons.mpr ⟨lw_p44, List.forall_mem_cons.mpr ⟨lw_p45, List.forall_mem_cons.mpr ⟨lw_p46, List.forall_mem_cons.mpr ⟨lw_p47, fun _ h => absurd h List.not_mem_nil⟩⟩⟩⟩⟩⟩⟩⟩⟩⟩⟩⟩⟩⟩⟩⟩
theorem lw_p48 : lw_okq (⟨"SlideBoards$TileGraph", "addLine", "(II)Z"⟩, 7) := ⟨⟨by decide +kernel, by decide +kernel⟩, List.mem_of_getElem? (i := 192) (by decide +kernel), List.mem_of_getElem? (i := 663) (by decide +kernel), List.mem_of_getElem? (i := 664) (by decide +kernel)⟩
theorem lw_p49 : lw_okq (⟨"SlideBoards$TileGraph", "moveToGap", "(I)Z"⟩, 7) := ⟨⟨by decide +kernel, by decide +kernel⟩, List.mem_of_getElem? (i := 192) (by decide +kernel), List.mem_of_getElem? (i := 681) (by decide +kernel), List.mem_of_getElem? (i := 682) (by decide +kernel)⟩
theorem lw_p50 : lw_okq (⟨"SlideBoards$TileGraph", "exchange", "(II)Z"⟩, 7) := ⟨⟨by decide +kernel, by decide +kernel⟩, List.mem_of_getElem? (i := 192) (by decide +kernel), List.mem_of_getElem? (i := 685) (by decide +kernel), List.mem_of_getElem? (i := 686) (by decide +kernel)⟩
theorem lw_p51 : lw_okq (⟨"SlideBoardsModel", "isCell", "(II)Z"⟩, 30) := ⟨⟨by decide +kernel, by decide +kernel⟩, List.mem_of_getElem? (i := 697) (by decide +kernel), List.mem_of_getElem? (i := 805) (by decide +kernel), List.mem_of_getElem? (i := 806) (by decide +kernel)⟩
theorem lw_p52 : lw_okq (⟨"SlideBoardsModel", "throwsIf", "(IZ)Z"⟩, 30) := ⟨⟨by decide +kernel, by decide +kernel⟩, List.mem_of_getElem? (i := 697) (by decide +kernel), List.mem_of_getElem? (i := 809) (by decide +kernel), List.mem_of_getElem? (i := 810) (by decide +kernel)⟩
theorem lw_p53 : lw_okq (⟨"SlideBoardsModel", "blocked", "()I"⟩, 30) := ⟨⟨by decide +kernel, by decide +kernel⟩, List.mem_of_getElem? (i := 697) (by decide +kernel), List.mem_of_getElem? (i := 813) (by decide +kernel), List.mem_of_getElem? (i := 814) (by decide +kernel)⟩
theorem lw_p54 : lw_okq (⟨"SlideBoardsModel", "isBlock", "(I)Z"⟩, 30) := ⟨⟨by decide +kernel, by decide +kernel⟩, List.mem_of_getElem? (i := 697) (by decide +kernel), List.mem_of_getElem? (i := 825) (by decide +kernel), List.mem_of_getElem? (i := 826) (by decide +kernel)⟩
theorem lw_p55 : lw_okq (⟨"SlideBoardsModel", "stepped", "([III)I"⟩, 30) := ⟨⟨by decide +kernel, by decide +kernel⟩, List.mem_of_getElem? (i := 697) (by decide +kernel), List.mem_of_getElem? (i := 840) (by decide +kernel), List.mem_of_getElem? (i := 841) (by decide +kernel)⟩
theorem lw_p56 : lw_okq (⟨"SlideBoardsModel", "moved", "(II)I"⟩, 30) := ⟨⟨by decide +kernel, by decide +kernel⟩, List.mem_of_getElem? (i := 697) (by decide +kernel), List.mem_of_getElem? (i := 844) (by decide +kernel), List.mem_of_getElem? (i := 845) (by decide +kernel)⟩
theorem lw_p57 : lw_okq (⟨"SlideBoardsModel", "addGoal", "(III)I"⟩, 30) := ⟨⟨by decide +kernel, by decide +kernel⟩, List.mem_of_getElem? (i := 697) (by decide +kernel), List.mem_of_getElem? (i := 852) (by decide +kernel), List.mem_of_getElem? (i := 853) (by decide +kernel)⟩
theorem lw_p58 : lw_okq (⟨"SlideBoardsModel", "openIn", "([I)I"⟩, 30) := ⟨⟨by decide +kernel, by decide +kernel⟩, List.mem_of_getElem? (i := 697) (by decide +kernel), List.mem_of_getElem? (i := 868) (by decide +kernel), List.mem_of_getElem? (i := 869) (by decide +kernel)⟩
theorem lw_p59 : lw_okq (⟨"SlideBoardsModel", "isMet", "(I[I)Z"⟩, 30) := ⟨⟨by decide +kernel, by decide +kernel⟩, List.mem_of_getElem? (i := 697) (by decide +kernel), List.mem_of_getElem? (i := 872) (by decide +kernel), List.mem_of_getElem? (i := 873) (by decide +kernel)⟩
theorem lw_p60 : lw_okq (⟨"SlideBoardsModel", "spread", "(IIZ)I"⟩, 30) := ⟨⟨by decide +kernel, by decide +kernel⟩, List.mem_of_getElem? (i := 697) (by decide +kernel), List.mem_of_getElem? (i := 880) (by decide +kernel), List.mem_of_getElem? (i := 881) (by decide +kernel)⟩
theorem lw_p61 : lw_okq (⟨"SlideBoardsModel", "liken", "()V"⟩, 30) := ⟨⟨by decide +kernel, by decide +kernel⟩, List.mem_of_getElem? (i := 697) (by decide +kernel), List.mem_of_getElem? (i := 884) (by decide +kernel), List.mem_of_getElem? (i := 885) (by decide +kernel)⟩
theorem lw_p62 : lw_okq (⟨"SlideBoardsModel", "isShape", "(II)Z"⟩, 30) := ⟨⟨by decide +kernel, by decide +kernel⟩, List.mem_of_getElem? (i := 697) (by decide +kernel), List.mem_of_getElem? (i := 888) (by decide +kernel), List.mem_of_getElem? (i := 889) (by decide +kernel)⟩
theorem lw_p63 : lw_okq (⟨"SlideBoardsModel", "isIn", "(IIII)Z"⟩, 30) := ⟨⟨by decide +kernel, by decide +kernel⟩, List.mem_of_getElem? (i := 697) (by decide +kernel), List.mem_of_getElem? (i := 892) (by decide +kernel), List.mem_of_getElem? (i := 893) (by decide +kernel)⟩
def lw_privs_4 : List (MethodName × Nat) := [(⟨"SlideBoards$TileGraph", "addLine", "(II)Z"⟩, 7), (⟨"SlideBoards$TileGraph", "moveToGap", "(I)Z"⟩, 7), (⟨"SlideBoards$TileGraph", "exchange", "(II)Z"⟩, 7), (⟨"SlideBoardsModel", "isCell", "(II)Z"⟩, 30), (⟨"SlideBoardsModel", "throwsIf", "(IZ)Z"⟩, 30), (⟨"SlideBoardsModel", "blocked", "()I"⟩, 30), (⟨"SlideBoardsModel", "isBlock", "(I)Z"⟩, 30), (⟨"SlideBoardsModel", "stepped", "([III)I"⟩, 30), (⟨"SlideBoardsModel", "moved", "(II)I"⟩, 30), (⟨"SlideBoardsModel", "addGoal", "(III)I"⟩, 30), (⟨"SlideBoardsModel", "openIn", "([I)I"⟩, 30), (⟨"SlideBoardsModel", "isMet", "(I[I)Z"⟩, 30), (⟨"SlideBoardsModel", "spread", "(IIZ)I"⟩, 30), (⟨"SlideBoardsModel", "liken", "()V"⟩, 30), (⟨"SlideBoardsModel", "isShape", "(II)Z"⟩, 30), (⟨"SlideBoardsModel", "isIn", "(IIII)Z"⟩, 30)]
theorem lw_r4 : ∀ q ∈ lw_privs_4, lw_okq q := List.forall_mem_cons.mpr ⟨lw_p48, List.forall_mem_cons.mpr ⟨lw_p49, List.forall_mem_cons.mpr ⟨lw_p50, List.forall_mem_cons.mpr ⟨lw_p51, List.forall_mem_cons.mpr ⟨lw_p52, List.forall_mem_cons.mpr ⟨lw_p53, List.forall_mem_cons.mpr ⟨lw_p54, List.forall_mem_cons.mpr ⟨lw_p55, List.forall_mem_cons.mpr ⟨lw_p56, List.forall_mem_cons.mpr ⟨lw_p57, List.forall_mem_cons.mpr ⟨lw_p58, List.forall_mem_cons.mpr ⟨lw_p59, List.forall_mem_cons.mpr ⟨lw_p60, List.forall_mem_cons.mpr ⟨lw_p61, List.forall_mem_cons.mpr ⟨lw_p62, List.forall_mem_cons.mpr ⟨lw_p63, fun _ h => absurd h List.not_mem_nil⟩⟩⟩⟩⟩⟩⟩⟩⟩⟩⟩⟩⟩⟩⟩⟩
theorem lw_p64 : lw_okq (⟨"SlideBoardsModel", "isNew", "(II)Z"⟩, 30) := ⟨⟨by decide +kernel, by decide +kernel⟩, List.mem_of_getElem? (i := 697) (by decide +kernel), List.mem_of_getElem? (i := 896) (by decide +kernel), List.mem_of_getElem? (i := 897) (by decide +kernel)⟩
theorem lw_p65 : lw_okq (⟨"SlideBoardsModel", "order", "()V"⟩, 30) := ⟨⟨by decide +kernel, by decide +kernel⟩, List.mem_of_getElem? (i := 697) (by decide +kernel), List.mem_of_getElem? (i := 900) (by decide +kernel), List.mem_of_getElem? (i := 901) (by decide +kernel)⟩
theorem lw_p66 : lw_okq (⟨"SlideBoardsModel", "seatOf", "()I"⟩, 30) := ⟨⟨by decide +kernel, by decide +kernel⟩, List.mem_of_getElem? (i := 697) (by decide +kernel), List.mem_of_getElem? (i := 904) (by decide +kernel), List.mem_of_getElem? (i := 905) (by decide +kernel)⟩
theorem lw_p67 : lw_okq (⟨"SlideBoardsModel", "isKey", "(I)Z"⟩, 30) := ⟨⟨by decide +kernel, by decide +kernel⟩, List.mem_of_getElem? (i := 697) (by decide +kernel), List.mem_of_getElem? (i := 908) (by decide +kernel), List.mem_of_getElem? (i := 909) (by decide +kernel)⟩
theorem lw_p68 : lw_okq (⟨"SlideBoardsModel", "load", "(I)V"⟩, 30) := ⟨⟨by decide +kernel, by decide +kernel⟩, List.mem_of_getElem? (i := 697) (by decide +kernel), List.mem_of_getElem? (i := 912) (by decide +kernel), List.mem_of_getElem? (i := 913) (by decide +kernel)⟩
theorem lw_p69 : lw_okq (⟨"SlideBoardsModel", "isNode", "(I)Z"⟩, 30) := ⟨⟨by decide +kernel, by decide +kernel⟩, List.mem_of_getElem? (i := 697) (by decide +kernel), List.mem_of_getElem? (i := 940) (by decide +kernel), List.mem_of_getElem? (i := 941) (by decide +kernel)⟩
theorem lw_p70 : lw_okq (⟨"SlideBoardsModel", "isJoined", "(II)Z"⟩, 30) := ⟨⟨by decide +kernel, by decide +kernel⟩, List.mem_of_getElem? (i := 697) (by decide +kernel), List.mem_of_getElem? (i := 944) (by decide +kernel), List.mem_of_getElem? (i := 945) (by decide +kernel)⟩
theorem lw_p71 : lw_okq (⟨"SlideBoardsModel", "gap", "()I"⟩, 30) := ⟨⟨by decide +kernel, by decide +kernel⟩, List.mem_of_getElem? (i := 697) (by decide +kernel), List.mem_of_getElem? (i := 956) (by decide +kernel), List.mem_of_getElem? (i := 957) (by decide +kernel)⟩
theorem lw_p72 : lw_okq (⟨"SlideBoardsModel", "exchange", "(II)V"⟩, 30) := ⟨⟨by decide +kernel, by decide +kernel⟩, List.mem_of_getElem? (i := 697) (by decide +kernel), List.mem_of_getElem? (i := 960) (by decide +kernel), List.mem_of_getElem? (i := 961) (by decide +kernel)⟩
theorem lw_p73 : lw_okq (⟨"SlideBoardsModel", "isEven", "()Z"⟩, 30) := ⟨⟨by decide +kernel, by decide +kernel⟩, List.mem_of_getElem? (i := 697) (by decide +kernel), List.mem_of_getElem? (i := 972) (by decide +kernel), List.mem_of_getElem? (i := 973) (by decide +kernel)⟩
theorem lw_p74 : lw_okq (⟨"SlideBoardsModel", "measure", "(I)V"⟩, 30) := ⟨⟨by decide +kernel, by decide +kernel⟩, List.mem_of_getElem? (i := 697) (by decide +kernel), List.mem_of_getElem? (i := 976) (by decide +kernel), List.mem_of_getElem? (i := 977) (by decide +kernel)⟩
theorem lw_p75 : lw_okq (⟨"SlideBoardsModel", "go", "()I"⟩, 30) := ⟨⟨by decide +kernel, by decide +kernel⟩, List.mem_of_getElem? (i := 697) (by decide +kernel), List.mem_of_getElem? (i := 988) (by decide +kernel), List.mem_of_getElem? (i := 989) (by decide +kernel)⟩
theorem lw_p76 : lw_okq (⟨"SlideBoardsModel", "rank", "()I"⟩, 30) := ⟨⟨by decide +kernel, by decide +kernel⟩, List.mem_of_getElem? (i := 697) (by decide +kernel), List.mem_of_getElem? (i := 992) (by decide +kernel), List.mem_of_getElem? (i := 993) (by decide +kernel)⟩
theorem lw_p77 : lw_okq (⟨"SlideBoardsModel", "unrank", "(I)V"⟩, 30) := ⟨⟨by decide +kernel, by decide +kernel⟩, List.mem_of_getElem? (i := 697) (by decide +kernel), List.mem_of_getElem? (i := 996) (by decide +kernel), List.mem_of_getElem? (i := 997) (by decide +kernel)⟩
def lw_privs_5 : List (MethodName × Nat) := [(⟨"SlideBoardsModel", "isNew", "(II)Z"⟩, 30), (⟨"SlideBoardsModel", "order", "()V"⟩, 30), (⟨"SlideBoardsModel", "seatOf", "()I"⟩, 30), (⟨"SlideBoardsModel", "isKey", "(I)Z"⟩, 30), (⟨"SlideBoardsModel", "load", "(I)V"⟩, 30), (⟨"SlideBoardsModel", "isNode", "(I)Z"⟩, 30), (⟨"SlideBoardsModel", "isJoined", "(II)Z"⟩, 30), (⟨"SlideBoardsModel", "gap", "()I"⟩, 30), (⟨"SlideBoardsModel", "exchange", "(II)V"⟩, 30), (⟨"SlideBoardsModel", "isEven", "()Z"⟩, 30), (⟨"SlideBoardsModel", "measure", "(I)V"⟩, 30), (⟨"SlideBoardsModel", "go", "()I"⟩, 30), (⟨"SlideBoardsModel", "rank", "()I"⟩, 30), (⟨"SlideBoardsModel", "unrank", "(I)V"⟩, 30)]
theorem lw_r5 : ∀ q ∈ lw_privs_5, lw_okq q := List.forall_mem_cons.mpr ⟨lw_p64, List.forall_mem_cons.mpr ⟨lw_p65, List.forall_mem_cons.mpr ⟨lw_p66, List.forall_mem_cons.mpr ⟨lw_p67, List.forall_mem_cons.mpr ⟨lw_p68, List.forall_mem_cons.mpr ⟨lw_p69, List.forall_mem_cons.mpr ⟨lw_p70, List.forall_mem_cons.mpr ⟨lw_p71, List.forall_mem_cons.mpr ⟨lw_p72, List.forall_mem_cons.mpr ⟨lw_p73, List.forall_mem_cons.mpr ⟨lw_p74, List.forall_mem_cons.mpr ⟨lw_p75, List.forall_mem_cons.mpr ⟨lw_p76, List.forall_mem_cons.mpr ⟨lw_p77, fun _ h => absurd h List.not_mem_nil⟩⟩⟩⟩⟩⟩⟩⟩⟩⟩⟩⟩⟩⟩
def lw_privs : List (MethodName × Nat) := lw_privs_1 ++ (lw_privs_2 ++ (lw_privs_3 ++ (lw_privs_4 ++ (lw_privs_5))))
def lw_tbl : List Cond := k2_sels lw_privs ++ tables_1
theorem lw_privs_ok : ∀ q ∈ lw_privs, lw_okq q := by
  show ∀ q ∈ lw_privs_1 ++ (lw_privs_2 ++ (lw_privs_3 ++ (lw_privs_4 ++ (lw_privs_5)))), lw_okq q
  exact List.forall_mem_append.mpr ⟨lw_r1, List.forall_mem_append.mpr ⟨lw_r2, List.forall_mem_append.mpr ⟨lw_r3, List.forall_mem_append.mpr ⟨lw_r4, lw_r5⟩⟩⟩⟩
end
section
/-! ===== BEGIN words of one list among another's, by their places ===== -/
theorem goodIn_r {big : List Cond} (ws : List Cond) (ps : List Nat) (hp : ws = ps.filterMap (fun i => big[i]?)) (h : ws.all goodWord = true) : GoodIn big ws := by
  intro w hw
  have h1 := List.all_eq_true.mp h w hw
  rw [hp] at hw
  obtain ⟨i, -, hi⟩ := List.mem_filterMap.mp hw
  have hm : w ∈ big := by first | exact List.mem_of_getElem? hi | exact List.getElem?_mem hi
  exact ⟨hm, good_of_word h1⟩
theorem goodIn_app {big a b : List Cond} (ha : GoodIn big a) (hb : GoodIn big b) : GoodIn big (a ++ b) := fun w h => (List.mem_append.mp h).elim (ha w) (hb w)
theorem goodIn_ca {big a b : List Cond} {c : Cond} (ha : GoodIn big (c :: a)) (hb : GoodIn big b) : GoodIn big (c :: (a ++ b)) := fun w h => (List.mem_cons.mp h).elim (fun e => ha w (List.mem_cons.mpr (Or.inl e))) (fun h => (List.mem_append.mp h).elim (fun h => ha w (List.mem_cons.mpr (Or.inr h))) (hb w))
theorem goodIn_sub {big ws : List Cond} (hm : ∀ w ∈ ws, w ∈ big) (h : ws.all goodWord = true) : GoodIn big ws := fun w hw => ⟨hm w hw, good_of_word (List.all_eq_true.mp h w hw)⟩
/-! ===== END ===== -/

/-! ===== BEGIN exceptions that leave a method, and their catching by the caller (launches without stack traces) ===== -/
section VXA
/-! The laws vx_back, vx_callV, vx_callS, vx_callSW, vx_throw0, vx_throwS follow proofs of the library, with one case more: JvmDerived/Free/Laws.lean (Back.of_free), Shelf42/LK1.lean (callV, callS), Shelf/KitTraced.lean (throwNew0V, throwNewS). -/
/-- where a method has thrown q: the class by its name, the cell, what was written, the world -/
def vx_T (XC : String → State → State → Prop) (st : State) (q : Addr) (t : State) (mc ms : Nat) (free : Addr → Prop) : Prop :=
  ∃ (E : String) (ce : Cell) (L : List Loc), XC E st t ∧ t.heap[q]? = some ce ∧ ce.vm = .none ∧ st.vm.findClass E = some ce.cls ∧ st.WarmedH t.vm ∧ st.sameButNew ({ t with vm := st.vm } : State) L mc ms ∧ ∀ z ∈ L, free z.base
def vx_Q (Qc : Array Value → State → Outcome → State → Prop) (XC : String → State → State → Prop) (mc ms : Nat) (free : Addr → Prop) : Array Value → State → Outcome → State → Prop := fun a st o t =>
  (Qc a st o t ∧ ∃ L, FrameEnd st o t L mc ms ∧ ∀ q ∈ L, free q.base) ∨ ∃ q, o = .threw q ∧ vx_T XC st q t mc ms free
/-- a callee that returns or throws -/
def vx_Met (l : Launch) (y : MethodName) (ws : List Cond) (rm : Room) (Pc : Array Value → State → Prop) (Qc : Array Value → State → Outcome → State → Prop) (XC : String → State → State → Prop) (mc ms : Nat) (free : Addr → Prop) : Prop :=
  MetFree l y (headSpec ws rm) Pc (fun _ _ _ _ _ => True) (vx_Q Qc XC mc ms free)
def vx_Post (XC : String → State → State → Prop) (mc ms : Nat) (free : Addr → Prop) : Pt → Array Value → Addr → Pt → Prop := fun A a q B =>
  ∃ (g : JFrame) (mk : MethodId) (t : State) (L : List Loc) (E : String) (ce : Cell), B.U.heap = t.heap ∧ B.U.vm = t.vm ∧ XC E (A.U.calling g mk a) t ∧ t.heap[q]? = some ce ∧ ce.vm = .none ∧ A.U.vm.findClass E = some ce.cls ∧ B.locs = A.locs ++ L ∧ (∀ z ∈ L, free z.base) ∧ B.cells = A.cells + mc ∧ B.slots = A.slots + ms
def vx_Back (l : Launch) (R : Room) (p : Program) (e : Env) (below : List Frame) (s : State) (sargs : Array Value) (y : MethodName) (len W9 : Nat)
    (Pre : Pt → Array Value → Prop) (Post : Pt → Array Value → Option Value → Pt → Prop) (PostX : Pt → Array Value → Addr → Pt → Prop) : Prop :=
  ∀ (m : MethodId) (meth : Method) (c : Code) (A : Pt) (g : JFrame) (ig : Instr) (mk : MethodId) (a : Array Value),
    Stand p l e R s m sargs below meth c A.U A.locs A.cells A.slots → g.method = m → g.locals.size = c.maxLocals → decode c.code g.pc = .ok (ig, len) →
    2 * g.monitorRoom + (g.stack.map fun v => v.category).sum ≤ W9 → A.U.methodNamed? y = some mk → Pre A a →
    (∃ (v : Option Value) (B : Pt), Stand p l e R s m sargs below meth c B.U B.locs B.cells B.slots ∧ Post A a v B ∧
      Steps p.tables e below (doInvoke e (A.U.setTop g) [] mk a).1 (B.U.setTop { g with pc := g.pc + len, stack := v.toList ++ g.stack })) ∨
    (∃ (q : Addr) (B : Pt), Stand p l e R s m sargs below meth c B.U B.locs B.cells B.slots ∧ PostX A a q B ∧
      Steps p.tables e below (doInvoke e (A.U.setTop g) [] mk a).1 ((B.U.setTop g).pushFrame (.throwing q)))
section Payer
variable {l : Launch} {R : Room} {p : Program} {e : Env} {below : List Frame} {s : State} {sargs : Array Value} {y : MethodName} {len W9 : Nat}
theorem vx_back {ws : List Cond} {rm : Room} {Pc : Array Value → State → Prop} {Qc : Array Value → State → Outcome → State → Prop} {XC : String → State → State → Prop} {mc ms : Nat} {free : Addr → Prop} {bytes : ByteArray} {maxL : Nat} {ret : Option FieldType}
    (hM : vx_Met l y ws rm Pc Qc XC mc ms free) (hblind : FrameBlind Pc) (hrc : rm.cells = mc) (hrs : rm.slots = ms)
    (hframes : rm.frames + 1 ≤ R.frames) (hlocals : W9 + (maxL + 11) + rm.locals ≤ R.locals)
    (hws : ∀ w ∈ ws, ∀ a' U, s.WarmedH U.vm → w.before a' U = true) (hcode : Cond.code y bytes maxL ret ∈ ws) (hinit : ∀ a' U, s.WarmedH U.vm → (Cond.initialized y.cls).before a' U = true) :
    vx_Back l R p e below s sargs y len W9 (PreOf R mc ms Pc) (PostOf Qc mc ms free) (vx_Post XC mc ms free) := by
  intro m meth c A g ig mk a X hg hsize hdg hW hn hp
  have h1 : (headSpec ws rm).pre.before a A.U = true := atoms_intro fun w hw => hws w hw _ _ X.warmed
  have h2 : (Cond.code y bytes maxL ret).before a A.U = true := hws _ hcode _ _ X.warmed
  have h3 : (Cond.initialized y.cls).before a A.U = true := hinit _ _ X.warmed
  have h4 : A.cells + (headSpec ws rm).room.cells ≤ R.cells := by rw [show (headSpec ws rm).room.cells = mc from hrc]; exact hp.1
  have h5 : A.slots + (headSpec ws rm).room.slots ≤ R.slots := by rw [show (headSpec ws rm).room.slots = ms from hrs]; exact hp.2.1
  have hPc : Pc a (A.U.calling g mk a) := hblind _ _ _ _ hp.2.2
  obtain ⟨U, Ls, c0, s0⟩ := A
  dsimp only [Pt.U, Pt.locs, Pt.cells, Pt.slots] at h1 h2 h3 h4 h5 X hn hPc ⊢
  obtain ⟨methY, cY, hmY, hcY, -, hlY, -, -, -, -⟩ := Cond.code_spec hn h2
  obtain ⟨kY, hkY, -⟩ := className_of_methodNamed hn
  have hinitY : kY.init = .initialized := Cond.initialized_spec (findClass_of_methodNamed hn) hkY h3
  have h : At U g.method c below := by rw [hg]; exact X.here
  have hlocals9 : W9 + (maxL + 11) + (headSpec ws rm).room.locals ≤ R.locals := hlocals
  have happ : (headSpec ws rm).appliesLoose y e.platform (U.calling g mk a) = true :=
    Spec.appliesLoose_calling (g := g) h hdg hn hkY hinitY
      (X.room_calling (g := g) (R' := (headSpec ws rm).room) hsize hmY hcY hframes (by rw [hlY]; omega) h4 h5) h1
  obtain ⟨mid, hmid⟩ := h.above
  have hfr : (U.setTop g).frames = (.java g :: mid) ++ below := by rw [State.frames_setTop' g h.top, hmid]; rfl
  obtain ⟨o, s₂, hsteps, -, hend, hq⟩ := Steps.callFree hM p X.admits X.cas X.clock (acts := []) hfr happ hPc trivial
  have hq' : vx_Q Qc XC mc ms free a (U.calling g mk a) o s₂ := hq
  rw [State.frames_setTop' g h.top] at hend
  obtain ⟨g₀, hg0⟩ := Option.isSome_iff_exists.mp h.top
  obtain ⟨r, hr⟩ := State.topJava?_eq_some.mp hg0
  have hr' : (({ U with heap := s₂.heap, slotsUsed := s₂.slotsUsed } : State).setVm s₂.vm).frames = .java g₀ :: r := hr
  rcases hq' with ⟨hqc, L, hfe, hL⟩ | ⟨q, rfl, E, ce, L, hx, hce, hcv, hcl, hW₂, hsm, hL⟩
  · obtain ⟨⟨v, rfl⟩, hW₂, e2, q2, q3, q4, q5, q6⟩ := id hfe
    have e3 : s₂ = ({ (U.calling g mk a).setFrames s₂.frames with heap := s₂.heap, slotsUsed := s₂.slotsUsed } : State).setVm s₂.vm := by
      have : s₂ = ({ s₂ with vm := (U.calling g mk a).vm } : State).setVm s₂.vm := rfl
      rw [e2] at this
      exact this
    obtain ⟨c₂, i₂, len₂, hc₂, hd₂, hf₂⟩ := hend
    have hW' : U.WarmedH s₂.vm := hW₂
    have hcc : c₂ = c := by
      have h1 : s₂.code? g.method = U.code? g.method := by
        rw [State.code?_eq, State.code?_eq, hW'.alike.method?]
      exact Option.some.inj (hc₂.symm.trans (h1.trans h.code))
    subst hcc
    have hlen : len₂ = len := by rw [hdg] at hd₂; cases hd₂; rfl
    subst hlen
    have hs₂ : s₂ = (({ U with heap := s₂.heap, slotsUsed := s₂.slotsUsed } : State).setVm s₂.vm).setTop { g with pc := g.pc + len₂, stack := v.toList ++ g.stack } := by
      refine e3.trans ?_
      rw [hf₂, State.calling_eq h.top, State.setFrames_setFrames, State.setTop_of_frames _ hr', hr]
      rfl
    have hsame : U.sameButNew ({ U with heap := s₂.heap, slotsUsed := s₂.slotsUsed } : State) L mc ms := by
      refine ⟨?_, q2, q3, q4, q5, q6⟩
      obtain ⟨t, ht, -⟩ := State.frames_cons hr
      show ({ U with heap := s₂.heap, slotsUsed := s₂.slotsUsed } : State) = { U.setFrames U.frames with heap := s₂.heap, slotsUsed := s₂.slotsUsed }
      rw [State.setFrames_self ht]
    subst hg
    refine Or.inl ⟨v, ⟨(({ U with heap := s₂.heap, slotsUsed := s₂.slotsUsed } : State).setVm s₂.vm), Ls ++ L, c0 + mc, s0 + ms⟩,
      ⟨X.admits, X.cas, X.clock, X.frames, X.room, X.hears, X.method, X.code, (X.here.setHeapUsed s₂.heap s₂.slotsUsed).setVm hW'.alike, X.tail, State.WarmedH.trans X.warmed hW', X.limits, X.bytes, X.same.trans (hsame.setVm s.vm)⟩,
      ⟨g, mk, s₂, L, rfl, rfl, hqc, rfl, hL, rfl, rfl⟩, ?_⟩
    show Steps p.tables e below _ ((({ U with heap := s₂.heap, slotsUsed := s₂.slotsUsed } : State).setVm s₂.vm).setTop { g with pc := g.pc + len₂, stack := v.toList ++ g.stack })
    rw [← hs₂]
    exact hsteps
  · obtain ⟨e2, q2, q3, q4, q5, q6⟩ := id hsm
    have e3 : s₂ = ({ (U.calling g mk a).setFrames s₂.frames with heap := s₂.heap, slotsUsed := s₂.slotsUsed } : State).setVm s₂.vm := by
      have : s₂ = ({ s₂ with vm := (U.calling g mk a).vm } : State).setVm s₂.vm := rfl
      rw [e2] at this
      exact this
    have hf₂ : s₂.frames = .throwing q :: .java g :: U.frames.tail := hend
    have hW' : U.WarmedH s₂.vm := hW₂
    have hs₂ : s₂ = ((({ U with heap := s₂.heap, slotsUsed := s₂.slotsUsed } : State).setVm s₂.vm).setTop g).pushFrame (.throwing q) := by
      refine e3.trans ?_
      rw [hf₂, State.calling_eq h.top, State.setFrames_setFrames, State.pushFrame, State.frames_setTop _ hr', State.setTop_of_frames _ hr', State.setFrames_setFrames, hr]
      rfl
    have hsame : U.sameButNew ({ U with heap := s₂.heap, slotsUsed := s₂.slotsUsed } : State) L mc ms := by
      refine ⟨?_, q2, q3, q4, q5, q6⟩
      obtain ⟨t, ht, -⟩ := State.frames_cons hr
      show ({ U with heap := s₂.heap, slotsUsed := s₂.slotsUsed } : State) = { U.setFrames U.frames with heap := s₂.heap, slotsUsed := s₂.slotsUsed }
      rw [State.setFrames_self ht]
    subst hg
    refine Or.inr ⟨q, ⟨(({ U with heap := s₂.heap, slotsUsed := s₂.slotsUsed } : State).setVm s₂.vm), Ls ++ L, c0 + mc, s0 + ms⟩,
      ⟨X.admits, X.cas, X.clock, X.frames, X.room, X.hears, X.method, X.code, (X.here.setHeapUsed s₂.heap s₂.slotsUsed).setVm hW'.alike, X.tail, State.WarmedH.trans X.warmed hW', X.limits, X.bytes, X.same.trans (hsame.setVm s.vm)⟩,
      ⟨g, mk, s₂, L, E, ce, rfl, rfl, hx, hce, hcv, hcl, rfl, hL, rfl, rfl⟩, ?_⟩
    show Steps p.tables e below _ (((({ U with heap := s₂.heap, slotsUsed := s₂.slotsUsed } : State).setVm s₂.vm).setTop g).pushFrame (.throwing q))
    rw [← hs₂]
    exact hsteps
end Payer
section Calls
variable {p : Program} {l : Launch} {e : Env} {R : Room} {s : State} {m : MethodId} {args : Array Value} {below : List Frame} {meth : Method} {c : Code} {T : State} {locs : List Loc} {cells slots : Nat}
theorem vx_callV (X : Stand p l e R s m args below meth c T locs cells slots) (hexec : p.tables.exec = Jvm.exec) {own C : String} {index : Nat} {y : MethodName} {bytes : ByteArray} {maxL : Nat} {ret : Option FieldType}
    (hown : s.vm.findClass own = some m.cls) (hlink : (Cond.methodLink own index y).before args s = true) (hinst : (Cond.instanceMethod y).before args s = true) (hsel : (Cond.selects C y y).before args s = true)
    (hcode : (Cond.code y bytes maxL ret).before args s = true) (hy : y.cls ≠ "java/lang/invoke/MethodHandle" ∧ y.cls ≠ "java/lang/invoke/VarHandle")
    {W9 : Nat} {Pre : Pt → Array Value → Prop} {Post : Pt → Array Value → Option Value → Pt → Prop} {PostX : Pt → Array Value → Addr → Pt → Prop} (hK : vx_Back l R p e below s args y 3 W9 Pre Post PostX)
    {b : Addr} {cellB : Cell} (hcell : T.heap[b]? = some cellB) (hobj : cellB.vm.isStatics = false) (hcls : s.vm.findClass C = some cellB.cls)
    {g : JFrame} (hg : g.method = m) (hsize : g.locals.size = c.maxLocals) {argsL rest : List Value} (hlen : ∀ sig, parseMethodDescriptor y.desc = some sig → argsL.length = sig.parameters.length)
    (hstack : g.stack = argsL.reverse ++ .ref b :: rest) (hW : 2 * g.monitorRoom + (rest.map fun v => v.category).sum ≤ W9) (hdg : decode c.code g.pc = .ok (.invokevirtual index, 3))
    (hpre : ∀ vm₁, s.WarmedH vm₁ → Pre ⟨T.setVm vm₁, locs, cells, slots⟩ (Value.ref b :: argsL).toArray) :
    (∃ (v : Option Value) (vm₁ : Vm) (B : Pt), s.WarmedH vm₁ ∧ Stand p l e R s m args below meth c B.U B.locs B.cells B.slots ∧ Post ⟨T.setVm vm₁, locs, cells, slots⟩ (Value.ref b :: argsL).toArray v B ∧
      ∀ target, Steps p.tables e below (B.U.setTop { g with pc := g.pc + 3, stack := v.toList ++ rest }) target → Steps p.tables e below (T.setTop g) target) ∨
    (∃ (q : Addr) (vm₁ : Vm) (B : Pt), s.WarmedH vm₁ ∧ Stand p l e R s m args below meth c B.U B.locs B.cells B.slots ∧ PostX ⟨T.setVm vm₁, locs, cells, slots⟩ (Value.ref b :: argsL).toArray q B ∧
      Steps p.tables e below (T.setTop g) ((B.U.setTop { g with stack := rest }).pushFrame (.throwing q))) := by
  obtain ⟨mk, methM, hnamed, hmethM, hstM, habM⟩ := Cond.instanceMethod_spec hinst
  obtain ⟨methM', cM, hmethM', -, -, -, -, -, -, hsigM⟩ := Cond.code_spec hnamed hcode
  cases hmethM.symm.trans hmethM'
  obtain ⟨c2, r2, m2, q1, q2, q3, q4, kP, hkP, hkPi⟩ := Cond.selects_spec hsel
  cases hcls.symm.trans q1
  cases (State.methodFound?_of_named hnamed hy).symm.trans q2
  cases hnamed.symm.trans q3
  have hselP : selectMethod e.platform s.vm cellB.cls mk = .method mk := by rw [Launch.admits_selectMethod X.admits]; exact q4
  obtain ⟨vm₁, X₁, hstep₁⟩ := X.invokevirtual hexec hown hlink hnamed hmethM hstM hkP hkPi hy (a := b) (cell := cellB) hcell
    (fun z h => by rw [h] at hobj; cases hobj) hselP hmethM habM hkP hkPi (g := g) hg (argsL := argsL) (rest := rest) (hlen _ hsigM) hstack hdg
  rcases hK m meth c ⟨T.setVm vm₁, locs, cells, slots⟩ { g with stack := rest } (.invokevirtual index) mk (Value.ref b :: argsL).toArray X₁ hg hsize hdg hW (X₁.named hnamed) (hpre vm₁ X₁.warmed) with ⟨v, B, X', hpost, hsteps⟩ | ⟨q, B, X', hpost, hsteps⟩
  · exact Or.inl ⟨v, vm₁, B, X₁.warmed, X', hpost, fun target h => hstep₁ _ fun acts => by rw [doInvoke_state]; exact hsteps.trans h⟩
  · exact Or.inr ⟨q, vm₁, B, X₁.warmed, X', hpost, hstep₁ _ fun acts => by rw [doInvoke_state]; exact hsteps⟩
theorem vx_callS (X : Stand p l e R s m args below meth c T locs cells slots) (hexec : p.tables.exec = Jvm.exec) {own : String} {index : Nat} {y : MethodName} {bytes : ByteArray} {maxL : Nat} {ret : Option FieldType}
    (hown : s.vm.findClass own = some m.cls) (hlink : (Cond.methodLink own index y).before args s = true) (hstat : (Cond.static y).before args s = true) (hinit : (Cond.initialized y.cls).before args s = true)
    (hcode : (Cond.code y bytes maxL ret).before args s = true) (hy : y.cls ≠ "java/lang/invoke/MethodHandle" ∧ y.cls ≠ "java/lang/invoke/VarHandle")
    {W9 : Nat} {Pre : Pt → Array Value → Prop} {Post : Pt → Array Value → Option Value → Pt → Prop} {PostX : Pt → Array Value → Addr → Pt → Prop} (hK : vx_Back l R p e below s args y 3 W9 Pre Post PostX)
    {g : JFrame} (hg : g.method = m) (hsize : g.locals.size = c.maxLocals) {argsL rest : List Value} (hlen : ∀ sig, parseMethodDescriptor y.desc = some sig → argsL.length = sig.parameters.length)
    (hstack : g.stack = argsL.reverse ++ rest) (hW : 2 * g.monitorRoom + (rest.map fun v => v.category).sum ≤ W9) (hdg : decode c.code g.pc = .ok (.invokestatic index, 3))
    (hpre : ∀ vm₁, s.WarmedH vm₁ → Pre ⟨T.setVm vm₁, locs, cells, slots⟩ argsL.toArray) :
    (∃ (v : Option Value) (vm₁ : Vm) (B : Pt), s.WarmedH vm₁ ∧ Stand p l e R s m args below meth c B.U B.locs B.cells B.slots ∧ Post ⟨T.setVm vm₁, locs, cells, slots⟩ argsL.toArray v B ∧
      ∀ target, Steps p.tables e below (B.U.setTop { g with pc := g.pc + 3, stack := v.toList ++ rest }) target → Steps p.tables e below (T.setTop g) target) ∨
    (∃ (q : Addr) (vm₁ : Vm) (B : Pt), s.WarmedH vm₁ ∧ Stand p l e R s m args below meth c B.U B.locs B.cells B.slots ∧ PostX ⟨T.setVm vm₁, locs, cells, slots⟩ argsL.toArray q B ∧
      Steps p.tables e below (T.setTop g) ((B.U.setTop { g with stack := rest }).pushFrame (.throwing q))) := by
  obtain ⟨mk, hnamed⟩ := Cond.code_named hcode
  obtain ⟨methM, cM, hmethM, -, -, -, -, -, -, hsigM⟩ := Cond.code_spec hnamed hcode
  have hstatic : methM.isStatic = true := Cond.static_spec hnamed hmethM hstat
  obtain ⟨kP, hkP, -⟩ := className_of_methodNamed hnamed
  have hinitP : kP.init = .initialized := Cond.initialized_spec (findClass_of_methodNamed hnamed) hkP hinit
  obtain ⟨vm₁, X₁, hstep₁⟩ := X.invokestatic hexec hown hlink hnamed hmethM hstatic hkP hinitP hy (g := g) hg (argsL := argsL) (rest := rest) (hlen _ hsigM) hstack hdg
  rcases hK m meth c ⟨T.setVm vm₁, locs, cells, slots⟩ { g with stack := rest } (.invokestatic index) mk argsL.toArray X₁ hg hsize hdg hW (X₁.named hnamed) (hpre vm₁ X₁.warmed) with ⟨v, B, X', hpost, hsteps⟩ | ⟨q, B, X', hpost, hsteps⟩
  · exact Or.inl ⟨v, vm₁, B, X₁.warmed, X', hpost, fun target h => hstep₁ _ fun acts => by rw [doInvoke_state]; exact hsteps.trans h⟩
  · exact Or.inr ⟨q, vm₁, B, X₁.warmed, X', hpost, hstep₁ _ fun acts => by rw [doInvoke_state]; exact hsteps⟩
end Calls
theorem vx_cls {s : State} {T : State} {vm₁ : Vm} {E : String} {k : ClassId} (hW : s.WarmedH vm₁) (h : (T.setVm vm₁).vm.findClass E = some k) : s.vm.findClass E = some k := by
  have h1 : vm₁.findClass E = some k := h
  rw [hW.alike.findClass] at h1
  exact h1
/-- the method's frame g, with q thrown over it -/
def vx_W (p : Program) (l : Launch) (e : Env) (R : Room) (s : State) (m : MethodId) (args : Array Value) (below : List Frame) (meth : Method) (c : Code) (H : Heap) (locs : List Loc) (cells slots : Nat) (Q : State → Prop) (g : JFrame) (q : Addr) : Prop :=
  ∀ T : State, T.heap = H → Stand p l e R s m args below meth c T locs cells slots → ∃ t, Steps p.tables e below ((T.setTop g).pushFrame (.throwing q)) t ∧ Q t
def vx_Run (p : Program) (l : Launch) (e : Env) (R : Room) (s : State) (m : MethodId) (args : Array Value) (below : List Frame) (meth : Method) (c : Code) (H : Heap) (locs : List Loc) (cells slots mc ms : Nat) (g : JFrame) (rest : List Value) (Qa : State → Outcome → State → Prop) (XC : String → State → State → Prop) (free : Addr → Prop) : Prop :=
  ∀ T : State, T.heap = H → Stand p l e R s m args below meth c T locs cells slots →
    (∃ (v : Option Value) (st₀ t T' : State) (L : List Loc), st₀.heap = H ∧ Stand p l e R s m args below meth c T' (locs ++ L) (cells + mc) (slots + ms) ∧ (∀ q ∈ L, free q.base) ∧ T'.heap = t.heap ∧ T'.vm = t.vm ∧ Qa st₀ (.returned v) t ∧
      Goes p e below T g T' { g with pc := g.pc + 3, stack := v.toList ++ rest }) ∨
    (∃ (q : Addr) (st₀ t T' : State) (L : List Loc) (E : String) (ce : Cell), st₀.heap = H ∧ Stand p l e R s m args below meth c T' (locs ++ L) (cells + mc) (slots + ms) ∧ (∀ z ∈ L, free z.base) ∧ T'.heap = t.heap ∧ T'.vm = t.vm ∧ XC E st₀ t ∧ t.heap[q]? = some ce ∧ ce.vm = .none ∧ s.vm.findClass E = some ce.cls ∧
      Steps p.tables e below (T.setTop g) ((T'.setTop { g with stack := rest }).pushFrame (.throwing q)))
def vx_X {S : Type} (px : S → Prop) (B : String → S → State → Prop) (A : Nat → Prop) : String → State → State → Prop := fun E st t => ∃ u : S, px u ∧ B E u t ∧ va_F A st t
section Runs
variable {p : Program} {l : Launch} {e : Env} {R : Room} {s : State} {m : MethodId} {args : Array Value} {below : List Frame} {meth : Method} {c : Code} {H : Heap} {locs : List Loc} {cells slots : Nat}
variable {y : MethodName} {bytes cc : ByteArray} {maxL nL mc ms n index : Nat} {ret : Option FieldType} {ws : List Cond} {rm : Room} {Pc : Array Value → State → Prop} {Qc : Array Value → State → Outcome → State → Prop} {XC : String → State → State → Prop} {free : Addr → Prop} {Ts : List Cond} {own C : String} {b : Addr} {As rest : List Value} {g : JFrame}
theorem vx_callBack (cb : CallB R s args own index y bytes maxL ret ws rm mc ms n) (hM : vx_Met l y ws rm Pc Qc XC mc ms free) (hbl : FrameBlind Pc) : vx_Back l R p e below s args y 3 8 (PreOf R mc ms Pc) (PostOf Qc mc ms free) (vx_Post XC mc ms free) := by
  obtain ⟨hrc, hrs, hfr, hlo, hws, hcw, -, hini, -⟩ := cb
  exact vx_back (bytes := bytes) (maxL := maxL) (ret := ret) hM hbl hrc hrs hfr hlo hws hcw (fun a' U hW => word_at hW (Or.inl (by first | rfl | simp [Cond.onTables, Cond.keeps, Cond.steady])) hini)
theorem vx_runV (S : CallFix p m c cc nL s args Ts own) (hM : vx_Met l y ws rm Pc Qc XC mc ms free) (cw : CallW R s args own C index y bytes maxL ret ws rm mc ms n) (hp : PreV s H C b Pc As)
    (hg : g.method = m) (hn : As.length = n) (hsize : g.locals.size = nL) (hstack : g.stack = As.reverse ++ .ref b :: rest) (hW : 2 * g.monitorRoom + (rest.map fun v => v.category).sum ≤ 8) (hdg : decode cc g.pc = .ok (.invokevirtual index, 3)) (hf : cells + mc ≤ R.cells ∧ slots + ms ≤ R.slots) :
    vx_Run p l e R s m args below meth c H locs cells slots mc ms g rest (Qc (Value.ref b :: As).toArray) XC free := by
  have hK : vx_Back l R p e below s args y 3 8 (PreOf R mc ms Pc) (PostOf Qc mc ms free) (vx_Post XC mc ms free) := vx_callBack cw.1 hM hp.1
  obtain ⟨⟨-, -, -, -, -, -, hcode, -, hy, hlen, hl⟩, hin, hse⟩ := cw
  obtain ⟨hx, hb, hml, ho, -⟩ := S
  obtain ⟨-, ⟨cellB, hcB, hoB, hclB⟩, hPc⟩ := hp
  intro T hT X
  rcases vx_callV X hx (C := C) (bytes := bytes) (maxL := maxL) (ret := ret) ho hl hin hse hcode hy hK (by rw [hT]; exact hcB) hoB hclB hg (hsize.trans hml.symm) (argsL := As) (rest := rest) (fun sig h => hn.trans (hlen sig h)) hstack hW (by rw [hb]; exact hdg)
    (fun vm₁ hW₁ => ⟨hf.1, hf.2, hPc (T.setVm vm₁) hT hW₁⟩) with ⟨v, vm₁, ⟨U', l2, c2, s2⟩, hW₁, X', ⟨g', mk, t, L, e1, e2, hq, h1, hL, h2, h3⟩, st⟩ | ⟨q, vm₁, ⟨U', l2, c2, s2⟩, hW₁, X', ⟨g', mk, t, L, E, ce, e1, e2, hq, hce, hcv, hcl, h1, hL, h2, h3⟩, st⟩
  · dsimp only [Pt.U, Pt.locs, Pt.cells, Pt.slots] at X' e1 e2 h1 h2 h3 st
    subst h1; subst h2; subst h3
    exact Or.inl ⟨v, (T.setVm vm₁).calling g' mk (Value.ref b :: As).toArray, t, U', L, hT, X', hL, e1, e2, hq, st⟩
  · dsimp only [Pt.U, Pt.locs, Pt.cells, Pt.slots] at X' e1 e2 h1 h2 h3 st hcl
    subst h1; subst h2; subst h3
    exact Or.inr ⟨q, (T.setVm vm₁).calling g' mk (Value.ref b :: As).toArray, t, U', L, E, ce, hT, X', hL, e1, e2, hq, hce, hcv, vx_cls hW₁ hcl, st⟩
theorem vx_runS (S : CallFix p m c cc nL s args Ts own) (hM : vx_Met l y ws rm Pc Qc XC mc ms free) (cw : CallB R s args own index y bytes maxL ret ws rm mc ms n ∧ (Cond.static y).before args s = true) (hp : PreS s H Pc As)
    (hg : g.method = m) (hn : As.length = n) (hsize : g.locals.size = nL) (hstack : g.stack = As.reverse ++ rest) (hW : 2 * g.monitorRoom + (rest.map fun v => v.category).sum ≤ 8) (hdg : decode cc g.pc = .ok (.invokestatic index, 3)) (hf : cells + mc ≤ R.cells ∧ slots + ms ≤ R.slots) :
    vx_Run p l e R s m args below meth c H locs cells slots mc ms g rest (Qc As.toArray) XC free := by
  have hK : vx_Back l R p e below s args y 3 8 (PreOf R mc ms Pc) (PostOf Qc mc ms free) (vx_Post XC mc ms free) := vx_callBack cw.1 hM hp.1
  obtain ⟨⟨-, -, -, -, -, -, hcode, hini, hy, hlen, hl⟩, hstt⟩ := cw
  obtain ⟨hx, hb, hml, ho, -⟩ := S
  intro T hT X
  rcases vx_callS X hx (bytes := bytes) (maxL := maxL) (ret := ret) ho hl hstt hini hcode hy hK hg (hsize.trans hml.symm) (argsL := As) (rest := rest) (fun sig h => hn.trans (hlen sig h)) hstack hW (by rw [hb]; exact hdg)
    (fun vm₁ hW₁ => ⟨hf.1, hf.2, hp.2 (T.setVm vm₁) hT hW₁⟩) with ⟨v, vm₁, ⟨U', l2, c2, s2⟩, hW₁, X', ⟨g', mk, t, L, e1, e2, hq, h1, hL, h2, h3⟩, st⟩ | ⟨q, vm₁, ⟨U', l2, c2, s2⟩, hW₁, X', ⟨g', mk, t, L, E, ce, e1, e2, hq, hce, hcv, hcl, h1, hL, h2, h3⟩, st⟩
  · dsimp only [Pt.U, Pt.locs, Pt.cells, Pt.slots] at X' e1 e2 h1 h2 h3 st
    subst h1; subst h2; subst h3
    exact Or.inl ⟨v, (T.setVm vm₁).calling g' mk As.toArray, t, U', L, hT, X', hL, e1, e2, hq, st⟩
  · dsimp only [Pt.U, Pt.locs, Pt.cells, Pt.slots] at X' e1 e2 h1 h2 h3 st hcl
    subst h1; subst h2; subst h3
    exact Or.inr ⟨q, (T.setVm vm₁).calling g' mk As.toArray, t, U', L, E, ce, hT, X', hL, e1, e2, hq, hce, hcv, vx_cls hW₁ hcl, st⟩
end Runs
section Rows
variable {p : Program} {l : Launch} {e : Env} {R : Room} {s : State} {m : MethodId} {args : Array Value} {below : List Frame} {meth : Method} {c : Code} {H : Heap} {locs : List Loc} {cells slots : Nat} {Q : State → Prop}
variable {mc ms : Nat} {free : Addr → Prop} {A0 A1 : Nat → Prop} {H0 : Heap} {a : Array Value} {pc : Nat} {ls : Array Slot} {st0 rest : List Value}
theorem vx_keep {st₀ t T' : State} {L : List Loc} (h0 : st₀.heap = H) (e1 : T'.heap = t.heap) (hS : va_S A0 H0 H locs) (hA : ∀ q, q < H.size → A1 q → A0 q) (hf : ∀ q, free q → A0 q) (hL : ∀ q ∈ L, free q.base) (hF : va_F A1 st₀ t) :
    H.size ≤ T'.heap.size ∧ (∀ q : Nat, q < H.size → ¬ A1 q → T'.heap[q]? = H[q]?) ∧ va_S A0 H0 T'.heap (locs ++ L) := by
  obtain ⟨hz, hk⟩ := hF
  rw [h0] at hz hk
  exact ⟨by rw [e1]; exact hz, fun q h1 h2 => by rw [e1]; exact hk q h1 h2,
    ⟨Nat.le_trans hS.1 (by rw [e1]; exact hz), fun q h1 h2 => by rw [e1, hk q (Nat.lt_of_lt_of_le h1 hS.1) (fun z => h2 (hA q (Nat.lt_of_lt_of_le h1 hS.1) z))]; exact hS.2.1 q h1 h2, fun q hq => by
      rcases List.mem_append.mp hq with h | h
      · exact hS.2.2 q h
      · exact hf _ (hL q h)⟩⟩
theorem vx_calli {S SX : Type} {post : Int32 → S → Prop} {px : SX → Prop} {B : S → State → Prop} {BX : String → SX → State → Prop} {AX : Nat → Prop} (hr : vx_Run p l e R s m args below meth c H locs cells slots mc ms (F0 m pc ls st0) rest (va_Qi post B A1 a) (vx_X px BX AX) free) (hS : va_S A0 H0 H locs) (hA : ∀ q, q < H.size → A1 q → A0 q) (hf : ∀ q, free q → A0 q) (hAX : ∀ q, q < H.size → AX q → A0 q)
    (kx : ∀ (E : String) (ce : Cell) (q9 : Addr) (u : SX) (t : State) (H1 : Heap) (locs1 : List Loc), t.heap = H1 → s.vm.Alike t.vm → px u → BX E u t → H.size ≤ H1.size → (∀ q : Nat, q < H.size → ¬ AX q → H1[q]? = H[q]?) → va_S A0 H0 H1 locs1 → H1[q9]? = some ce → ce.vm = .none → s.vm.findClass E = some ce.cls → vx_W p l e R s m args below meth c H1 locs1 (cells + mc) (slots + ms) Q (F0 m pc ls rest) q9)
    (kk : ∀ (r : Int32) (u : S) (t : State) (H1 : Heap) (locs1 : List Loc), t.heap = H1 → s.vm.Alike t.vm → post r u → B u t → H.size ≤ H1.size → (∀ q : Nat, q < H.size → ¬ A1 q → H1[q]? = H[q]?) → va_S A0 H0 H1 locs1 → W p l e R s m args below meth c H1 locs1 (cells + mc) (slots + ms) Q (F0 m (pc + 3) ls (.int r :: rest))) : W p l e R s m args below meth c H locs cells slots Q (F0 m pc ls st0) := by
  intro T hT X
  rcases hr T hT X with ⟨v, st₀, t, T', L, h0, X', hL, e1, e2, ⟨⟨r, u, hv, hp, hb⟩, hF⟩, st⟩ | ⟨q, st₀, t, T', L, E, ce, h0, X', hL, e1, e2, ⟨u, hp, hb, hF⟩, hce, hcv, hcl, st⟩
  · cases hv
    obtain ⟨k1, k2, k3⟩ := vx_keep h0 e1 hS hA hf hL hF
    obtain ⟨t2, a1, b1⟩ := kk r u t T'.heap (locs ++ L) e1.symm (by rw [← e2]; exact X'.warmed.alike) hp hb k1 k2 k3 T' rfl X'
    exact ⟨t2, st t2 a1, b1⟩
  · obtain ⟨k1, k2, k3⟩ := vx_keep h0 e1 hS hAX hf hL hF
    obtain ⟨t2, a1, b1⟩ := kx E ce q u t T'.heap (locs ++ L) e1.symm (by rw [← e2]; exact X'.warmed.alike) hp hb k1 k2 k3 (by rw [e1]; exact hce) hcv hcl T' rfl X'
    exact ⟨t2, st.trans a1, b1⟩
theorem vx_calll {S SX : Type} {post : Int64 → S → Prop} {px : SX → Prop} {B : S → State → Prop} {BX : String → SX → State → Prop} {AX : Nat → Prop} (hr : vx_Run p l e R s m args below meth c H locs cells slots mc ms (F0 m pc ls st0) rest (va_Ql post B A1 a) (vx_X px BX AX) free) (hS : va_S A0 H0 H locs) (hA : ∀ q, q < H.size → A1 q → A0 q) (hf : ∀ q, free q → A0 q) (hAX : ∀ q, q < H.size → AX q → A0 q)
    (kx : ∀ (E : String) (ce : Cell) (q9 : Addr) (u : SX) (t : State) (H1 : Heap) (locs1 : List Loc), t.heap = H1 → s.vm.Alike t.vm → px u → BX E u t → H.size ≤ H1.size → (∀ q : Nat, q < H.size → ¬ AX q → H1[q]? = H[q]?) → va_S A0 H0 H1 locs1 → H1[q9]? = some ce → ce.vm = .none → s.vm.findClass E = some ce.cls → vx_W p l e R s m args below meth c H1 locs1 (cells + mc) (slots + ms) Q (F0 m pc ls rest) q9)
    (kk : ∀ (r : Int64) (u : S) (t : State) (H1 : Heap) (locs1 : List Loc), t.heap = H1 → s.vm.Alike t.vm → post r u → B u t → H.size ≤ H1.size → (∀ q : Nat, q < H.size → ¬ A1 q → H1[q]? = H[q]?) → va_S A0 H0 H1 locs1 → W p l e R s m args below meth c H1 locs1 (cells + mc) (slots + ms) Q (F0 m (pc + 3) ls (.long r :: rest))) : W p l e R s m args below meth c H locs cells slots Q (F0 m pc ls st0) := by
  intro T hT X
  rcases hr T hT X with ⟨v, st₀, t, T', L, h0, X', hL, e1, e2, ⟨⟨r, u, hv, hp, hb⟩, hF⟩, st⟩ | ⟨q, st₀, t, T', L, E, ce, h0, X', hL, e1, e2, ⟨u, hp, hb, hF⟩, hce, hcv, hcl, st⟩
  · cases hv
    obtain ⟨k1, k2, k3⟩ := vx_keep h0 e1 hS hA hf hL hF
    obtain ⟨t2, a1, b1⟩ := kk r u t T'.heap (locs ++ L) e1.symm (by rw [← e2]; exact X'.warmed.alike) hp hb k1 k2 k3 T' rfl X'
    exact ⟨t2, st t2 a1, b1⟩
  · obtain ⟨k1, k2, k3⟩ := vx_keep h0 e1 hS hAX hf hL hF
    obtain ⟨t2, a1, b1⟩ := kx E ce q u t T'.heap (locs ++ L) e1.symm (by rw [← e2]; exact X'.warmed.alike) hp hb k1 k2 k3 (by rw [e1]; exact hce) hcv hcl T' rfl X'
    exact ⟨t2, st.trans a1, b1⟩
theorem vx_callf {S SX : Type} {post : UInt32 → S → Prop} {px : SX → Prop} {B : S → State → Prop} {BX : String → SX → State → Prop} {AX : Nat → Prop} (hr : vx_Run p l e R s m args below meth c H locs cells slots mc ms (F0 m pc ls st0) rest (va_Qf post B A1 a) (vx_X px BX AX) free) (hS : va_S A0 H0 H locs) (hA : ∀ q, q < H.size → A1 q → A0 q) (hf : ∀ q, free q → A0 q) (hAX : ∀ q, q < H.size → AX q → A0 q)
    (kx : ∀ (E : String) (ce : Cell) (q9 : Addr) (u : SX) (t : State) (H1 : Heap) (locs1 : List Loc), t.heap = H1 → s.vm.Alike t.vm → px u → BX E u t → H.size ≤ H1.size → (∀ q : Nat, q < H.size → ¬ AX q → H1[q]? = H[q]?) → va_S A0 H0 H1 locs1 → H1[q9]? = some ce → ce.vm = .none → s.vm.findClass E = some ce.cls → vx_W p l e R s m args below meth c H1 locs1 (cells + mc) (slots + ms) Q (F0 m pc ls rest) q9)
    (kk : ∀ (r : UInt32) (u : S) (t : State) (H1 : Heap) (locs1 : List Loc), t.heap = H1 → s.vm.Alike t.vm → post r u → B u t → H.size ≤ H1.size → (∀ q : Nat, q < H.size → ¬ A1 q → H1[q]? = H[q]?) → va_S A0 H0 H1 locs1 → W p l e R s m args below meth c H1 locs1 (cells + mc) (slots + ms) Q (F0 m (pc + 3) ls (.float r :: rest))) : W p l e R s m args below meth c H locs cells slots Q (F0 m pc ls st0) := by
  intro T hT X
  rcases hr T hT X with ⟨v, st₀, t, T', L, h0, X', hL, e1, e2, ⟨⟨r, u, hv, hp, hb⟩, hF⟩, st⟩ | ⟨q, st₀, t, T', L, E, ce, h0, X', hL, e1, e2, ⟨u, hp, hb, hF⟩, hce, hcv, hcl, st⟩
  · cases hv
    obtain ⟨k1, k2, k3⟩ := vx_keep h0 e1 hS hA hf hL hF
    obtain ⟨t2, a1, b1⟩ := kk r u t T'.heap (locs ++ L) e1.symm (by rw [← e2]; exact X'.warmed.alike) hp hb k1 k2 k3 T' rfl X'
    exact ⟨t2, st t2 a1, b1⟩
  · obtain ⟨k1, k2, k3⟩ := vx_keep h0 e1 hS hAX hf hL hF
    obtain ⟨t2, a1, b1⟩ := kx E ce q u t T'.heap (locs ++ L) e1.symm (by rw [← e2]; exact X'.warmed.alike) hp hb k1 k2 k3 (by rw [e1]; exact hce) hcv hcl T' rfl X'
    exact ⟨t2, st.trans a1, b1⟩
theorem vx_calld {S SX : Type} {post : UInt64 → S → Prop} {px : SX → Prop} {B : S → State → Prop} {BX : String → SX → State → Prop} {AX : Nat → Prop} (hr : vx_Run p l e R s m args below meth c H locs cells slots mc ms (F0 m pc ls st0) rest (va_Qd post B A1 a) (vx_X px BX AX) free) (hS : va_S A0 H0 H locs) (hA : ∀ q, q < H.size → A1 q → A0 q) (hf : ∀ q, free q → A0 q) (hAX : ∀ q, q < H.size → AX q → A0 q)
    (kx : ∀ (E : String) (ce : Cell) (q9 : Addr) (u : SX) (t : State) (H1 : Heap) (locs1 : List Loc), t.heap = H1 → s.vm.Alike t.vm → px u → BX E u t → H.size ≤ H1.size → (∀ q : Nat, q < H.size → ¬ AX q → H1[q]? = H[q]?) → va_S A0 H0 H1 locs1 → H1[q9]? = some ce → ce.vm = .none → s.vm.findClass E = some ce.cls → vx_W p l e R s m args below meth c H1 locs1 (cells + mc) (slots + ms) Q (F0 m pc ls rest) q9)
    (kk : ∀ (r : UInt64) (u : S) (t : State) (H1 : Heap) (locs1 : List Loc), t.heap = H1 → s.vm.Alike t.vm → post r u → B u t → H.size ≤ H1.size → (∀ q : Nat, q < H.size → ¬ A1 q → H1[q]? = H[q]?) → va_S A0 H0 H1 locs1 → W p l e R s m args below meth c H1 locs1 (cells + mc) (slots + ms) Q (F0 m (pc + 3) ls (.double r :: rest))) : W p l e R s m args below meth c H locs cells slots Q (F0 m pc ls st0) := by
  intro T hT X
  rcases hr T hT X with ⟨v, st₀, t, T', L, h0, X', hL, e1, e2, ⟨⟨r, u, hv, hp, hb⟩, hF⟩, st⟩ | ⟨q, st₀, t, T', L, E, ce, h0, X', hL, e1, e2, ⟨u, hp, hb, hF⟩, hce, hcv, hcl, st⟩
  · cases hv
    obtain ⟨k1, k2, k3⟩ := vx_keep h0 e1 hS hA hf hL hF
    obtain ⟨t2, a1, b1⟩ := kk r u t T'.heap (locs ++ L) e1.symm (by rw [← e2]; exact X'.warmed.alike) hp hb k1 k2 k3 T' rfl X'
    exact ⟨t2, st t2 a1, b1⟩
  · obtain ⟨k1, k2, k3⟩ := vx_keep h0 e1 hS hAX hf hL hF
    obtain ⟨t2, a1, b1⟩ := kx E ce q u t T'.heap (locs ++ L) e1.symm (by rw [← e2]; exact X'.warmed.alike) hp hb k1 k2 k3 (by rw [e1]; exact hce) hcv hcl T' rfl X'
    exact ⟨t2, st.trans a1, b1⟩
theorem vx_callv {S SX : Type} {post : S → Prop} {px : SX → Prop} {B : S → State → Prop} {BX : String → SX → State → Prop} {AX : Nat → Prop} (hr : vx_Run p l e R s m args below meth c H locs cells slots mc ms (F0 m pc ls st0) rest (va_Qv post B A1 a) (vx_X px BX AX) free) (hS : va_S A0 H0 H locs) (hA : ∀ q, q < H.size → A1 q → A0 q) (hf : ∀ q, free q → A0 q) (hAX : ∀ q, q < H.size → AX q → A0 q)
    (kx : ∀ (E : String) (ce : Cell) (q9 : Addr) (u : SX) (t : State) (H1 : Heap) (locs1 : List Loc), t.heap = H1 → s.vm.Alike t.vm → px u → BX E u t → H.size ≤ H1.size → (∀ q : Nat, q < H.size → ¬ AX q → H1[q]? = H[q]?) → va_S A0 H0 H1 locs1 → H1[q9]? = some ce → ce.vm = .none → s.vm.findClass E = some ce.cls → vx_W p l e R s m args below meth c H1 locs1 (cells + mc) (slots + ms) Q (F0 m pc ls rest) q9)
    (kk : ∀ (u : S) (t : State) (H1 : Heap) (locs1 : List Loc), t.heap = H1 → s.vm.Alike t.vm → post u → B u t → H.size ≤ H1.size → (∀ q : Nat, q < H.size → ¬ A1 q → H1[q]? = H[q]?) → va_S A0 H0 H1 locs1 → W p l e R s m args below meth c H1 locs1 (cells + mc) (slots + ms) Q (F0 m (pc + 3) ls (rest))) : W p l e R s m args below meth c H locs cells slots Q (F0 m pc ls st0) := by
  intro T hT X
  rcases hr T hT X with ⟨v, st₀, t, T', L, h0, X', hL, e1, e2, ⟨⟨u, hv, hp, hb⟩, hF⟩, st⟩ | ⟨q, st₀, t, T', L, E, ce, h0, X', hL, e1, e2, ⟨u, hp, hb, hF⟩, hce, hcv, hcl, st⟩
  · cases hv
    obtain ⟨k1, k2, k3⟩ := vx_keep h0 e1 hS hA hf hL hF
    obtain ⟨t2, a1, b1⟩ := kk u t T'.heap (locs ++ L) e1.symm (by rw [← e2]; exact X'.warmed.alike) hp hb k1 k2 k3 T' rfl X'
    exact ⟨t2, st t2 a1, b1⟩
  · obtain ⟨k1, k2, k3⟩ := vx_keep h0 e1 hS hAX hf hL hF
    obtain ⟨t2, a1, b1⟩ := kx E ce q u t T'.heap (locs ++ L) e1.symm (by rw [← e2]; exact X'.warmed.alike) hp hb k1 k2 k3 (by rw [e1]; exact hce) hcv hcl T' rfl X'
    exact ⟨t2, st.trans a1, b1⟩
end Rows
section Ends
variable {p : Program} {l : Launch} {e : Env} {R : Room} {s : State} {m : MethodId} {args : Array Value} {below : List Frame} {meth : Method} {c : Code} {H : Heap} {locs : List Loc} {cells slots : Nat} {Q : State → Prop}
variable {mc ms : Nat} {free : Addr → Prop} {A0 A1 : Nat → Prop} {H0 : Heap} {a : Array Value} {ls : Array Slot} {st0 rest : List Value}
variable {Qc : Array Value → State → Outcome → State → Prop} {XC : String → State → State → Prop}
/-- what a body that may throw owes at its end -/
def vx_MQ (below : List Frame) (Qc : Array Value → State → Outcome → State → Prop) (XC : String → State → State → Prop) (a : Array Value) (s : State) (mc ms : Nat) (free : Addr → Prop) : State → Prop := fun t =>
  ∃ o, t.status = .running ∧ Ended t below o ∧ vx_Q Qc XC mc ms free a s o t
theorem vx_ret {g : JFrame} {mc ms : Nat} (k : W p l e R s m args below meth c H locs cells slots (MQ below Qc args s mc ms free) g) : W p l e R s m args below meth c H locs cells slots (vx_MQ below Qc XC args s mc ms free) g := by
  intro T hT X
  obtain ⟨t, a1, o, b1, b2, b3, b4⟩ := k T hT X
  exact ⟨t, a1, o, b1, b2, Or.inl ⟨b3, b4⟩⟩
/-- not caught here: it goes on to the caller -/
theorem vx_widen {g : JFrame} {q : Addr} {k n : Nat} (h1 : cells ≤ k) (h2 : slots ≤ n) (kk : vx_W p l e R s m args below meth c H locs k n Q g q) : vx_W p l e R s m args below meth c H locs cells slots Q g q := fun T hT X => kk T hT (stand_widen X h1 h2)
theorem vx_out {pc : Nat} {E : String} {ce : Cell} {q : Addr} {mc ms : Nat} (hout : ∀ x ∈ c.exceptionTable.toList, covers x pc = false) (hlocks : meth.locks = false) (hcell : H[q]? = some ce) (hv : ce.vm = .none) (hcl : s.vm.findClass E = some ce.cls)
    (hx : ∀ t : State, t.heap = H → s.vm.Alike t.vm → XC E s t) (hf : ∀ z ∈ locs, free z.base) (hc : cells ≤ mc) (hs : slots ≤ ms) :
    vx_W p l e R s m args below meth c H locs cells slots (vx_MQ below Qc XC args s mc ms free) (F0 m pc ls rest) q := by
  intro T hT X
  obtain ⟨st1, hrun, hend, hW, hsm⟩ := X.leaveThrown q (g := F0 m pc ls rest) rfl rfl rfl hout hlocks
  have hcell9 : (T.setFrames (.throwing q :: below)).heap[q]? = some ce := by
    show T.heap[q]? = some ce
    rw [hT]; exact hcell
  exact ⟨_, st1, .threw q, hrun, hend, Or.inr ⟨q, rfl, E, ce, locs, hx _ hT hW.alike, hcell9, hv, hcl, hW, hsm.mono hc hs, hf⟩⟩
theorem vx_frame {U : State} {k n : Nat} (h : s.sameButNew ({ U with vm := s.vm } : State) locs k n) : s.heap.size ≤ U.heap.size ∧ ∀ q : Nat, q < s.heap.size → (∀ z ∈ locs, z.base ≠ q) → U.heap[q]? = s.heap[q]? := by
  obtain ⟨-, h2, -, -, -, h6⟩ := h
  refine ⟨h2, fun q hq hz => ?_⟩
  obtain ⟨c9, e1, e2, e3, e4⟩ := h6 q _ (Array.getElem?_eq_getElem hq)
  have hs : c9.slots = (s.heap[q]).slots := Array.ext_getElem? fun i => e4 i fun hm => hz _ hm rfl
  have h9 : c9 = s.heap[q] := by
    rw [hs] at e2
    exact e2
  have e5 : U.heap[q]? = some c9 := e1
  rw [e5, h9, Array.getElem?_eq_getElem hq]
/-- the words of a throw but the four that speak of the heap -/
def vx_no (w : Cond) : Bool := decide (w ≠ .isRef (.static Bundle.tN "UNASSIGNED_STACK" Bundle.steD)) && decide (w ≠ .isRef (.static Bundle.tN "SUPPRESSED_SENTINEL" Bundle.listD)) && decide (w ≠ .laysStatic Bundle.tN "UNASSIGNED_STACK" Bundle.steD) && decide (w ≠ .laysStatic Bundle.tN "SUPPRESSED_SENTINEL" Bundle.listD)
def vx_at0 (own : String) (ic : Nat) (X : String) (names : List String) : List Cond := (Bundle.ownAtoms0 own ic X names).filter vx_no
def vx_atS (own : String) (ic : Nat) (X : String) (names : List String) : List Cond := (Bundle.ownAtoms own ic X names).filter vx_no
/-- a word that the tables alone decide, or a good one -/
def vx_ot (w : Cond) : Bool := w.onTables || goodWord w
theorem vx_ot_at {args a' : Array Value} {s U : State} {w : Cond} (hW : s.WarmedH U.vm) (hvm : s.vm = U.vm) (hg : vx_ot w = true) (h : w.before args s = true) : w.before a' U = true := by
  simp only [vx_ot, Bool.or_eq_true] at hg
  rcases hg with hg | hg
  · exact va_tabs hg hvm h
  · exact word_at hW (good_of_word hg) h
/-- a list's words: the good ones out of the method's own list, the others by premises of their own -/
theorem vx_hat {args : Array Value} {s : State} {L B : List Cond} (h1 : ∀ w ∈ L.filter goodWord, w.before args s = true) (h2 : ∀ w ∈ L.filter (fun w => !goodWord w), w ∈ B) (h3 : ∀ w ∈ B, w.before args s = true) : ∀ w ∈ L, w.before args s = true := by
  intro w hw
  by_cases g : goodWord w = true
  · exact h1 w (List.mem_filter.mpr ⟨hw, g⟩)
  · refine h3 w (h2 w (List.mem_filter.mpr ⟨hw, ?_⟩))
    show (!goodWord w) = true
    cases hgw : goodWord w
    · rfl
    · exact absurd hgw g
theorem vx_c {args : Array Value} {s : State} {w : Cond} {B : List Cond} (h : w.before args s = true) (t : ∀ w ∈ B, w.before args s = true) : ∀ w' ∈ w :: B, w'.before args s = true := fun w' h' => (List.mem_cons.mp h').elim (fun e => by rw [e]; exact h) (t w')
theorem vx_n {args : Array Value} {s : State} : ∀ w ∈ ([] : List Cond), w.before args s = true := fun _ h => nomatch h
theorem vx_own {args : Array Value} {s : State} {L : List Cond} (h1 : ∀ w ∈ L.filter vx_no, w.before args s = true)
    (hU : (Cond.isRef (.static Bundle.tN "UNASSIGNED_STACK" Bundle.steD)).before args s = true) (hN : (Cond.isRef (.static Bundle.tN "SUPPRESSED_SENTINEL" Bundle.listD)).before args s = true)
    (lU : (Cond.laysStatic Bundle.tN "UNASSIGNED_STACK" Bundle.steD).before args s = true) (lN : (Cond.laysStatic Bundle.tN "SUPPRESSED_SENTINEL" Bundle.listD).before args s = true) : ∀ w ∈ L, w.before args s = true := by
  intro w hw
  by_cases e1 : w = .isRef (.static Bundle.tN "UNASSIGNED_STACK" Bundle.steD)
  · rw [e1]; exact hU
  · by_cases e2 : w = .isRef (.static Bundle.tN "SUPPRESSED_SENTINEL" Bundle.listD)
    · rw [e2]; exact hN
    · by_cases e3 : w = .laysStatic Bundle.tN "UNASSIGNED_STACK" Bundle.steD
      · rw [e3]; exact lU
      · by_cases e4 : w = .laysStatic Bundle.tN "SUPPRESSED_SENTINEL" Bundle.listD
        · rw [e4]; exact lN
        · exact h1 w (List.mem_filter.mpr ⟨hw, by unfold vx_no; rw [decide_eq_true e1, decide_eq_true e2, decide_eq_true e3, decide_eq_true e4]; rfl⟩)
/-- where a static field lies, its class's statics cell in H -/
def vx_L (C n d : String) (A : Nat → Prop) (U : State) (H : Heap) : Prop := ∃ (c : ClassId) (k : Class) (i : Nat) (f : Field) (a : Nat) (cell : Cell), U.vm.findClass C = some c ∧ U.fieldFound? C n d = some (c, k, i, f) ∧ f.isStatic = true ∧ k.statics = some a ∧ H[a]? = some cell ∧ cell.vm.isStatics = true ∧ cell.cls = c ∧ f.slot < cell.slots.size ∧ k.staticTypes[f.slot]? = some f.type ∧ ¬ A a
theorem vx_L.moved {C n d : String} {A : Nat → Prop} {u U : State} {H : Heap} (hvm : u.vm.Alike U.vm) (h : vx_L C n d A u H) : vx_L C n d A U H := by
  obtain ⟨c, k, i, f, a, cell, h1, h2, h3, h4, h5, h6, h7, h8, h9, h10⟩ := h
  obtain ⟨k', hi', he⟩ := State.fieldFound?_setVm hvm h2
  exact ⟨c, k', i, f, a, cell, by rw [hvm.findClass]; exact h1, hi', h3, by rw [he]; exact h4, h5, h6, h7, h8, by rw [he]; exact h9, h10⟩
theorem vx_L.kept {C n d : String} {A : Nat → Prop} {U : State} {H H1 : Heap} (h : vx_L C n d A U H) (hq : ∀ a : Nat, a < H.size → ¬ A a → H1[a]? = H[a]?) : vx_L C n d A U H1 := by
  obtain ⟨c, k, i, f, a, cell, h1, h2, h3, h4, h5, h6, h7, h8, h9, h10⟩ := h
  exact ⟨c, k, i, f, a, cell, h1, h2, h3, h4, by rw [hq a (Array.getElem?_eq_some_iff.mp h5).1 h10]; exact h5, h6, h7, h8, h9, h10⟩
theorem vx_L.narrow {C n d : String} {A B : Nat → Prop} {U : State} {H : Heap} (h : vx_L C n d A U H) (hAB : ∀ q, B q → A q) : vx_L C n d B U H := by
  obtain ⟨c, k, i, f, a, cell, h1, h2, h3, h4, h5, h6, h7, h8, h9, h10⟩ := h
  exact ⟨c, k, i, f, a, cell, h1, h2, h3, h4, h5, h6, h7, h8, h9, fun z => h10 (hAB _ z)⟩
theorem vx_L.word {C n d : String} {A : Nat → Prop} {s : State} {args : Array Value} (h : vx_L C n d A s s.heap) : (Cond.laysStatic C n d).before args s = true := by
  obtain ⟨c, k, i, f, a, cell, h1, h2, h3, h4, h5, h6, h7, h8, h9, -⟩ := h
  show (Cond.laysStatic C n d).holds args s none s [] = true
  exact Cond.laysStatic_of h1 h2 h3 h4 h5 h6 h7 h8 h9
/-- .. and what it holds: null or some reference -/
def vx_Zq (C n d : String) (A : Nat → Prop) (U : State) (H : Heap) : Prop := va_Zq C n d A U H ∧ vx_L C n d A U H
theorem vx_Zq.moved {C n d : String} {A : Nat → Prop} {u U : State} {H : Heap} (hvm : u.vm.Alike U.vm) (h : vx_Zq C n d A u H) : vx_Zq C n d A U H := ⟨va_Zq.moved hvm h.1, vx_L.moved hvm h.2⟩
theorem vx_Zq.kept {C n d : String} {A : Nat → Prop} {U : State} {H H1 : Heap} (h : vx_Zq C n d A U H) (hq : ∀ a : Nat, a < H.size → ¬ A a → H1[a]? = H[a]?) : vx_Zq C n d A U H1 := ⟨va_Zq.kept h.1 hq, vx_L.kept h.2 hq⟩
theorem vx_Zq.narrow {C n d : String} {A B : Nat → Prop} {U : State} {H : Heap} (h : vx_Zq C n d A U H) (hAB : ∀ q, B q → A q) : vx_Zq C n d B U H := ⟨va_Zq.narrow h.1 hAB, vx_L.narrow h.2 hAB⟩
theorem vx_Zqof {args : Array Value} {s : State} {C n d : String} {A : Nat → Prop} (hl : (Cond.laysStatic C n d).before args s = true) (hini : (Cond.initialized C).before args s = true) (h : (Cond.isRef (.static C n d)).before args s = true) (hA : ∀ a : Nat, a < s.heap.size → ¬ A a) : vx_Zq C n d A s s.heap := by
  refine ⟨va_Zqof hl hini h hA, ?_⟩
  obtain ⟨c, k, i, f, a, cell, h1, h2, h3, h4, h5, h6, h7, h8, h9⟩ := Cond.laysStatic_spec hl
  exact ⟨c, k, i, f, a, cell, h1, h2, h3, h4, h5, h6, h7, h8, h9, hA a (Array.getElem?_eq_some_iff.mp h5).1⟩
theorem vx_isRef {C n d : String} {v : Value} {A : Nat → Prop} {s : State} {args : Array Value} (h : va_Z C n d v A s s.heap) (hv : v.isRef = true) : (Cond.isRef (.static C n d)).before args s = true := by
  obtain ⟨cf, kf, fi, f, a, cell, h1, h2, h3, h4, h5, h6, h7, -⟩ := h
  have he : (Term.static C n d).eval args s none [] s = some v := by
    simp [Term.eval, State.fieldNamed?, h1, h2, h4, h5, h6, h7]
  simp only [Cond.before, Cond.holds, Cond.value, he]
  cases v <;> simp_all [Value.isRef]
theorem vx_isRefq {C n d : String} {A : Nat → Prop} {s : State} {args : Array Value} (h : va_Zq C n d A s s.heap) : (Cond.isRef (.static C n d)).before args s = true := by
  rcases h with h | ⟨t, h⟩
  · exact vx_isRef h rfl
  · exact vx_isRef h rfl
/-- the same frame, seen from here: as if the method were called anew in this heap -/
theorem vx_rebase {T : State} (X : Stand p l e R s m args below meth c T locs cells slots) {R' : Room} (hf : R'.frames ≤ R.frames) (hl : R'.locals ≤ R.locals) (hc : cells + R'.cells ≤ R.cells) (hs : slots + R'.slots ≤ R.slots) :
    Stand p l e R' ((T.setVm s.vm).setFrames (.invoking m args :: below)) m args below meth c T [] 0 0 := by
  have htop : (T.setVm s.vm).topJava?.isSome := X.here.top
  have hF : ((T.setVm s.vm).setFrames (.invoking m args :: below)).frames = .invoking m args :: below := State.frames_setFrames _ (State.cur_lt_of_top htop)
  obtain ⟨g₀, hg0⟩ := Option.isSome_iff_exists.mp htop
  obtain ⟨r, hr⟩ := State.topJava?_eq_some.mp hg0
  have hl9 : e.platform.stackLimits (T.setVm s.vm).me = e.platform.stackLimits s.me := X.limits
  have hb9 : (T.setVm s.vm).me.stackBytes = s.me.stackBytes := X.bytes
  refine ⟨X.admits, X.cas, X.clock, hF, ?_, X.hears, X.method, X.code, X.here, X.tail, X.warmed, ?_, ?_, ?_⟩
  · have h := X.room
    have hU : ((T.setVm s.vm).setFrames (.invoking m args :: below)).localsInUse = s.localsInUse := by
      rw [State.localsInUse_invoking hF (meth := meth) (c := c) X.method X.code, State.localsInUse_invoking X.frames X.method X.code]
    simp only [State.hasRoom, Bool.and_eq_true, decide_eq_true_eq] at h ⊢
    obtain ⟨⟨⟨⟨h1, h2, h3, h4, h5, h6⟩, h7⟩, h8⟩, h9⟩ := h
    rw [X.frames, List.length_cons] at h2 h3
    have q1 := X.heapSize
    have q2 := X.used
    simp only [hF, hU, List.length_cons, State.stackLimits_setFrames, State.stackBytes_setFrames, hl9, hb9]
    refine ⟨⟨⟨⟨by omega, by omega, by omega, by omega, by omega, h6⟩, ?_⟩, ?_⟩, X.book⟩
    · show T.heap.size + R'.cells ≤ e.platform.maxCells
      omega
    · show T.slotsUsed + R'.slots ≤ e.platform.maxSlots
      omega
  · rw [State.stackLimits_setFrames]; rfl
  · rw [State.stackBytes_setFrames]; rfl
  · refine ⟨?_, Nat.le_refl _, Nat.le_refl _, ?_, ?_, fun a c9 h9 => ⟨c9, h9, rfl, rfl, fun _ _ => rfl⟩⟩
    · obtain ⟨t, ht, -⟩ := State.frames_cons hr
      show T.setVm s.vm = { ((T.setVm s.vm).setFrames (.invoking m args :: below)).setFrames (T.setVm s.vm).frames with heap := T.heap, slotsUsed := T.slotsUsed }
      rw [State.setFrames_setFrames, State.setFrames_self ht]
      rfl
    · show T.slotsUsed = T.slotsUsed + ((T.heap.toList.drop T.heap.size).map (·.slots.size)).sum
      rw [List.drop_eq_nil_of_le (Nat.le_of_eq Array.length_toList)]
      rfl
    · show ((T.heap.toList.drop T.heap.size).map (·.slots.size)).sum ≤ 0
      rw [List.drop_eq_nil_of_le (Nat.le_of_eq Array.length_toList)]
      exact Nat.le_refl _
/-- 'throw new E()': new; dup; invokespecial; athrow -/
theorem vx_throw0 {cc : ByteArray} {pc : Nat} (hexec : p.tables.exec = Jvm.exec) (hb : c.code = cc) (hl : l.stackTraces = false) {own cls : String} {names : List String} {ik ic mc ms : Nat} {A : Nat → Prop}
    (hown : s.vm.findClass own = some m.cls) (hcls : Bundle.fit cls = true) (hnames : ∀ n ∈ names, Bundle.fit n = true)
    (hk : (Cond.classLink own ik cls).before args s = true) (hini : (Cond.initialized cls).before args s = true) (hat : ∀ w ∈ vx_at0 own ic cls names, w.before args s = true)
    (hgood : ∀ w ∈ Cond.classLink own ik cls :: Cond.initialized cls :: vx_at0 own ic cls names, vx_ot w = true)
    (hU : vx_Zq Bundle.tN "UNASSIGNED_STACK" Bundle.steD A s s.heap) (hN : vx_Zq Bundle.tN "SUPPRESSED_SENTINEL" Bundle.listD A s s.heap) (hS : va_S A s.heap H locs) (hsize : ls.size = c.maxLocals)
    (d0 : decode cc pc = .ok (.new ik, 3)) (d3 : decode cc (pc + 3) = .ok (.dup, 1)) (d4 : decode cc (pc + 4) = .ok (.invokespecial ic, 3)) (d7 : decode cc (pc + 7) = .ok (.athrow, 1))
    (hout : ∀ x ∈ c.exceptionTable.toList, covers x (pc + 7) = false)
    (hRframes : names.length + 3 < R.frames) (hRlocals : (rest.map fun v => v.category).sum + (13 * (names.length + 1) + 42) ≤ R.locals) (hRcells : cells + 1 ≤ R.cells) (hRslots : slots + 6 ≤ R.slots) (hlocks : meth.locks = false)
    (hx : ∀ t : State, s.vm.Alike t.vm → H.size ≤ t.heap.size → (∀ q : Nat, q < H.size → t.heap[q]? = H[q]?) → XC cls s t)
    (hf : ∀ z ∈ locs, free z.base) (hc : cells + 1 ≤ mc) (hs : slots + 6 ≤ ms) :
    W p l e R s m args below meth c H locs cells slots (vx_MQ below Qc XC args s mc ms free) (F0 m pc ls rest) := by
  intro T hT X
  have htr : e.platform.stackTraces = false := (show e.platform.stackTraces = l.stackTraces by rw [X.admits.platform]).trans hl
  have Y := vx_rebase X (R' := { frames := R.frames, locals := R.locals, cells := 1, slots := 6 }) (Nat.le_refl _) (Nat.le_refl _) hRcells hRslots
  obtain ⟨s', hA⟩ : ∃ z, z = (T.setVm s.vm).setFrames (.invoking m args :: below) := ⟨_, rfl⟩
  rw [← hA] at Y
  have hvm : s'.vm = s.vm := by rw [hA]; rfl
  have hhp : s'.heap = H := by rw [hA]; exact hT
  have hW0 : s.WarmedH s'.vm := by rw [hvm]; exact State.WarmedH.refl s
  have hat' : ∀ w ∈ vx_at0 own ic cls names, w.before args s' = true := fun w hw => vx_ot_at hW0 hvm.symm (hgood w (List.mem_cons_of_mem _ (List.mem_cons_of_mem _ hw))) (hat w hw)
  have hk' : (Cond.classLink own ik cls).before args s' = true := vx_ot_at hW0 hvm.symm (hgood _ List.mem_cons_self) hk
  have hini' : (Cond.initialized cls).before args s' = true := vx_ot_at hW0 hvm.symm (hgood _ (List.mem_cons_of_mem _ List.mem_cons_self)) hini
  have hU' : vx_Zq Bundle.tN "UNASSIGNED_STACK" Bundle.steD A s' s'.heap := by rw [hhp]; exact vx_Zq.moved hW0.alike (hU.kept hS.2.1)
  have hN' : vx_Zq Bundle.tN "SUPPRESSED_SENTINEL" Bundle.listD A s' s'.heap := by rw [hhp]; exact vx_Zq.moved hW0.alike (hN.kept hS.2.1)
  have h : ∀ w ∈ Bundle.ownAtoms0 own ic cls names, w.before args s' = true := vx_own hat' (vx_isRefq hU'.1) (vx_isRefq hN'.1) hU'.2.word hN'.2.word
  have hown' : s'.vm.findClass own = some m.cls := by rw [hvm]; exact hown
  have hins : (Cond.instantiable cls 6).before args s' = true := h _ (by simp [Bundle.ownAtoms0])
  obtain ⟨vm₁, cX, kX, hfX, hkX, -, -, X₁, st1⟩ := Y.newCold hexec (own := own) (C := cls) (index := ik) (n := 6) hown' hk' hins hini'
    (g := F0 m pc ls rest) rfl (by rw [hb]; exact d0) (Nat.le_refl _) (Nat.le_refl _)
  generalize hT1 : (T.setVm vm₁).pushCell { cls := cX, slots := kX.instanceTypes.map defaultValue, vm := .none } = T1 at X₁ st1
  have hcat : (Value.ref T.heap.size).category = 1 := rfl
  have hcellA : T1.heap[T.heap.size]? = some (freshCell cX kX) := by rw [← hT1]; exact State.heap_pushCell_size _ _
  have d3' : decode c.code (pc + 3) = .ok (.dup, 1) := by rw [hb]; exact d3
  obtain ⟨U, hsteps, hrun, hend, hW, hsame, ce, hce, hO⟩ := X₁.ctorThrow0 hexec htr (own := own) (cls := cls) (names := names) (ic := ic) hown' hcls hnames h (fun x hx => nomatch hx) hfX hkX hcellA (by rw [hhp, hT]; exact Nat.le_refl _)
    (g := { method := m, pc := pc + 4, locals := ls, stack := .ref T.heap.size :: .ref T.heap.size :: rest, locked := none }) rfl hsize rfl rfl (rest := rest) rfl
    (by rw [hb]; exact d4) (by rw [hb]; exact d7) hout hRframes (by simp only [List.map_cons, List.sum_cons, hcat]; omega) hlocks
  obtain ⟨f1, f2⟩ := vx_frame hsame
  rw [hhp] at f1 f2
  have hWs : s.WarmedH U.vm := State.WarmedH.trans hW0 hW
  have hcl : s.vm.findClass cls = some ce.cls := by
    have h9 := hO.cls
    rw [hvm] at h9
    exact h9
  have hall : s.sameButNew ({ U with vm := s.vm } : State) locs mc ms := by
    subst hA
    obtain ⟨e1, e2⟩ := hsame
    rw [State.setFrames_setFrames] at e1
    have h2 : (T.setVm s.vm).sameButNew ({ U with vm := s.vm } : State) [] (0 + 1) (0 + 6) := ⟨e1, e2⟩
    have h3 := X.same.trans h2
    rw [List.append_nil] at h3
    exact h3.mono hc hs
  refine ⟨U, ?_, .threw T.heap.size, hrun, hend, Or.inr ⟨T.heap.size, rfl, cls, ce, locs, hx U hWs.alike f1 (fun q hq => f2 q hq (fun z hz => nomatch hz)), hce, hO.vm, hcl, hWs, hall, hf⟩⟩
  refine st1 _ ?_
  show Steps p.tables e below (T1.setTop { method := m, pc := pc + 3, locals := ls, stack := .ref T.heap.size :: rest, locked := none }) _
  jvm_step X₁.here [X₁.here.top, hexec, d3', Value.category]
  exact hsteps
/-- 'throw new E("text")': new; dup; ldc; invokespecial; athrow -/
theorem vx_throwS {cc : ByteArray} {pc : Nat} (hexec : p.tables.exec = Jvm.exec) (hb : c.code = cc) (hl : l.stackTraces = false) {own cls text : String} {names : List String} {ik is ic mc ms sa : Nat} {A : Nat → Prop}
    (hown : s.vm.findClass own = some m.cls) (hcls : Bundle.fit cls = true) (hnames : ∀ n ∈ names, Bundle.fit n = true)
    (hk : (Cond.classLink own ik cls).before args s = true) (hini : (Cond.initialized cls).before args s = true) (hstr : vk_R own is text sa s) (hat : ∀ w ∈ vx_atS own ic cls names, w.before args s = true)
    (hgood : ∀ w ∈ Cond.classLink own ik cls :: Cond.initialized cls :: vx_atS own ic cls names, vx_ot w = true)
    (hU : vx_Zq Bundle.tN "UNASSIGNED_STACK" Bundle.steD A s s.heap) (hN : vx_Zq Bundle.tN "SUPPRESSED_SENTINEL" Bundle.listD A s s.heap) (hS : va_S A s.heap H locs) (hsize : ls.size = c.maxLocals)
    (d0 : decode cc pc = .ok (.new ik, 3)) (d3 : decode cc (pc + 3) = .ok (.dup, 1)) (d4 : decode cc (pc + 4) = .ok (.ldc is, 2)) (d6 : decode cc (pc + 6) = .ok (.invokespecial ic, 3)) (d9 : decode cc (pc + 9) = .ok (.athrow, 1))
    (hout : ∀ x ∈ c.exceptionTable.toList, covers x (pc + 9) = false)
    (hRframes : names.length + 3 < R.frames) (hRlocals : (rest.map fun v => v.category).sum + (13 * (names.length + 1) + 43) ≤ R.locals) (hRcells : cells + 1 ≤ R.cells) (hRslots : slots + 6 ≤ R.slots) (hlocks : meth.locks = false)
    (hx : ∀ t : State, s.vm.Alike t.vm → H.size ≤ t.heap.size → (∀ q : Nat, q < H.size → t.heap[q]? = H[q]?) → XC cls s t)
    (hf : ∀ z ∈ locs, free z.base) (hc : cells + 1 ≤ mc) (hs : slots + 6 ≤ ms) :
    W p l e R s m args below meth c H locs cells slots (vx_MQ below Qc XC args s mc ms free) (F0 m pc ls rest) := by
  intro T hT X
  have htr : e.platform.stackTraces = false := (show e.platform.stackTraces = l.stackTraces by rw [X.admits.platform]).trans hl
  have Y := vx_rebase X (R' := { frames := R.frames, locals := R.locals, cells := 1, slots := 6 }) (Nat.le_refl _) (Nat.le_refl _) hRcells hRslots
  obtain ⟨s', hA⟩ : ∃ z, z = (T.setVm s.vm).setFrames (.invoking m args :: below) := ⟨_, rfl⟩
  rw [← hA] at Y
  have hvm : s'.vm = s.vm := by rw [hA]; rfl
  have hhp : s'.heap = H := by rw [hA]; exact hT
  have hW0 : s.WarmedH s'.vm := by rw [hvm]; exact State.WarmedH.refl s
  have hat' : ∀ w ∈ vx_atS own ic cls names, w.before args s' = true := fun w hw => vx_ot_at hW0 hvm.symm (hgood w (List.mem_cons_of_mem _ (List.mem_cons_of_mem _ hw))) (hat w hw)
  have hk' : (Cond.classLink own ik cls).before args s' = true := vx_ot_at hW0 hvm.symm (hgood _ List.mem_cons_self) hk
  have hini' : (Cond.initialized cls).before args s' = true := vx_ot_at hW0 hvm.symm (hgood _ (List.mem_cons_of_mem _ List.mem_cons_self)) hini
  have hU' : vx_Zq Bundle.tN "UNASSIGNED_STACK" Bundle.steD A s' s'.heap := by rw [hhp]; exact vx_Zq.moved hW0.alike (hU.kept hS.2.1)
  have hN' : vx_Zq Bundle.tN "SUPPRESSED_SENTINEL" Bundle.listD A s' s'.heap := by rw [hhp]; exact vx_Zq.moved hW0.alike (hN.kept hS.2.1)
  have h : ∀ w ∈ Bundle.ownAtoms own ic cls names, w.before args s' = true := vx_own hat' (vx_isRefq hU'.1) (vx_isRefq hN'.1) hU'.2.word hN'.2.word
  have hown' : s'.vm.findClass own = some m.cls := by rw [hvm]; exact hown
  have hins : (Cond.instantiable cls 6).before args s' = true := h _ (by simp [Bundle.ownAtoms])
  obtain ⟨vm₁, cX, kX, hfX, hkX, -, -, X₁, st1⟩ := Y.newCold hexec (own := own) (C := cls) (index := ik) (n := 6) hown' hk' hins hini'
    (g := F0 m pc ls rest) rfl (by rw [hb]; exact d0) (Nat.le_refl _) (Nat.le_refl _)
  generalize hT1 : (T.setVm vm₁).pushCell { cls := cX, slots := kX.instanceTypes.map defaultValue, vm := .none } = T1 at X₁ st1
  have hcat : (Value.ref T.heap.size).category = 1 := rfl
  have hcellA : T1.heap[T.heap.size]? = some (freshCell cX kX) := by rw [← hT1]; exact State.heap_pushCell_size _ _
  have d3' : decode c.code (pc + 3) = .ok (.dup, 1) := by rw [hb]; exact d3
  have d4' : decode c.code (pc + 4) = .ok (.ldc is, 2) := by rw [hb]; exact d4
  have hstr' : vk_R own is text sa s' := vk_R.warm hW0 hstr
  obtain ⟨U, hsteps, hrun, hend, hW, hsame, ce, hce, hO⟩ := X₁.ctorThrowS hexec htr (own := own) (cls := cls) (names := names) (ic := ic) hown' hcls hnames h (fun x hx => nomatch hx) hfX hkX hcellA (by rw [hhp, hT]; exact Nat.le_refl _) (msg := .ref sa) rfl
    (g := { method := m, pc := pc + 6, locals := ls, stack := .ref sa :: .ref T.heap.size :: .ref T.heap.size :: rest, locked := none }) rfl hsize rfl rfl (rest := rest) rfl
    (by rw [hb]; exact d6) (by rw [hb]; exact d9) hout hRframes (by simp only [List.map_cons, List.sum_cons, hcat]; omega) hlocks
  obtain ⟨f1, f2⟩ := vx_frame hsame
  rw [hhp] at f1 f2
  have hWs : s.WarmedH U.vm := State.WarmedH.trans hW0 hW
  have hcl : s.vm.findClass cls = some ce.cls := by
    have h9 := hO.cls
    rw [hvm] at h9
    exact h9
  have hall : s.sameButNew ({ U with vm := s.vm } : State) locs mc ms := by
    subst hA
    obtain ⟨e1, e2⟩ := hsame
    rw [State.setFrames_setFrames] at e1
    have h2 : (T.setVm s.vm).sameButNew ({ U with vm := s.vm } : State) [] (0 + 1) (0 + 6) := ⟨e1, e2⟩
    have h3 := X.same.trans h2
    rw [List.append_nil] at h3
    exact h3.mono hc hs
  refine ⟨U, ?_, .threw T.heap.size, hrun, hend, Or.inr ⟨T.heap.size, rfl, cls, ce, locs, hx U hWs.alike f1 (fun q hq => f2 q hq (fun z hz => nomatch hz)), hce, hO.vm, hcl, hWs, hall, hf⟩⟩
  refine st1 _ ?_
  show Steps p.tables e below (T1.setTop { method := m, pc := pc + 3, locals := ls, stack := .ref T.heap.size :: rest, locked := none }) _
  jvm_step X₁.here [X₁.here.top, hexec, d3', Value.category]
  exact X₁.ldcString hexec (own := own) (text := text) (index := is) (a := sa) hown' hstr'.1 hstr'.2
    (g := { method := m, pc := pc + 4, locals := ls, stack := .ref T.heap.size :: .ref T.heap.size :: rest, locked := none }) rfl d4' _ hsteps
/-- 'throw new E("text")', the text by a wide index -/
theorem vx_throwSW {cc : ByteArray} {pc : Nat} (hexec : p.tables.exec = Jvm.exec) (hb : c.code = cc) (hl : l.stackTraces = false) {own cls text : String} {names : List String} {ik is ic mc ms sa : Nat} {A : Nat → Prop}
    (hown : s.vm.findClass own = some m.cls) (hcls : Bundle.fit cls = true) (hnames : ∀ n ∈ names, Bundle.fit n = true)
    (hk : (Cond.classLink own ik cls).before args s = true) (hini : (Cond.initialized cls).before args s = true) (hstr : vk_R own is text sa s) (hat : ∀ w ∈ vx_atS own ic cls names, w.before args s = true)
    (hgood : ∀ w ∈ Cond.classLink own ik cls :: Cond.initialized cls :: vx_atS own ic cls names, vx_ot w = true)
    (hU : vx_Zq Bundle.tN "UNASSIGNED_STACK" Bundle.steD A s s.heap) (hN : vx_Zq Bundle.tN "SUPPRESSED_SENTINEL" Bundle.listD A s s.heap) (hS : va_S A s.heap H locs) (hsize : ls.size = c.maxLocals)
    (d0 : decode cc pc = .ok (.new ik, 3)) (d3 : decode cc (pc + 3) = .ok (.dup, 1)) (d4 : decode cc (pc + 4) = .ok (.ldc_w is, 3)) (d7 : decode cc (pc + 7) = .ok (.invokespecial ic, 3)) (d10 : decode cc (pc + 10) = .ok (.athrow, 1))
    (hout : ∀ x ∈ c.exceptionTable.toList, covers x (pc + 10) = false)
    (hRframes : names.length + 3 < R.frames) (hRlocals : (rest.map fun v => v.category).sum + (13 * (names.length + 1) + 43) ≤ R.locals) (hRcells : cells + 1 ≤ R.cells) (hRslots : slots + 6 ≤ R.slots) (hlocks : meth.locks = false)
    (hx : ∀ t : State, s.vm.Alike t.vm → H.size ≤ t.heap.size → (∀ q : Nat, q < H.size → t.heap[q]? = H[q]?) → XC cls s t)
    (hf : ∀ z ∈ locs, free z.base) (hc : cells + 1 ≤ mc) (hs : slots + 6 ≤ ms) :
    W p l e R s m args below meth c H locs cells slots (vx_MQ below Qc XC args s mc ms free) (F0 m pc ls rest) := by
  intro T hT X
  have htr : e.platform.stackTraces = false := (show e.platform.stackTraces = l.stackTraces by rw [X.admits.platform]).trans hl
  have Y := vx_rebase X (R' := { frames := R.frames, locals := R.locals, cells := 1, slots := 6 }) (Nat.le_refl _) (Nat.le_refl _) hRcells hRslots
  obtain ⟨s', hA⟩ : ∃ z, z = (T.setVm s.vm).setFrames (.invoking m args :: below) := ⟨_, rfl⟩
  rw [← hA] at Y
  have hvm : s'.vm = s.vm := by rw [hA]; rfl
  have hhp : s'.heap = H := by rw [hA]; exact hT
  have hW0 : s.WarmedH s'.vm := by rw [hvm]; exact State.WarmedH.refl s
  have hat' : ∀ w ∈ vx_atS own ic cls names, w.before args s' = true := fun w hw => vx_ot_at hW0 hvm.symm (hgood w (List.mem_cons_of_mem _ (List.mem_cons_of_mem _ hw))) (hat w hw)
  have hk' : (Cond.classLink own ik cls).before args s' = true := vx_ot_at hW0 hvm.symm (hgood _ List.mem_cons_self) hk
  have hini' : (Cond.initialized cls).before args s' = true := vx_ot_at hW0 hvm.symm (hgood _ (List.mem_cons_of_mem _ List.mem_cons_self)) hini
  have hU' : vx_Zq Bundle.tN "UNASSIGNED_STACK" Bundle.steD A s' s'.heap := by rw [hhp]; exact vx_Zq.moved hW0.alike (hU.kept hS.2.1)
  have hN' : vx_Zq Bundle.tN "SUPPRESSED_SENTINEL" Bundle.listD A s' s'.heap := by rw [hhp]; exact vx_Zq.moved hW0.alike (hN.kept hS.2.1)
  have h : ∀ w ∈ Bundle.ownAtoms own ic cls names, w.before args s' = true := vx_own hat' (vx_isRefq hU'.1) (vx_isRefq hN'.1) hU'.2.word hN'.2.word
  have hown' : s'.vm.findClass own = some m.cls := by rw [hvm]; exact hown
  have hins : (Cond.instantiable cls 6).before args s' = true := h _ (by simp [Bundle.ownAtoms])
  obtain ⟨vm₁, cX, kX, hfX, hkX, -, -, X₁, st1⟩ := Y.newCold hexec (own := own) (C := cls) (index := ik) (n := 6) hown' hk' hins hini'
    (g := F0 m pc ls rest) rfl (by rw [hb]; exact d0) (Nat.le_refl _) (Nat.le_refl _)
  generalize hT1 : (T.setVm vm₁).pushCell { cls := cX, slots := kX.instanceTypes.map defaultValue, vm := .none } = T1 at X₁ st1
  have hcat : (Value.ref T.heap.size).category = 1 := rfl
  have hcellA : T1.heap[T.heap.size]? = some (freshCell cX kX) := by rw [← hT1]; exact State.heap_pushCell_size _ _
  have d3' : decode c.code (pc + 3) = .ok (.dup, 1) := by rw [hb]; exact d3
  have d4' : decode c.code (pc + 4) = .ok (.ldc_w is, 3) := by rw [hb]; exact d4
  have hstr' : vk_R own is text sa s' := vk_R.warm hW0 hstr
  obtain ⟨U, hsteps, hrun, hend, hW, hsame, ce, hce, hO⟩ := X₁.ctorThrowS hexec htr (own := own) (cls := cls) (names := names) (ic := ic) hown' hcls hnames h (fun x hx => nomatch hx) hfX hkX hcellA (by rw [hhp, hT]; exact Nat.le_refl _) (msg := .ref sa) rfl
    (g := { method := m, pc := pc + 7, locals := ls, stack := .ref sa :: .ref T.heap.size :: .ref T.heap.size :: rest, locked := none }) rfl hsize rfl rfl (rest := rest) rfl
    (by rw [hb]; exact d7) (by rw [hb]; exact d10) hout hRframes (by simp only [List.map_cons, List.sum_cons, hcat]; omega) hlocks
  obtain ⟨f1, f2⟩ := vx_frame hsame
  rw [hhp] at f1 f2
  have hWs : s.WarmedH U.vm := State.WarmedH.trans hW0 hW
  have hcl : s.vm.findClass cls = some ce.cls := by
    have h9 := hO.cls
    rw [hvm] at h9
    exact h9
  have hall : s.sameButNew ({ U with vm := s.vm } : State) locs mc ms := by
    subst hA
    obtain ⟨e1, e2⟩ := hsame
    rw [State.setFrames_setFrames] at e1
    have h2 : (T.setVm s.vm).sameButNew ({ U with vm := s.vm } : State) [] (0 + 1) (0 + 6) := ⟨e1, e2⟩
    have h3 := X.same.trans h2
    rw [List.append_nil] at h3
    exact h3.mono hc hs
  refine ⟨U, ?_, .threw T.heap.size, hrun, hend, Or.inr ⟨T.heap.size, rfl, cls, ce, locs, hx U hWs.alike f1 (fun q hq => f2 q hq (fun z hz => nomatch hz)), hce, hO.vm, hcl, hWs, hall, hf⟩⟩
  refine st1 _ ?_
  show Steps p.tables e below (T1.setTop { method := m, pc := pc + 3, locals := ls, stack := .ref T.heap.size :: rest, locked := none }) _
  jvm_step X₁.here [X₁.here.top, hexec, d3', Value.category]
  exact X₁.ldcStringW hexec (own := own) (text := text) (index := is) (a := sa) hown' hstr'.1 hstr'.2
    (g := { method := m, pc := pc + 4, locals := ls, stack := .ref T.heap.size :: .ref T.heap.size :: rest, locked := none }) rfl d4' _ hsteps
end Ends
section Bodies
variable {l : Launch}
theorem vx_ofW {y : MethodName} {ws ws' : List Cond} {rm : Room} {Pc : Array Value → State → Prop} {Qc : Array Value → State → Outcome → State → Prop} {XC : String → State → State → Prop} {mc ms : Nat} {free : Addr → Prop} {cc : ByteArray} {maxL : Nat} {ret : Option FieldType}
    (hy : plainName y.cls = true) (hw : ws = Cond.code y cc maxL ret :: ws')
    (body : ∀ p e s m args below meth c s₁, BodyLoose p l y (headSpec ws rm) cc maxL ret e s m args below meth c s₁ → c.maxLocals = maxL → (∀ x ∈ c.exceptionTable.toList, False) → Pc args s →
      W p l e (headSpec ws rm).room s m args below meth c s.heap [] 0 0 (vx_MQ below Qc XC args s mc ms free) (entryFrame m args maxL)) : vx_Met l y ws rm Pc Qc XC mc ms free := by
  refine MetFree.of_bodyS (code := cc) (maxLocals := maxL) (ret := ret) hy ?_ ?_
  · intro args s m h hn
    obtain ⟨meth, c, h1, h2, h3, h4, h5, h6, -, -⟩ := Cond.code_spec hn (atoms_spec (ws := ws) h _ (by rw [hw]; exact List.mem_cons_self))
    exact ⟨meth, c, h1, h2, h3, h4, h5, h6⟩
  · intro p e s m args below meth c s₁ B hml hP _
    have hh0 : s₁.heap = s.heap := by rw [B.state]; rfl
    have ht : ∀ x ∈ c.exceptionTable.toList, False := by
      obtain ⟨meth9, c9, h1, h2, -, -, -, -, h7, -⟩ := Cond.code_spec B.named (atoms_spec (ws := ws) B.pre _ (by rw [hw]; exact List.mem_cons_self))
      cases Option.some.inj (h1.symm.trans B.method)
      cases Option.some.inj (h2.symm.trans (Stand.of_body B).code)
      intro x hx
      rw [Array.isEmpty_iff.mp h7] at hx
      cases hx
    obtain ⟨t, a1, o, b1, b2, b3⟩ := body p e s m args below meth c s₁ B hml ht hP s₁ hh0 (Stand.of_body B)
    exact ⟨t, o, a1, b1, b2, b3⟩
/-- the table of a body with handlers -/
theorem vx_table {p : Program} {x y : MethodName} {S : Spec} {cc bytes : ByteArray} {maxL maxL' : Nat} {ret ret' : Option FieldType} {e : Env} {s s₁ : State} {m : MethodId} {args : Array Value} {below : List Frame} {meth : Method} {c : Code} {hh : List (Nat × Nat × Nat × Nat)}
    (B : BodyLoose p l y S cc maxL ret e s m args below meth c s₁) (h : (Cond.codeWith y bytes maxL' ret' hh).before args s = true) : c.exceptionTable.toList = tableOf hh := by
  obtain ⟨m9, meth9, c9, hn9, h1, h2, -, -, h6, -⟩ := Cond.codeWith_spec h
  cases Option.some.inj (hn9.symm.trans B.named)
  cases Option.some.inj (h1.symm.trans B.method)
  cases Option.some.inj (h2.symm.trans (Stand.of_body B).code)
  rw [← h6, table_eq]
end Bodies
end VXA
/-! ===== END ===== -/
/-! ===== BEGIN a static call of a method with an exception table ===== -/
section VXS
variable {p : Program} {l : Launch} {e : Env} {R : Room} {s : State} {m : MethodId} {args : Array Value} {below : List Frame} {meth : Method} {c : Code} {T : State} {H : Heap} {locs : List Loc} {cells slots : Nat}
abbrev vx_CSW (R : Room) (s : State) (args : Array Value) (own : String) (index : Nat) (y : MethodName) (bytes : ByteArray) (maxL : Nat) (ret : Option FieldType) (hh : List (Nat × Nat × Nat × Nat)) (ws : List Cond) (rm : Room) (mc ms n : Nat) : Prop :=
  (rm.cells = mc ∧ rm.slots = ms ∧ rm.frames + 1 ≤ R.frames ∧ 8 + (maxL + 11) + rm.locals ≤ R.locals ∧ (∀ w ∈ ws, ∀ (a' : Array Value) (U : State), s.WarmedH U.vm → w.before a' U = true) ∧ Cond.codeWith y bytes maxL ret hh ∈ ws) ∧
  (Cond.codeWith y bytes maxL ret hh).before args s = true ∧ (Cond.initialized y.cls).before args s = true ∧ (y.cls ≠ "java/lang/invoke/MethodHandle" ∧ y.cls ≠ "java/lang/invoke/VarHandle") ∧
  (∀ sig, parseMethodDescriptor y.desc = some sig → n = sig.parameters.length) ∧ (Cond.methodLink own index y).before args s = true ∧ (Cond.static y).before args s = true
theorem vx_cwSW {own : String} {index maxL mc ms : Nat} {y : MethodName} {bytes : ByteArray} {ret : Option FieldType} {hh : List (Nat × Nat × Nat × Nat)} {Ts ws ws' : List Cond} {rm : Room} (n : Nat) (ht : ∀ w ∈ Ts, w.before args s = true) (hT : GoodIn Ts (va_wsS own index y ws)) (hw : ws = Cond.codeWith y bytes maxL ret hh :: ws') (hrc : rm.cells = mc) (hrs : rm.slots = ms)
    (hd : y.cls ≠ "java/lang/invoke/MethodHandle" ∧ y.cls ≠ "java/lang/invoke/VarHandle" ∧ (parseMethodDescriptor y.desc).map (fun d => d.parameters.length) = some n) (hR : rm.frames + 1 ≤ R.frames ∧ 8 + (maxL + 11) + rm.locals ≤ R.locals) :
    vx_CSW R s args own index y bytes maxL ret hh ws rm mc ms n := by
  have ok : ∀ w ∈ va_wsS own index y ws, w.before args s = true := fun w h => ht w (hT w h).1
  have hG : GoodIn Ts ws := fun w h => hT w (by unfold va_wsS; exact List.mem_append_right _ h)
  have hc : Cond.codeWith y bytes maxL ret hh ∈ ws := by rw [hw]; exact List.mem_cons_self
  refine ⟨⟨hrc, hrs, hR.1, hR.2, pay_in ht hG, hc⟩, ht _ (hG _ hc).1, ok _ (by simp [va_wsS]), ⟨hd.1, hd.2.1⟩, fun sig h => ?_, ok _ (by simp [va_wsS]), ok _ (by simp [va_wsS])⟩
  have h2 := hd.2.2
  rw [h] at h2
  exact (Option.some.inj h2).symm
theorem vx_callSW (X : Stand p l e R s m args below meth c T locs cells slots) (hexec : p.tables.exec = Jvm.exec) {own : String} {index : Nat} {y : MethodName} {bytes : ByteArray} {maxL : Nat} {ret : Option FieldType} {hh : List (Nat × Nat × Nat × Nat)}
    (hown : s.vm.findClass own = some m.cls) (hlink : (Cond.methodLink own index y).before args s = true) (hstat : (Cond.static y).before args s = true) (hinit : (Cond.initialized y.cls).before args s = true)
    (hcode : (Cond.codeWith y bytes maxL ret hh).before args s = true) (hy : y.cls ≠ "java/lang/invoke/MethodHandle" ∧ y.cls ≠ "java/lang/invoke/VarHandle")
    {W9 : Nat} {Pre : Pt → Array Value → Prop} {Post : Pt → Array Value → Option Value → Pt → Prop} (hK : Back l R p e below s args y 3 W9 Pre Post)
    {g : JFrame} (hg : g.method = m) (hsize : g.locals.size = c.maxLocals) {argsL rest : List Value} (hlen : ∀ sig, parseMethodDescriptor y.desc = some sig → argsL.length = sig.parameters.length)
    (hstack : g.stack = argsL.reverse ++ rest) (hW : 2 * g.monitorRoom + (rest.map fun v => v.category).sum ≤ W9) (hdg : decode c.code g.pc = .ok (.invokestatic index, 3))
    (hpre : ∀ vm₁, s.WarmedH vm₁ → Pre ⟨T.setVm vm₁, locs, cells, slots⟩ argsL.toArray) :
    ∃ (v : Option Value) (vm₁ : Vm) (B : Pt), s.WarmedH vm₁ ∧ Stand p l e R s m args below meth c B.U B.locs B.cells B.slots ∧ Post ⟨T.setVm vm₁, locs, cells, slots⟩ argsL.toArray v B ∧
      ∀ target, Steps p.tables e below (B.U.setTop { g with pc := g.pc + 3, stack := v.toList ++ rest }) target → Steps p.tables e below (T.setTop g) target := by
  obtain ⟨mk, methM, cM, hnamed, hmethM, -, -, -, -, -, -, hsigM⟩ := Cond.codeWith_spec hcode
  have hstatic : methM.isStatic = true := Cond.static_spec hnamed hmethM hstat
  obtain ⟨kP, hkP, -⟩ := className_of_methodNamed hnamed
  have hinitP : kP.init = .initialized := Cond.initialized_spec (findClass_of_methodNamed hnamed) hkP hinit
  obtain ⟨vm₁, X₁, hstep₁⟩ := X.invokestatic hexec hown hlink hnamed hmethM hstatic hkP hinitP hy (g := g) hg (argsL := argsL) (rest := rest) (hlen _ hsigM) hstack hdg
  obtain ⟨v, B, X', hpost, hsteps⟩ := hK m meth c ⟨T.setVm vm₁, locs, cells, slots⟩ { g with stack := rest } (.invokestatic index) mk argsL.toArray X₁ hg hsize hdg hW (X₁.named hnamed) (hpre vm₁ X₁.warmed)
  exact ⟨v, vm₁, B, X₁.warmed, X', hpost, fun target h => hstep₁ _ fun acts => by rw [doInvoke_state]; exact hsteps.trans h⟩
theorem vx_runSW {y : MethodName} {bytes cc : ByteArray} {maxL nL mc ms n index : Nat} {ret : Option FieldType} {hh : List (Nat × Nat × Nat × Nat)} {ws : List Cond} {rm : Room} {Pc : Array Value → State → Prop} {Qc : Array Value → State → Outcome → State → Prop} {free : Addr → Prop} {Ts : List Cond} {own : String} {As rest : List Value} {g : JFrame}
    (S : CallFix p m c cc nL s args Ts own) (hM : Met l y ws rm Pc Qc mc ms free) (cw : vx_CSW R s args own index y bytes maxL ret hh ws rm mc ms n) (hp : PreS s H Pc As)
    (hg : g.method = m) (hn : As.length = n) (hsize : g.locals.size = nL) (hstack : g.stack = As.reverse ++ rest) (hW : 2 * g.monitorRoom + (rest.map fun v => v.category).sum ≤ 8) (hdg : decode cc g.pc = .ok (.invokestatic index, 3)) (hf : cells + mc ≤ R.cells ∧ slots + ms ≤ R.slots) :
    va_Run p l e R s m args below meth c H locs cells slots mc ms g rest (Qc As.toArray) (free) := by
  obtain ⟨⟨hrc, hrs, hfr, hlo, hws, hcw⟩, hcode, hini, hy, hlen, hl, hstt⟩ := cw
  have hK : Back l R p e below s args y 3 8 (PreOf R mc ms Pc) (PostOf Qc mc ms free) := va_backW (hh := hh) (bytes := bytes) (maxL := maxL) (ret := ret) hM hp.1 hrc hrs hfr hlo hws hcw (fun a' U hW => word_at hW (Or.inl (by first | rfl | simp [Cond.onTables, Cond.keeps, Cond.steady])) hini)
  obtain ⟨hx, hb, hml, ho, -⟩ := S
  intro T hT X
  obtain ⟨v, vm₁, ⟨U', l2, c2, s2⟩, hW₁, X', ⟨g', mk, t, L, e1, e2, hq, h1, hL, h2, h3⟩, st⟩ := vx_callSW X hx (hh := hh) (bytes := bytes) (maxL := maxL) (ret := ret) ho hl hstt hini hcode hy hK hg (hsize.trans hml.symm) (argsL := As) (rest := rest) (fun sig h => hn.trans (hlen sig h)) hstack hW (by rw [hb]; exact hdg)
    (fun vm₁ hW₁ => ⟨hf.1, hf.2, hp.2 (T.setVm vm₁) hT hW₁⟩)
  dsimp only [Pt.U, Pt.locs, Pt.cells, Pt.slots] at X' e1 e2 h1 h2 h3 st
  subst h1; subst h2; subst h3
  exact ⟨v, (T.setVm vm₁).calling g' mk As.toArray, t, U', L, hT, X', hL, e1, e2, hq, st⟩
/-- a thing of a world lies in the heap -/
theorem vx_lt {D : va_G} {cl : List vw_C} {ws : va_W} {H1 : Heap} (h : va_P D cl ws H1) {k : Nat} {q : Nat × va_E} (hk : ws[k]? = some q) : q.1 < H1.size := (h k q hk).lt
end VXS
/-! ===== END ===== -/
/-! ===== BEGIN methods with a table of their own: called by a name, returning or throwing ===== -/
section VXH
/-! vx_backW, vx_callVX, vx_callSX, vx_callVW, vx_runVW, vx_runVX, vx_runSX, vx_ofWH follow the same proofs as their sisters above (Free/Laws.lean, Shelf42/LK1.lean); vx_outP calls Shelf42/NT130.lean (outThrough). -/
section
variable {l : Launch} {R : Room} {p : Program} {e : Env} {below : List Frame} {s : State} {sargs : Array Value} {y : MethodName} {len W9 : Nat}
theorem vx_backW {ws : List Cond} {rm : Room} {Pc : Array Value → State → Prop} {Qc : Array Value → State → Outcome → State → Prop} {XC : String → State → State → Prop} {mc ms : Nat} {free : Addr → Prop} {bytes : ByteArray} {maxL : Nat} {ret : Option FieldType} {hh : List (Nat × Nat × Nat × Nat)}
    (hM : vx_Met l y ws rm Pc Qc XC mc ms free) (hblind : FrameBlind Pc) (hrc : rm.cells = mc) (hrs : rm.slots = ms)
    (hframes : rm.frames + 1 ≤ R.frames) (hlocals : W9 + (maxL + 11) + rm.locals ≤ R.locals)
    (hws : ∀ w ∈ ws, ∀ a' U, s.WarmedH U.vm → w.before a' U = true) (hcode : Cond.codeWith y bytes maxL ret hh ∈ ws) (hinit : ∀ a' U, s.WarmedH U.vm → (Cond.initialized y.cls).before a' U = true) :
    vx_Back l R p e below s sargs y len W9 (PreOf R mc ms Pc) (PostOf Qc mc ms free) (vx_Post XC mc ms free) := by
  intro m meth c A g ig mk a X hg hsize hdg hW hn hp
  have h1 : (headSpec ws rm).pre.before a A.U = true := atoms_intro fun w hw => hws w hw _ _ X.warmed
  have h2 : (Cond.codeWith y bytes maxL ret hh).before a A.U = true := hws _ hcode _ _ X.warmed
  have h3 : (Cond.initialized y.cls).before a A.U = true := hinit _ _ X.warmed
  have h4 : A.cells + (headSpec ws rm).room.cells ≤ R.cells := by rw [show (headSpec ws rm).room.cells = mc from hrc]; exact hp.1
  have h5 : A.slots + (headSpec ws rm).room.slots ≤ R.slots := by rw [show (headSpec ws rm).room.slots = ms from hrs]; exact hp.2.1
  have hPc : Pc a (A.U.calling g mk a) := hblind _ _ _ _ hp.2.2
  obtain ⟨U, Ls, c0, s0⟩ := A
  dsimp only [Pt.U, Pt.locs, Pt.cells, Pt.slots] at h1 h2 h3 h4 h5 X hn hPc ⊢
  obtain ⟨m9, methY, cY, hn9, hmY, hcY, -, hlY, -⟩ := Cond.codeWith_spec h2
  cases Option.some.inj (hn9.symm.trans hn)
  obtain ⟨kY, hkY, -⟩ := className_of_methodNamed hn
  have hinitY : kY.init = .initialized := Cond.initialized_spec (findClass_of_methodNamed hn) hkY h3
  have h : At U g.method c below := by rw [hg]; exact X.here
  have hlocals9 : W9 + (maxL + 11) + (headSpec ws rm).room.locals ≤ R.locals := hlocals
  have happ : (headSpec ws rm).appliesLoose y e.platform (U.calling g mk a) = true :=
    Spec.appliesLoose_calling (g := g) h hdg hn hkY hinitY
      (X.room_calling (g := g) (R' := (headSpec ws rm).room) hsize hmY hcY hframes (by rw [hlY]; omega) h4 h5) h1
  obtain ⟨mid, hmid⟩ := h.above
  have hfr : (U.setTop g).frames = (.java g :: mid) ++ below := by rw [State.frames_setTop' g h.top, hmid]; rfl
  obtain ⟨o, s₂, hsteps, -, hend, hq⟩ := Steps.callFree hM p X.admits X.cas X.clock (acts := []) hfr happ hPc trivial
  have hq' : vx_Q Qc XC mc ms free a (U.calling g mk a) o s₂ := hq
  rw [State.frames_setTop' g h.top] at hend
  obtain ⟨g₀, hg0⟩ := Option.isSome_iff_exists.mp h.top
  obtain ⟨r, hr⟩ := State.topJava?_eq_some.mp hg0
  have hr' : (({ U with heap := s₂.heap, slotsUsed := s₂.slotsUsed } : State).setVm s₂.vm).frames = .java g₀ :: r := hr
  rcases hq' with ⟨hqc, L, hfe, hL⟩ | ⟨q, rfl, E, ce, L, hx, hce, hcv, hcl, hW₂, hsm, hL⟩
  · obtain ⟨⟨v, rfl⟩, hW₂, e2, q2, q3, q4, q5, q6⟩ := id hfe
    have e3 : s₂ = ({ (U.calling g mk a).setFrames s₂.frames with heap := s₂.heap, slotsUsed := s₂.slotsUsed } : State).setVm s₂.vm := by
      have : s₂ = ({ s₂ with vm := (U.calling g mk a).vm } : State).setVm s₂.vm := rfl
      rw [e2] at this
      exact this
    obtain ⟨c₂, i₂, len₂, hc₂, hd₂, hf₂⟩ := hend
    have hW' : U.WarmedH s₂.vm := hW₂
    have hcc : c₂ = c := by
      have h1 : s₂.code? g.method = U.code? g.method := by
        rw [State.code?_eq, State.code?_eq, hW'.alike.method?]
      exact Option.some.inj (hc₂.symm.trans (h1.trans h.code))
    subst hcc
    have hlen : len₂ = len := by rw [hdg] at hd₂; cases hd₂; rfl
    subst hlen
    have hs₂ : s₂ = (({ U with heap := s₂.heap, slotsUsed := s₂.slotsUsed } : State).setVm s₂.vm).setTop { g with pc := g.pc + len₂, stack := v.toList ++ g.stack } := by
      refine e3.trans ?_
      rw [hf₂, State.calling_eq h.top, State.setFrames_setFrames, State.setTop_of_frames _ hr', hr]
      rfl
    have hsame : U.sameButNew ({ U with heap := s₂.heap, slotsUsed := s₂.slotsUsed } : State) L mc ms := by
      refine ⟨?_, q2, q3, q4, q5, q6⟩
      obtain ⟨t, ht, -⟩ := State.frames_cons hr
      show ({ U with heap := s₂.heap, slotsUsed := s₂.slotsUsed } : State) = { U.setFrames U.frames with heap := s₂.heap, slotsUsed := s₂.slotsUsed }
      rw [State.setFrames_self ht]
    subst hg
    refine Or.inl ⟨v, ⟨(({ U with heap := s₂.heap, slotsUsed := s₂.slotsUsed } : State).setVm s₂.vm), Ls ++ L, c0 + mc, s0 + ms⟩,
      ⟨X.admits, X.cas, X.clock, X.frames, X.room, X.hears, X.method, X.code, (X.here.setHeapUsed s₂.heap s₂.slotsUsed).setVm hW'.alike, X.tail, State.WarmedH.trans X.warmed hW', X.limits, X.bytes, X.same.trans (hsame.setVm s.vm)⟩,
      ⟨g, mk, s₂, L, rfl, rfl, hqc, rfl, hL, rfl, rfl⟩, ?_⟩
    show Steps p.tables e below _ ((({ U with heap := s₂.heap, slotsUsed := s₂.slotsUsed } : State).setVm s₂.vm).setTop { g with pc := g.pc + len₂, stack := v.toList ++ g.stack })
    rw [← hs₂]
    exact hsteps
  · obtain ⟨e2, q2, q3, q4, q5, q6⟩ := id hsm
    have e3 : s₂ = ({ (U.calling g mk a).setFrames s₂.frames with heap := s₂.heap, slotsUsed := s₂.slotsUsed } : State).setVm s₂.vm := by
      have : s₂ = ({ s₂ with vm := (U.calling g mk a).vm } : State).setVm s₂.vm := rfl
      rw [e2] at this
      exact this
    have hf₂ : s₂.frames = .throwing q :: .java g :: U.frames.tail := hend
    have hW' : U.WarmedH s₂.vm := hW₂
    have hs₂ : s₂ = ((({ U with heap := s₂.heap, slotsUsed := s₂.slotsUsed } : State).setVm s₂.vm).setTop g).pushFrame (.throwing q) := by
      refine e3.trans ?_
      rw [hf₂, State.calling_eq h.top, State.setFrames_setFrames, State.pushFrame, State.frames_setTop _ hr', State.setTop_of_frames _ hr', State.setFrames_setFrames, hr]
      rfl
    have hsame : U.sameButNew ({ U with heap := s₂.heap, slotsUsed := s₂.slotsUsed } : State) L mc ms := by
      refine ⟨?_, q2, q3, q4, q5, q6⟩
      obtain ⟨t, ht, -⟩ := State.frames_cons hr
      show ({ U with heap := s₂.heap, slotsUsed := s₂.slotsUsed } : State) = { U.setFrames U.frames with heap := s₂.heap, slotsUsed := s₂.slotsUsed }
      rw [State.setFrames_self ht]
    subst hg
    refine Or.inr ⟨q, ⟨(({ U with heap := s₂.heap, slotsUsed := s₂.slotsUsed } : State).setVm s₂.vm), Ls ++ L, c0 + mc, s0 + ms⟩,
      ⟨X.admits, X.cas, X.clock, X.frames, X.room, X.hears, X.method, X.code, (X.here.setHeapUsed s₂.heap s₂.slotsUsed).setVm hW'.alike, X.tail, State.WarmedH.trans X.warmed hW', X.limits, X.bytes, X.same.trans (hsame.setVm s.vm)⟩,
      ⟨g, mk, s₂, L, E, ce, rfl, rfl, hx, hce, hcv, hcl, rfl, hL, rfl, rfl⟩, ?_⟩
    show Steps p.tables e below _ (((({ U with heap := s₂.heap, slotsUsed := s₂.slotsUsed } : State).setVm s₂.vm).setTop g).pushFrame (.throwing q))
    rw [← hs₂]
    exact hsteps
end
variable {p : Program} {l : Launch} {e : Env} {R : Room} {s : State} {m : MethodId} {args : Array Value} {below : List Frame} {meth : Method} {c : Code} {T : State} {H : Heap} {locs : List Loc} {cells slots : Nat}
theorem vx_callVX (X : Stand p l e R s m args below meth c T locs cells slots) (hexec : p.tables.exec = Jvm.exec) {own C : String} {index : Nat} {y : MethodName} {bytes : ByteArray} {maxL : Nat} {ret : Option FieldType} {hh : List (Nat × Nat × Nat × Nat)}
    (hown : s.vm.findClass own = some m.cls) (hlink : (Cond.methodLink own index y).before args s = true) (hinst : (Cond.instanceMethod y).before args s = true) (hsel : (Cond.selects C y y).before args s = true)
    (hcode : (Cond.codeWith y bytes maxL ret hh).before args s = true) (hy : y.cls ≠ "java/lang/invoke/MethodHandle" ∧ y.cls ≠ "java/lang/invoke/VarHandle")
    {W9 : Nat} {Pre : Pt → Array Value → Prop} {Post : Pt → Array Value → Option Value → Pt → Prop} {PostX : Pt → Array Value → Addr → Pt → Prop} (hK : vx_Back l R p e below s args y 3 W9 Pre Post PostX)
    {b : Addr} {cellB : Cell} (hcell : T.heap[b]? = some cellB) (hobj : cellB.vm.isStatics = false) (hcls : s.vm.findClass C = some cellB.cls)
    {g : JFrame} (hg : g.method = m) (hsize : g.locals.size = c.maxLocals) {argsL rest : List Value} (hlen : ∀ sig, parseMethodDescriptor y.desc = some sig → argsL.length = sig.parameters.length)
    (hstack : g.stack = argsL.reverse ++ .ref b :: rest) (hW : 2 * g.monitorRoom + (rest.map fun v => v.category).sum ≤ W9) (hdg : decode c.code g.pc = .ok (.invokevirtual index, 3))
    (hpre : ∀ vm₁, s.WarmedH vm₁ → Pre ⟨T.setVm vm₁, locs, cells, slots⟩ (Value.ref b :: argsL).toArray) :
    (∃ (v : Option Value) (vm₁ : Vm) (B : Pt), s.WarmedH vm₁ ∧ Stand p l e R s m args below meth c B.U B.locs B.cells B.slots ∧ Post ⟨T.setVm vm₁, locs, cells, slots⟩ (Value.ref b :: argsL).toArray v B ∧
      ∀ target, Steps p.tables e below (B.U.setTop { g with pc := g.pc + 3, stack := v.toList ++ rest }) target → Steps p.tables e below (T.setTop g) target) ∨
    (∃ (q : Addr) (vm₁ : Vm) (B : Pt), s.WarmedH vm₁ ∧ Stand p l e R s m args below meth c B.U B.locs B.cells B.slots ∧ PostX ⟨T.setVm vm₁, locs, cells, slots⟩ (Value.ref b :: argsL).toArray q B ∧
      Steps p.tables e below (T.setTop g) ((B.U.setTop { g with stack := rest }).pushFrame (.throwing q))) := by
  obtain ⟨mk, methM, hnamed, hmethM, hstM, habM⟩ := Cond.instanceMethod_spec hinst
  obtain ⟨m8, methM', cM, hn8, hmethM', -, -, -, -, -, -, hsigM⟩ := Cond.codeWith_spec hcode
  cases Option.some.inj (hn8.symm.trans hnamed)
  cases hmethM.symm.trans hmethM'
  obtain ⟨c2, r2, m2, q1, q2, q3, q4, kP, hkP, hkPi⟩ := Cond.selects_spec hsel
  cases hcls.symm.trans q1
  cases (State.methodFound?_of_named hnamed hy).symm.trans q2
  cases hnamed.symm.trans q3
  have hselP : selectMethod e.platform s.vm cellB.cls mk = .method mk := by rw [Launch.admits_selectMethod X.admits]; exact q4
  obtain ⟨vm₁, X₁, hstep₁⟩ := X.invokevirtual hexec hown hlink hnamed hmethM hstM hkP hkPi hy (a := b) (cell := cellB) hcell
    (fun z h => by rw [h] at hobj; cases hobj) hselP hmethM habM hkP hkPi (g := g) hg (argsL := argsL) (rest := rest) (hlen _ hsigM) hstack hdg
  rcases hK m meth c ⟨T.setVm vm₁, locs, cells, slots⟩ { g with stack := rest } (.invokevirtual index) mk (Value.ref b :: argsL).toArray X₁ hg hsize hdg hW (X₁.named hnamed) (hpre vm₁ X₁.warmed) with ⟨v, B, X', hpost, hsteps⟩ | ⟨q, B, X', hpost, hsteps⟩
  · exact Or.inl ⟨v, vm₁, B, X₁.warmed, X', hpost, fun target h => hstep₁ _ fun acts => by rw [doInvoke_state]; exact hsteps.trans h⟩
  · exact Or.inr ⟨q, vm₁, B, X₁.warmed, X', hpost, hstep₁ _ fun acts => by rw [doInvoke_state]; exact hsteps⟩
theorem vx_callSX (X : Stand p l e R s m args below meth c T locs cells slots) (hexec : p.tables.exec = Jvm.exec) {own : String} {index : Nat} {y : MethodName} {bytes : ByteArray} {maxL : Nat} {ret : Option FieldType} {hh : List (Nat × Nat × Nat × Nat)}
    (hown : s.vm.findClass own = some m.cls) (hlink : (Cond.methodLink own index y).before args s = true) (hstat : (Cond.static y).before args s = true) (hinit : (Cond.initialized y.cls).before args s = true)
    (hcode : (Cond.codeWith y bytes maxL ret hh).before args s = true) (hy : y.cls ≠ "java/lang/invoke/MethodHandle" ∧ y.cls ≠ "java/lang/invoke/VarHandle")
    {W9 : Nat} {Pre : Pt → Array Value → Prop} {Post : Pt → Array Value → Option Value → Pt → Prop} {PostX : Pt → Array Value → Addr → Pt → Prop} (hK : vx_Back l R p e below s args y 3 W9 Pre Post PostX)
    {g : JFrame} (hg : g.method = m) (hsize : g.locals.size = c.maxLocals) {argsL rest : List Value} (hlen : ∀ sig, parseMethodDescriptor y.desc = some sig → argsL.length = sig.parameters.length)
    (hstack : g.stack = argsL.reverse ++ rest) (hW : 2 * g.monitorRoom + (rest.map fun v => v.category).sum ≤ W9) (hdg : decode c.code g.pc = .ok (.invokestatic index, 3))
    (hpre : ∀ vm₁, s.WarmedH vm₁ → Pre ⟨T.setVm vm₁, locs, cells, slots⟩ argsL.toArray) :
    (∃ (v : Option Value) (vm₁ : Vm) (B : Pt), s.WarmedH vm₁ ∧ Stand p l e R s m args below meth c B.U B.locs B.cells B.slots ∧ Post ⟨T.setVm vm₁, locs, cells, slots⟩ argsL.toArray v B ∧
      ∀ target, Steps p.tables e below (B.U.setTop { g with pc := g.pc + 3, stack := v.toList ++ rest }) target → Steps p.tables e below (T.setTop g) target) ∨
    (∃ (q : Addr) (vm₁ : Vm) (B : Pt), s.WarmedH vm₁ ∧ Stand p l e R s m args below meth c B.U B.locs B.cells B.slots ∧ PostX ⟨T.setVm vm₁, locs, cells, slots⟩ argsL.toArray q B ∧
      Steps p.tables e below (T.setTop g) ((B.U.setTop { g with stack := rest }).pushFrame (.throwing q))) := by
  obtain ⟨mk, methM, cM, hnamed, hmethM, -, -, -, -, -, -, hsigM⟩ := Cond.codeWith_spec hcode
  have hstatic : methM.isStatic = true := Cond.static_spec hnamed hmethM hstat
  obtain ⟨kP, hkP, -⟩ := className_of_methodNamed hnamed
  have hinitP : kP.init = .initialized := Cond.initialized_spec (findClass_of_methodNamed hnamed) hkP hinit
  obtain ⟨vm₁, X₁, hstep₁⟩ := X.invokestatic hexec hown hlink hnamed hmethM hstatic hkP hinitP hy (g := g) hg (argsL := argsL) (rest := rest) (hlen _ hsigM) hstack hdg
  rcases hK m meth c ⟨T.setVm vm₁, locs, cells, slots⟩ { g with stack := rest } (.invokestatic index) mk argsL.toArray X₁ hg hsize hdg hW (X₁.named hnamed) (hpre vm₁ X₁.warmed) with ⟨v, B, X', hpost, hsteps⟩ | ⟨q, B, X', hpost, hsteps⟩
  · exact Or.inl ⟨v, vm₁, B, X₁.warmed, X', hpost, fun target h => hstep₁ _ fun acts => by rw [doInvoke_state]; exact hsteps.trans h⟩
  · exact Or.inr ⟨q, vm₁, B, X₁.warmed, X', hpost, hstep₁ _ fun acts => by rw [doInvoke_state]; exact hsteps⟩
theorem vx_callVW (X : Stand p l e R s m args below meth c T locs cells slots) (hexec : p.tables.exec = Jvm.exec) {own C : String} {index : Nat} {y : MethodName} {bytes : ByteArray} {maxL : Nat} {ret : Option FieldType} {hh : List (Nat × Nat × Nat × Nat)}
    (hown : s.vm.findClass own = some m.cls) (hlink : (Cond.methodLink own index y).before args s = true) (hinst : (Cond.instanceMethod y).before args s = true) (hsel : (Cond.selects C y y).before args s = true)
    (hcode : (Cond.codeWith y bytes maxL ret hh).before args s = true) (hy : y.cls ≠ "java/lang/invoke/MethodHandle" ∧ y.cls ≠ "java/lang/invoke/VarHandle")
    {W9 : Nat} {Pre : Pt → Array Value → Prop} {Post : Pt → Array Value → Option Value → Pt → Prop} (hK : Back l R p e below s args y 3 W9 Pre Post)
    {b : Addr} {cellB : Cell} (hcell : T.heap[b]? = some cellB) (hobj : cellB.vm.isStatics = false) (hcls : s.vm.findClass C = some cellB.cls)
    {g : JFrame} (hg : g.method = m) (hsize : g.locals.size = c.maxLocals) {argsL rest : List Value} (hlen : ∀ sig, parseMethodDescriptor y.desc = some sig → argsL.length = sig.parameters.length)
    (hstack : g.stack = argsL.reverse ++ .ref b :: rest) (hW : 2 * g.monitorRoom + (rest.map fun v => v.category).sum ≤ W9) (hdg : decode c.code g.pc = .ok (.invokevirtual index, 3))
    (hpre : ∀ vm₁, s.WarmedH vm₁ → Pre ⟨T.setVm vm₁, locs, cells, slots⟩ (Value.ref b :: argsL).toArray) :
    ∃ (v : Option Value) (vm₁ : Vm) (B : Pt), s.WarmedH vm₁ ∧ Stand p l e R s m args below meth c B.U B.locs B.cells B.slots ∧ Post ⟨T.setVm vm₁, locs, cells, slots⟩ (Value.ref b :: argsL).toArray v B ∧
      ∀ target, Steps p.tables e below (B.U.setTop { g with pc := g.pc + 3, stack := v.toList ++ rest }) target → Steps p.tables e below (T.setTop g) target := by
  obtain ⟨mk, methM, hnamed, hmethM, hstM, habM⟩ := Cond.instanceMethod_spec hinst
  obtain ⟨m8, methM', cM, hn8, hmethM', -, -, -, -, -, -, hsigM⟩ := Cond.codeWith_spec hcode
  cases Option.some.inj (hn8.symm.trans hnamed)
  cases hmethM.symm.trans hmethM'
  obtain ⟨c2, r2, m2, q1, q2, q3, q4, kP, hkP, hkPi⟩ := Cond.selects_spec hsel
  cases hcls.symm.trans q1
  cases (State.methodFound?_of_named hnamed hy).symm.trans q2
  cases hnamed.symm.trans q3
  have hselP : selectMethod e.platform s.vm cellB.cls mk = .method mk := by rw [Launch.admits_selectMethod X.admits]; exact q4
  obtain ⟨vm₁, X₁, hstep₁⟩ := X.invokevirtual hexec hown hlink hnamed hmethM hstM hkP hkPi hy (a := b) (cell := cellB) hcell
    (fun z h => by rw [h] at hobj; cases hobj) hselP hmethM habM hkP hkPi (g := g) hg (argsL := argsL) (rest := rest) (hlen _ hsigM) hstack hdg
  obtain ⟨v, B, X', hpost, hsteps⟩ := hK m meth c ⟨T.setVm vm₁, locs, cells, slots⟩ { g with stack := rest } (.invokevirtual index) mk (Value.ref b :: argsL).toArray X₁ hg hsize hdg hW (X₁.named hnamed) (hpre vm₁ X₁.warmed)
  exact ⟨v, vm₁, B, X₁.warmed, X', hpost, fun target h => hstep₁ _ fun acts => by rw [doInvoke_state]; exact hsteps.trans h⟩
abbrev vx_CVW (R : Room) (s : State) (args : Array Value) (own C : String) (index : Nat) (y : MethodName) (bytes : ByteArray) (maxL : Nat) (ret : Option FieldType) (hh : List (Nat × Nat × Nat × Nat)) (ws : List Cond) (rm : Room) (mc ms n : Nat) : Prop :=
  (rm.cells = mc ∧ rm.slots = ms ∧ rm.frames + 1 ≤ R.frames ∧ 8 + (maxL + 11) + rm.locals ≤ R.locals ∧ (∀ w ∈ ws, ∀ (a' : Array Value) (U : State), s.WarmedH U.vm → w.before a' U = true) ∧ Cond.codeWith y bytes maxL ret hh ∈ ws) ∧
  (Cond.codeWith y bytes maxL ret hh).before args s = true ∧ (Cond.initialized y.cls).before args s = true ∧ (y.cls ≠ "java/lang/invoke/MethodHandle" ∧ y.cls ≠ "java/lang/invoke/VarHandle") ∧
  (∀ sig, parseMethodDescriptor y.desc = some sig → n = sig.parameters.length) ∧ (Cond.methodLink own index y).before args s = true ∧ (Cond.instanceMethod y).before args s = true ∧ (Cond.selects C y y).before args s = true
theorem vx_cwVW {own C : String} {index maxL mc ms : Nat} {y : MethodName} {bytes : ByteArray} {ret : Option FieldType} {hh : List (Nat × Nat × Nat × Nat)} {Ts ws ws' : List Cond} {rm : Room} (n : Nat) (ht : ∀ w ∈ Ts, w.before args s = true) (hT : GoodIn Ts (wsV own index C y ws)) (hw : ws = Cond.codeWith y bytes maxL ret hh :: ws') (hrc : rm.cells = mc) (hrs : rm.slots = ms)
    (hd : y.cls = C ∧ y.cls ≠ "java/lang/invoke/MethodHandle" ∧ y.cls ≠ "java/lang/invoke/VarHandle" ∧ (parseMethodDescriptor y.desc).map (fun d => d.parameters.length) = some n) (hR : rm.frames + 1 ≤ R.frames ∧ 8 + (maxL + 11) + rm.locals ≤ R.locals) :
    vx_CVW R s args own C index y bytes maxL ret hh ws rm mc ms n := by
  obtain ⟨hC, hd⟩ := hd
  subst hC
  have ok : ∀ w ∈ wsV own index y.cls y ws, w.before args s = true := fun w h => ht w (hT w h).1
  have hG : GoodIn Ts ws := fun w h => hT w (by unfold wsV; exact List.mem_append_right _ h)
  have hc : Cond.codeWith y bytes maxL ret hh ∈ ws := by rw [hw]; exact List.mem_cons_self
  refine ⟨⟨hrc, hrs, hR.1, hR.2, pay_in ht hG, hc⟩, ht _ (hG _ hc).1, ok _ (by simp [wsV]), ⟨hd.1, hd.2.1⟩, fun sig h => ?_, ok _ (by simp [wsV]), ok _ (by simp [wsV]), ok _ (by simp [wsV])⟩
  have h2 := hd.2.2
  rw [h] at h2
  exact (Option.some.inj h2).symm
theorem vx_runVW {y : MethodName} {bytes cc : ByteArray} {maxL nL mc ms n index : Nat} {ret : Option FieldType} {hh : List (Nat × Nat × Nat × Nat)} {ws : List Cond} {rm : Room} {Pc : Array Value → State → Prop} {Qc : Array Value → State → Outcome → State → Prop} {free : Addr → Prop} {Ts : List Cond} {own C : String} {b : Addr} {As rest : List Value} {g : JFrame}
    (S : CallFix p m c cc nL s args Ts own) (hM : Met l y ws rm Pc Qc mc ms free) (cw : vx_CVW R s args own C index y bytes maxL ret hh ws rm mc ms n) (hp : PreV s H C b Pc As)
    (hg : g.method = m) (hn : As.length = n) (hsize : g.locals.size = nL) (hstack : g.stack = As.reverse ++ .ref b :: rest) (hW : 2 * g.monitorRoom + (rest.map fun v => v.category).sum ≤ 8) (hdg : decode cc g.pc = .ok (.invokevirtual index, 3)) (hf : cells + mc ≤ R.cells ∧ slots + ms ≤ R.slots) :
    va_Run p l e R s m args below meth c H locs cells slots mc ms g rest (Qc (Value.ref b :: As).toArray) free := by
  obtain ⟨⟨hrc, hrs, hfr, hlo, hws, hcw⟩, hcode, hini, hy, hlen, hl, hin, hse⟩ := cw
  have hK : Back l R p e below s args y 3 8 (PreOf R mc ms Pc) (PostOf Qc mc ms free) := va_backW (hh := hh) (bytes := bytes) (maxL := maxL) (ret := ret) hM hp.1 hrc hrs hfr hlo hws hcw (fun a' U hW => word_at hW (Or.inl (by first | rfl | simp [Cond.onTables, Cond.keeps, Cond.steady])) hini)
  obtain ⟨hx, hb, hml, ho, -⟩ := S
  obtain ⟨-, ⟨cellB, hcB, hoB, hclB⟩, hPc⟩ := hp
  intro T hT X
  obtain ⟨v, vm₁, ⟨U', l2, c2, s2⟩, hW₁, X', ⟨g', mk, t, L, e1, e2, hq, h1, hL, h2, h3⟩, st⟩ := vx_callVW X hx (C := C) (hh := hh) (bytes := bytes) (maxL := maxL) (ret := ret) ho hl hin hse hcode hy hK (by rw [hT]; exact hcB) hoB hclB hg (hsize.trans hml.symm) (argsL := As) (rest := rest) (fun sig h => hn.trans (hlen sig h)) hstack hW (by rw [hb]; exact hdg)
    (fun vm₁ hW₁ => ⟨hf.1, hf.2, hPc (T.setVm vm₁) hT hW₁⟩)
  dsimp only [Pt.U, Pt.locs, Pt.cells, Pt.slots] at X' e1 e2 h1 h2 h3 st
  subst h1; subst h2; subst h3
  exact ⟨v, (T.setVm vm₁).calling g' mk (Value.ref b :: As).toArray, t, U', L, hT, X', hL, e1, e2, hq, st⟩
section
variable {y : MethodName} {bytes cc : ByteArray} {maxL nL mc ms n index : Nat} {ret : Option FieldType} {ws : List Cond} {rm : Room} {Pc : Array Value → State → Prop} {Qc : Array Value → State → Outcome → State → Prop} {XC : String → State → State → Prop} {free : Addr → Prop} {Ts : List Cond} {own C : String} {b : Addr} {As rest : List Value} {g : JFrame}
theorem vx_runVX {hh : List (Nat × Nat × Nat × Nat)} (S : CallFix p m c cc nL s args Ts own) (hM : vx_Met l y ws rm Pc Qc XC mc ms free) (cw : vx_CVW R s args own C index y bytes maxL ret hh ws rm mc ms n) (hp : PreV s H C b Pc As)
    (hg : g.method = m) (hn : As.length = n) (hsize : g.locals.size = nL) (hstack : g.stack = As.reverse ++ .ref b :: rest) (hW : 2 * g.monitorRoom + (rest.map fun v => v.category).sum ≤ 8) (hdg : decode cc g.pc = .ok (.invokevirtual index, 3)) (hf : cells + mc ≤ R.cells ∧ slots + ms ≤ R.slots) :
    vx_Run p l e R s m args below meth c H locs cells slots mc ms g rest (Qc (Value.ref b :: As).toArray) XC free := by
  obtain ⟨⟨hrc, hrs, hfr, hlo, hws, hcw⟩, hcode, hini, hy, hlen, hl, hin, hse⟩ := cw
  have hK : vx_Back l R p e below s args y 3 8 (PreOf R mc ms Pc) (PostOf Qc mc ms free) (vx_Post XC mc ms free) := vx_backW (hh := hh) (bytes := bytes) (maxL := maxL) (ret := ret) hM hp.1 hrc hrs hfr hlo hws hcw (fun a' U hW => word_at hW (Or.inl (by first | rfl | simp [Cond.onTables, Cond.keeps, Cond.steady])) hini)
  obtain ⟨hx, hb, hml, ho, -⟩ := S
  obtain ⟨-, ⟨cellB, hcB, hoB, hclB⟩, hPc⟩ := hp
  intro T hT X
  rcases vx_callVX X hx (C := C) (hh := hh) (bytes := bytes) (maxL := maxL) (ret := ret) ho hl hin hse hcode hy hK (by rw [hT]; exact hcB) hoB hclB hg (hsize.trans hml.symm) (argsL := As) (rest := rest) (fun sig h => hn.trans (hlen sig h)) hstack hW (by rw [hb]; exact hdg)
    (fun vm₁ hW₁ => ⟨hf.1, hf.2, hPc (T.setVm vm₁) hT hW₁⟩) with ⟨v, vm₁, ⟨U', l2, c2, s2⟩, hW₁, X', ⟨g', mk, t, L, e1, e2, hq, h1, hL, h2, h3⟩, st⟩ | ⟨q, vm₁, ⟨U', l2, c2, s2⟩, hW₁, X', ⟨g', mk, t, L, E, ce, e1, e2, hq, hce, hcv, hcl, h1, hL, h2, h3⟩, st⟩
  · dsimp only [Pt.U, Pt.locs, Pt.cells, Pt.slots] at X' e1 e2 h1 h2 h3 st
    subst h1; subst h2; subst h3
    exact Or.inl ⟨v, (T.setVm vm₁).calling g' mk (Value.ref b :: As).toArray, t, U', L, hT, X', hL, e1, e2, hq, st⟩
  · dsimp only [Pt.U, Pt.locs, Pt.cells, Pt.slots] at X' e1 e2 h1 h2 h3 st hcl
    subst h1; subst h2; subst h3
    exact Or.inr ⟨q, (T.setVm vm₁).calling g' mk (Value.ref b :: As).toArray, t, U', L, E, ce, hT, X', hL, e1, e2, hq, hce, hcv, vx_cls hW₁ hcl, st⟩
theorem vx_runSX {hh : List (Nat × Nat × Nat × Nat)} (S : CallFix p m c cc nL s args Ts own) (hM : vx_Met l y ws rm Pc Qc XC mc ms free) (cw : vx_CSW R s args own index y bytes maxL ret hh ws rm mc ms n) (hp : PreS s H Pc As)
    (hg : g.method = m) (hn : As.length = n) (hsize : g.locals.size = nL) (hstack : g.stack = As.reverse ++ rest) (hW : 2 * g.monitorRoom + (rest.map fun v => v.category).sum ≤ 8) (hdg : decode cc g.pc = .ok (.invokestatic index, 3)) (hf : cells + mc ≤ R.cells ∧ slots + ms ≤ R.slots) :
    vx_Run p l e R s m args below meth c H locs cells slots mc ms g rest (Qc As.toArray) XC free := by
  obtain ⟨⟨hrc, hrs, hfr, hlo, hws, hcw⟩, hcode, hini, hy, hlen, hl, hstt⟩ := cw
  have hK : vx_Back l R p e below s args y 3 8 (PreOf R mc ms Pc) (PostOf Qc mc ms free) (vx_Post XC mc ms free) := vx_backW (hh := hh) (bytes := bytes) (maxL := maxL) (ret := ret) hM hp.1 hrc hrs hfr hlo hws hcw (fun a' U hW => word_at hW (Or.inl (by first | rfl | simp [Cond.onTables, Cond.keeps, Cond.steady])) hini)
  obtain ⟨hx, hb, hml, ho, -⟩ := S
  intro T hT X
  rcases vx_callSX X hx (hh := hh) (bytes := bytes) (maxL := maxL) (ret := ret) ho hl hstt hini hcode hy hK hg (hsize.trans hml.symm) (argsL := As) (rest := rest) (fun sig h => hn.trans (hlen sig h)) hstack hW (by rw [hb]; exact hdg)
    (fun vm₁ hW₁ => ⟨hf.1, hf.2, hp.2 (T.setVm vm₁) hT hW₁⟩) with ⟨v, vm₁, ⟨U', l2, c2, s2⟩, hW₁, X', ⟨g', mk, t, L, e1, e2, hq, h1, hL, h2, h3⟩, st⟩ | ⟨q, vm₁, ⟨U', l2, c2, s2⟩, hW₁, X', ⟨g', mk, t, L, E, ce, e1, e2, hq, hce, hcv, hcl, h1, hL, h2, h3⟩, st⟩
  · dsimp only [Pt.U, Pt.locs, Pt.cells, Pt.slots] at X' e1 e2 h1 h2 h3 st
    subst h1; subst h2; subst h3
    exact Or.inl ⟨v, (T.setVm vm₁).calling g' mk As.toArray, t, U', L, hT, X', hL, e1, e2, hq, st⟩
  · dsimp only [Pt.U, Pt.locs, Pt.cells, Pt.slots] at X' e1 e2 h1 h2 h3 st hcl
    subst h1; subst h2; subst h3
    exact Or.inr ⟨q, (T.setVm vm₁).calling g' mk As.toArray, t, U', L, E, ce, hT, X', hL, e1, e2, hq, hce, hcv, vx_cls hW₁ hcl, st⟩
end
end VXH
theorem vx_ofWH {l : Launch} {y : MethodName} {ws ws' : List Cond} {rm : Room} {Pc : Array Value → State → Prop} {Qc : Array Value → State → Outcome → State → Prop} {XC : String → State → State → Prop} {mc ms : Nat} {free : Addr → Prop} {cc : ByteArray} {maxL : Nat} {ret : Option FieldType} {hh : List (Nat × Nat × Nat × Nat)}
    (hy : plainName y.cls = true) (hw : ws = Cond.codeWith y cc maxL ret hh :: ws')
    (body : ∀ p e s m args below meth c s₁, BodyLoose p l y (headSpec ws rm) cc maxL ret e s m args below meth c s₁ → c.maxLocals = maxL → Pc args s →
      W p l e (headSpec ws rm).room s m args below meth c s.heap [] 0 0 (vx_MQ below Qc XC args s mc ms free) (entryFrame m args maxL)) : vx_Met l y ws rm Pc Qc XC mc ms free := by
  refine MetFree.of_bodyS (code := cc) (maxLocals := maxL) (ret := ret) hy ?_ ?_
  · intro args s m h hn
    obtain ⟨m9, meth, c, hn9, h1, h2, h3, h4, -, h5, h6, -⟩ := Cond.codeWith_spec (atoms_spec (ws := ws) h _ (by rw [hw]; exact List.mem_cons_self))
    cases hn.symm.trans hn9
    exact ⟨meth, c, h1, h2, h3, h4, h5, h6⟩
  · intro p e s m args below meth c s₁ B hml hP _
    have hh0 : s₁.heap = s.heap := by rw [B.state]; rfl
    obtain ⟨t, a1, o, b1, b2, b3⟩ := body p e s m args below meth c s₁ B hml hP s₁ hh0 (Stand.of_body B)
    exact ⟨t, o, a1, b1, b2, b3⟩
/-! ===== END ===== -/
end
section
def RX0 : String := "SlideBoards$Board"
def TX0 : u_T := fun k => match k with
  | 0 => ("SlideBoards$Board", "width", "I", true)
  | 1 => ("SlideBoards$Board", "height", "I", true)
  | 2 => ("SlideBoards$Board", "leftEdge", "I", true)
  | 3 => ("SlideBoards$Board", "rightEdge", "I", true)
  | 4 => ("SlideBoards$Board", "topEdge", "I", true)
  | 5 => ("SlideBoards$Board", "bottomEdge", "I", true)
  | 6 => ("SlideBoards$Board", "kinds", "[I", true)
  | 7 => ("SlideBoards$Board", "masks", "[I", true)
  | 8 => ("SlideBoards$Board", "blocks", "I", false)
  | _ => ("SlideBoards$Board", "walls", "I", false)
def tyX0 : Nat → FieldType := fun k => match k with
  | 0 => .int
  | 1 => .int
  | 2 => .int
  | 3 => .int
  | 4 => .int
  | 5 => .int
  | 6 => .array .int
  | 7 => .array .int
  | 8 => .int
  | _ => .int
abbrev wsX00 : List Cond := u_ws RX0 TX0 10
theorem nmX0 : ∀ a, a < 10 → ∀ b, b < 10 → a ≠ b → (TX0 a).2.1 ≠ (TX0 b).2.1 := by decide +kernel
theorem tyX0_ok : ∀ k, k < 10 → parseFieldDescriptor (TX0 k).2.2.1 = some (tyX0 k) := by decide +kernel
abbrev cX0_init : ByteArray := prog_2_method_1_code
def yX0_init : MethodName := ⟨RX0, "<init>", "(II)V"⟩
abbrev cX0_hasCell : ByteArray := prog_2_method_2_code
def yX0_hasCell : MethodName := ⟨RX0, "hasCell", "(II)Z"⟩
abbrev cX0_cellOf : ByteArray := prog_2_method_3_code
def yX0_cellOf : MethodName := ⟨RX0, "cellOf", "(II)I"⟩
abbrev cX0_bitOf : ByteArray := prog_2_method_4_code
def yX0_bitOf : MethodName := ⟨RX0, "bitOf", "(II)I"⟩
abbrev cX0_leastCell : ByteArray := prog_2_method_5_code
def yX0_leastCell : MethodName := ⟨RX0, "leastCell", "(I)I"⟩
abbrev cX0_filled : ByteArray := prog_2_method_6_code
def yX0_filled : MethodName := ⟨RX0, "filled", "()I"⟩
abbrev cX0_setWall : ByteArray := prog_2_method_7_code
def yX0_setWall : MethodName := ⟨RX0, "setWall", "(IZ)Z"⟩
abbrev cX0_addBlock : ByteArray := prog_2_method_8_code
def yX0_addBlock : MethodName := ⟨RX0, "addBlock", "(I)I"⟩
abbrev cX0_addCell : ByteArray := prog_2_method_9_code
def yX0_addCell : MethodName := ⟨RX0, "addCell", "(II)Z"⟩
abbrev cX0_slideBlock : ByteArray := prog_2_method_10_code
def yX0_slideBlock : MethodName := ⟨RX0, "slideBlock", "(III)I"⟩
abbrev cX0_moved : ByteArray := prog_2_method_11_code
def yX0_moved : MethodName := ⟨RX0, "moved", "(III)I"⟩
abbrev cX0_cornered : ByteArray := prog_2_method_12_code
def yX0_cornered : MethodName := ⟨RX0, "cornered", "(I)I"⟩
abbrev cX0_areAlike : ByteArray := prog_2_method_13_code
def yX0_areAlike : MethodName := ⟨RX0, "areAlike", "(II)Z"⟩
abbrev cX0_pictureByte : ByteArray := prog_2_method_14_code
def yX0_pictureByte : MethodName := ⟨RX0, "pictureByte", "(I)I"⟩
abbrev cX0_cellByte : ByteArray := prog_2_method_15_code
def yX0_cellByte : MethodName := ⟨RX0, "cellByte", "(I)I"⟩
def RX1 : String := "SlideBoards$Finder"
def TX1 : u_T := fun k => match k with
  | 0 => ("SlideBoards$Finder", "board", "LSlideBoards$Board;", true)
  | 1 => ("SlideBoards$Finder", "goals", "LSlideBoards$Goals;", true)
  | 2 => ("SlideBoards$Finder", "store", "LSlideBoards$StateStore;", true)
  | 3 => ("SlideBoards$Finder", "alike", "[I", true)
  | 4 => ("SlideBoards$Finder", "startPlaces", "[I", true)
  | 5 => ("SlideBoards$Finder", "places", "[I", true)
  | 6 => ("SlideBoards$Finder", "masks", "[I", true)
  | 7 => ("SlideBoards$Finder", "sorted", "[I", true)
  | 8 => ("SlideBoards$Finder", "most", "I", false)
  | 9 => ("SlideBoards$Finder", "stepsMost", "I", false)
  | _ => ("SlideBoards$Finder", "toGoal", "Z", false)
def tyX1 : Nat → FieldType := fun k => match k with
  | 0 => .object "SlideBoards$Board"
  | 1 => .object "SlideBoards$Goals"
  | 2 => .object "SlideBoards$StateStore"
  | 3 => .array .int
  | 4 => .array .int
  | 5 => .array .int
  | 6 => .array .int
  | 7 => .array .int
  | 8 => .int
  | 9 => .int
  | _ => .boolean
abbrev wsX10 : List Cond := u_ws RX1 TX1 11
theorem nmX1 : ∀ a, a < 11 → ∀ b, b < 11 → a ≠ b → (TX1 a).2.1 ≠ (TX1 b).2.1 := by decide +kernel
theorem tyX1_ok : ∀ k, k < 11 → parseFieldDescriptor (TX1 k).2.2.1 = some (tyX1 k) := by decide +kernel
abbrev cX1_init : ByteArray := prog_3_method_1_code
def yX1_init : MethodName := ⟨RX1, "<init>", "(LSlideBoards$Board;LSlideBoards$Goals;)V"⟩
abbrev cX1_presentOpenGoal : ByteArray := prog_3_method_2_code
def yX1_presentOpenGoal : MethodName := ⟨RX1, "presentOpenGoal", "()I"⟩
abbrev cX1_explore : ByteArray := prog_3_method_3_code
def yX1_explore : MethodName := ⟨RX1, "explore", "(IIZ)I"⟩
abbrev cX1_findAlike : ByteArray := prog_3_method_4_code
def yX1_findAlike : MethodName := ⟨RX1, "findAlike", "()V"⟩
abbrev cX1_offerPresent : ByteArray := prog_3_method_5_code
def yX1_offerPresent : MethodName := ⟨RX1, "offerPresent", "()I"⟩
abbrev cX1_expand : ByteArray := prog_3_method_6_code
def yX1_expand : MethodName := ⟨RX1, "expand", "(I)I"⟩
abbrev cX1_tryWay : ByteArray := prog_3_method_7_code
def yX1_tryWay : MethodName := ⟨RX1, "tryWay", "(IIII)I"⟩
abbrev cX1_offer : ByteArray := prog_3_method_8_code
def yX1_offer : MethodName := ⟨RX1, "offer", "(II)I"⟩
abbrev cX1_layoutOfPlaces : ByteArray := prog_3_method_9_code
def yX1_layoutOfPlaces : MethodName := ⟨RX1, "layoutOfPlaces", "()J"⟩
abbrev cX1_load : ByteArray := prog_3_method_10_code
def yX1_load : MethodName := ⟨RX1, "load", "(J)I"⟩
abbrev cX1_keyOfPlaces : ByteArray := prog_3_method_11_code
def yX1_keyOfPlaces : MethodName := ⟨RX1, "keyOfPlaces", "()J"⟩
def RX2 : String := "SlideBoards$Goals"
def TX2 : u_T := fun k => match k with
  | 0 => ("SlideBoards$Goals", "ofKinds", "[Z", true)
  | 1 => ("SlideBoards$Goals", "wanted", "[I", true)
  | 2 => ("SlideBoards$Goals", "cells", "[I", true)
  | _ => ("SlideBoards$Goals", "count", "I", false)
def tyX2 : Nat → FieldType := fun k => match k with
  | 0 => .array .boolean
  | 1 => .array .int
  | 2 => .array .int
  | _ => .int
abbrev wsX20 : List Cond := u_ws RX2 TX2 4
theorem nmX2 : ∀ a, a < 4 → ∀ b, b < 4 → a ≠ b → (TX2 a).2.1 ≠ (TX2 b).2.1 := by decide +kernel
theorem tyX2_ok : ∀ k, k < 4 → parseFieldDescriptor (TX2 k).2.2.1 = some (tyX2 k) := by decide +kernel
abbrev cX2_init : ByteArray := prog_4_method_1_code
def yX2_init : MethodName := ⟨RX2, "<init>", "()V"⟩
abbrev cX2_add : ByteArray := prog_4_method_2_code
def yX2_add : MethodName := ⟨RX2, "add", "(ZII)I"⟩
abbrev cX2_removeAll : ByteArray := prog_4_method_3_code
def yX2_removeAll : MethodName := ⟨RX2, "removeAll", "()I"⟩
abbrev cX2_firstOpen : ByteArray := prog_4_method_4_code
def yX2_firstOpen : MethodName := ⟨RX2, "firstOpen", "(LSlideBoards$Board;[I)I"⟩
abbrev cX2_kindIsAt : ByteArray := prog_4_method_5_code
def yX2_kindIsAt : MethodName := ⟨RX2, "kindIsAt", "(LSlideBoards$Board;[III)Z"⟩
def RX3 : String := "SlideBoards$Route"
def TX3 : u_T := fun k => match k with
  | 0 => ("SlideBoards$Route", "moves", "[I", true)
  | 1 => ("SlideBoards$Route", "length", "I", false)
  | _ => ("SlideBoards$Route", "states", "I", false)
def tyX3 : Nat → FieldType := fun k => match k with
  | 0 => .array .int
  | 1 => .int
  | _ => .int
abbrev wsX30 : List Cond := u_ws RX3 TX3 3
theorem nmX3 : ∀ a, a < 3 → ∀ b, b < 3 → a ≠ b → (TX3 a).2.1 ≠ (TX3 b).2.1 := by decide +kernel
theorem tyX3_ok : ∀ k, k < 3 → parseFieldDescriptor (TX3 k).2.2.1 = some (tyX3 k) := by decide +kernel
abbrev cX3_init : ByteArray := prog_5_method_1_code
def yX3_init : MethodName := ⟨RX3, "<init>", "()V"⟩
abbrev cX3_keep : ByteArray := prog_5_method_2_code
def yX3_keep : MethodName := ⟨RX3, "keep", "(LSlideBoards$StateStore;Z)V"⟩
abbrev cX3_depthOf : ByteArray := prog_5_method_3_code
def yX3_depthOf : MethodName := ⟨RX3, "depthOf", "(LSlideBoards$StateStore;I)I"⟩
def RX4 : String := "SlideBoards$StateStore"
def TX4 : u_T := fun k => match k with
  | 0 => ("SlideBoards$StateStore", "keys", "[J", true)
  | 1 => ("SlideBoards$StateStore", "layouts", "[J", true)
  | 2 => ("SlideBoards$StateStore", "parents", "[I", true)
  | 3 => ("SlideBoards$StateStore", "moves", "[I", true)
  | 4 => ("SlideBoards$StateStore", "heads", "[I", true)
  | 5 => ("SlideBoards$StateStore", "nexts", "[I", true)
  | _ => ("SlideBoards$StateStore", "count", "I", false)
def tyX4 : Nat → FieldType := fun k => match k with
  | 0 => .array .long
  | 1 => .array .long
  | 2 => .array .int
  | 3 => .array .int
  | 4 => .array .int
  | 5 => .array .int
  | _ => .int
abbrev wsX40 : List Cond := u_ws RX4 TX4 7
theorem nmX4 : ∀ a, a < 7 → ∀ b, b < 7 → a ≠ b → (TX4 a).2.1 ≠ (TX4 b).2.1 := by decide +kernel
theorem tyX4_ok : ∀ k, k < 7 → parseFieldDescriptor (TX4 k).2.2.1 = some (tyX4 k) := by decide +kernel
abbrev cX4_init : ByteArray := prog_6_method_1_code
def yX4_init : MethodName := ⟨RX4, "<init>", "()V"⟩
abbrev cX4_bucketOf : ByteArray := prog_6_method_2_code
def yX4_bucketOf : MethodName := ⟨RX4, "bucketOf", "(J)I"⟩
abbrev cX4_clear : ByteArray := prog_6_method_3_code
def yX4_clear : MethodName := ⟨RX4, "clear", "()V"⟩
abbrev cX4_holds : ByteArray := prog_6_method_4_code
def yX4_holds : MethodName := ⟨RX4, "holds", "(J)Z"⟩
abbrev cX4_take : ByteArray := prog_6_method_5_code
def yX4_take : MethodName := ⟨RX4, "take", "(JJII)V"⟩
def RX5 : String := "SlideBoards$TileGraph"
def TX5 : u_T := fun k => match k with
  | 0 => ("SlideBoards$TileGraph", "tiles", "[I", true)
  | 1 => ("SlideBoards$TileGraph", "lines", "[I", true)
  | 2 => ("SlideBoards$TileGraph", "distances", "[I", true)
  | 3 => ("SlideBoards$TileGraph", "arrangements", "[I", true)
  | 4 => ("SlideBoards$TileGraph", "marks", "[J", true)
  | 5 => ("SlideBoards$TileGraph", "nodes", "I", false)
  | _ => ("SlideBoards$TileGraph", "found", "I", false)
def tyX5 : Nat → FieldType := fun k => match k with
  | 0 => .array .int
  | 1 => .array .int
  | 2 => .array .int
  | 3 => .array .int
  | 4 => .array .long
  | 5 => .int
  | _ => .int
abbrev wsX50 : List Cond := u_ws RX5 TX5 7
theorem nmX5 : ∀ a, a < 7 → ∀ b, b < 7 → a ≠ b → (TX5 a).2.1 ≠ (TX5 b).2.1 := by decide +kernel
theorem tyX5_ok : ∀ k, k < 7 → parseFieldDescriptor (TX5 k).2.2.1 = some (tyX5 k) := by decide +kernel
abbrev cX5_init : ByteArray := prog_7_method_1_code
def yX5_init : MethodName := ⟨RX5, "<init>", "()V"⟩
abbrev cX5_addNode : ByteArray := prog_7_method_2_code
def yX5_addNode : MethodName := ⟨RX5, "addNode", "()I"⟩
abbrev cX5_areJoined : ByteArray := prog_7_method_3_code
def yX5_areJoined : MethodName := ⟨RX5, "areJoined", "(II)Z"⟩
abbrev cX5_addLine : ByteArray := prog_7_method_4_code
def yX5_addLine : MethodName := ⟨RX5, "addLine", "(II)Z"⟩
abbrev cX5_gapNode : ByteArray := prog_7_method_5_code
def yX5_gapNode : MethodName := ⟨RX5, "gapNode", "()I"⟩
abbrev cX5_moveToGap : ByteArray := prog_7_method_6_code
def yX5_moveToGap : MethodName := ⟨RX5, "moveToGap", "(I)Z"⟩
abbrev cX5_exchange : ByteArray := prog_7_method_7_code
def yX5_exchange : MethodName := ⟨RX5, "exchange", "(II)Z"⟩
abbrev cX5_measureDistances : ByteArray := prog_7_method_8_code
def yX5_measureDistances : MethodName := ⟨RX5, "measureDistances", "()V"⟩
abbrev cX5_spreadDistances : ByteArray := prog_7_method_9_code
def yX5_spreadDistances : MethodName := ⟨RX5, "spreadDistances", "()V"⟩
abbrev cX5_hasTwoColours : ByteArray := prog_7_method_10_code
def yX5_hasTwoColours : MethodName := ⟨RX5, "hasTwoColours", "()Z"⟩
abbrev cX5_invariant : ByteArray := prog_7_method_11_code
def yX5_invariant : MethodName := ⟨RX5, "invariant", "()I"⟩
abbrev cX5_countInversions : ByteArray := prog_7_method_12_code
def yX5_countInversions : MethodName := ⟨RX5, "countInversions", "()I"⟩
abbrev cX5_countArrangements : ByteArray := prog_7_method_13_code
def yX5_countArrangements : MethodName := ⟨RX5, "countArrangements", "()I"⟩
abbrev cX5_comesHome : ByteArray := prog_7_method_14_code
def yX5_comesHome : MethodName := ⟨RX5, "comesHome", "()Z"⟩
abbrev cX5_findArrangements : ByteArray := prog_7_method_15_code
def yX5_findArrangements : MethodName := ⟨RX5, "findArrangements", "()V"⟩
abbrev cX5_markShifts : ByteArray := prog_7_method_16_code
def yX5_markShifts : MethodName := ⟨RX5, "markShifts", "(I)V"⟩
abbrev cX5_markOf : ByteArray := prog_7_method_17_code
def yX5_markOf : MethodName := ⟨RX5, "markOf", "(I)I"⟩
abbrev cX5_isMarked : ByteArray := prog_7_method_18_code
def yX5_isMarked : MethodName := ⟨RX5, "isMarked", "(I)Z"⟩
abbrev cX5_mark : ByteArray := prog_7_method_19_code
def yX5_mark : MethodName := ⟨RX5, "mark", "(I)V"⟩
def RX6 : String := "SlideBoards"
def TX6 : u_T := fun k => match k with
  | 0 => ("SlideBoards", "board", "LSlideBoards$Board;", true)
  | 1 => ("SlideBoards", "goals", "LSlideBoards$Goals;", true)
  | 2 => ("SlideBoards", "finder", "LSlideBoards$Finder;", true)
  | 3 => ("SlideBoards", "latest", "LSlideBoards$Route;", true)
  | _ => ("SlideBoards", "graph", "LSlideBoards$TileGraph;", true)
def tyX6 : Nat → FieldType := fun k => match k with
  | 0 => .object "SlideBoards$Board"
  | 1 => .object "SlideBoards$Goals"
  | 2 => .object "SlideBoards$Finder"
  | 3 => .object "SlideBoards$Route"
  | _ => .object "SlideBoards$TileGraph"
abbrev wsX60 : List Cond := u_ws RX6 TX6 5
theorem nmX6 : ∀ a, a < 5 → ∀ b, b < 5 → a ≠ b → (TX6 a).2.1 ≠ (TX6 b).2.1 := by decide +kernel
theorem tyX6_ok : ∀ k, k < 5 → parseFieldDescriptor (TX6 k).2.2.1 = some (tyX6 k) := by decide +kernel
abbrev cX6_init : ByteArray := prog_1_method_1_code
def yX6_init : MethodName := ⟨RX6, "<init>", "(II)V"⟩
abbrev cX6_wall : ByteArray := prog_1_method_2_code
def yX6_wall : MethodName := ⟨RX6, "wall", "(IIZ)Z"⟩
abbrev cX6_block : ByteArray := prog_1_method_3_code
def yX6_block : MethodName := ⟨RX6, "block", "(I)I"⟩
abbrev cX6_cell : ByteArray := prog_1_method_4_code
def yX6_cell : MethodName := ⟨RX6, "cell", "(III)Z"⟩
abbrev cX6_place : ByteArray := prog_1_method_5_code
def yX6_place : MethodName := ⟨RX6, "place", "(I)I"⟩
abbrev cX6_slide : ByteArray := prog_1_method_6_code
def yX6_slide : MethodName := ⟨RX6, "slide", "(III)I"⟩
abbrev cX6_goal : ByteArray := prog_1_method_7_code
def yX6_goal : MethodName := ⟨RX6, "goal", "(III)I"⟩
abbrev cX6_kindGoal : ByteArray := prog_1_method_8_code
def yX6_kindGoal : MethodName := ⟨RX6, "kindGoal", "(III)I"⟩
abbrev cX6_noGoals : ByteArray := prog_1_method_9_code
def yX6_noGoals : MethodName := ⟨RX6, "noGoals", "()I"⟩
abbrev cX6_open : ByteArray := prog_1_method_10_code
def yX6_open : MethodName := ⟨RX6, "open", "()I"⟩
abbrev cX6_search : ByteArray := prog_1_method_11_code
def yX6_search : MethodName := ⟨RX6, "search", "(II)I"⟩
abbrev cX6_step : ByteArray := prog_1_method_12_code
def yX6_step : MethodName := ⟨RX6, "step", "(I)I"⟩
abbrev cX6_states : ByteArray := prog_1_method_13_code
def yX6_states : MethodName := ⟨RX6, "states", "()I"⟩
abbrev cX6_reach : ByteArray := prog_1_method_14_code
def yX6_reach : MethodName := ⟨RX6, "reach", "()I"⟩
abbrev cX6_picture : ByteArray := prog_1_method_15_code
def yX6_picture : MethodName := ⟨RX6, "picture", "(I)I"⟩
abbrev cX6_node : ByteArray := prog_1_method_16_code
def yX6_node : MethodName := ⟨RX6, "node", "()I"⟩
abbrev cX6_join : ByteArray := prog_1_method_17_code
def yX6_join : MethodName := ⟨RX6, "join", "(II)Z"⟩
abbrev cX6_tile : ByteArray := prog_1_method_18_code
def yX6_tile : MethodName := ⟨RX6, "tile", "(I)I"⟩
abbrev cX6_shift : ByteArray := prog_1_method_19_code
def yX6_shift : MethodName := ⟨RX6, "shift", "(I)Z"⟩
abbrev cX6_swap : ByteArray := prog_1_method_20_code
def yX6_swap : MethodName := ⟨RX6, "swap", "(II)Z"⟩
abbrev cX6_even : ByteArray := prog_1_method_21_code
def yX6_even : MethodName := ⟨RX6, "even", "()Z"⟩
abbrev cX6_parity : ByteArray := prog_1_method_22_code
def yX6_parity : MethodName := ⟨RX6, "parity", "()I"⟩
abbrev cX6_ways : ByteArray := prog_1_method_23_code
def yX6_ways : MethodName := ⟨RX6, "ways", "()I"⟩
abbrev cX6_home : ByteArray := prog_1_method_24_code
def yX6_home : MethodName := ⟨RX6, "home", "()Z"⟩
abbrev cX6_needCell : ByteArray := prog_1_method_25_code
def yX6_needCell : MethodName := ⟨RX6, "needCell", "(II)V"⟩
abbrev cX6_needBlock : ByteArray := prog_1_method_26_code
def yX6_needBlock : MethodName := ⟨RX6, "needBlock", "(I)V"⟩
abbrev cX6_needWay : ByteArray := prog_1_method_27_code
def yX6_needWay : MethodName := ⟨RX6, "needWay", "(I)V"⟩
abbrev cX6_needKind : ByteArray := prog_1_method_28_code
def yX6_needKind : MethodName := ⟨RX6, "needKind", "(I)V"⟩
abbrev cX6_needNode : ByteArray := prog_1_method_29_code
def yX6_needNode : MethodName := ⟨RX6, "needNode", "(I)V"⟩
def RX7 : String := "SlideBoardsModel"
def TX7 : u_T := fun k => match k with
  | 0 => ("SlideBoardsModel", "thrown", "I", false)
  | 1 => ("SlideBoardsModel", "width", "I", true)
  | 2 => ("SlideBoardsModel", "height", "I", true)
  | 3 => ("SlideBoardsModel", "walls", "I", false)
  | 4 => ("SlideBoardsModel", "blocks", "I", false)
  | 5 => ("SlideBoardsModel", "kinds", "[I", true)
  | 6 => ("SlideBoardsModel", "sets", "[I", true)
  | 7 => ("SlideBoardsModel", "goals", "I", false)
  | 8 => ("SlideBoardsModel", "whose", "[I", true)
  | 9 => ("SlideBoardsModel", "where", "[I", true)
  | 10 => ("SlideBoardsModel", "many", "I", false)
  | 11 => ("SlideBoardsModel", "states", "[I", true)
  | 12 => ("SlideBoardsModel", "keys", "[I", true)
  | 13 => ("SlideBoardsModel", "from", "[I", true)
  | 14 => ("SlideBoardsModel", "by", "[I", true)
  | 15 => ("SlideBoardsModel", "seats", "[I", true)
  | 16 => ("SlideBoardsModel", "alike", "[I", true)
  | 17 => ("SlideBoardsModel", "now", "[I", true)
  | 18 => ("SlideBoardsModel", "key", "[I", true)
  | 19 => ("SlideBoardsModel", "taken", "I", false)
  | 20 => ("SlideBoardsModel", "length", "I", false)
  | 21 => ("SlideBoardsModel", "path", "[I", true)
  | 22 => ("SlideBoardsModel", "nodes", "I", false)
  | 23 => ("SlideBoardsModel", "joined", "[Z", true)
  | 24 => ("SlideBoardsModel", "tiles", "[I", true)
  | 25 => ("SlideBoardsModel", "lies", "[I", true)
  | 26 => ("SlideBoardsModel", "isSeen", "[Z", true)
  | 27 => ("SlideBoardsModel", "queue", "[I", true)
  | 28 => ("SlideBoardsModel", "colours", "[I", true)
  | _ => ("SlideBoardsModel", "far", "[I", true)
def tyX7 : Nat → FieldType := fun k => match k with
  | 0 => .int
  | 1 => .int
  | 2 => .int
  | 3 => .int
  | 4 => .int
  | 5 => .array .int
  | 6 => .array .int
  | 7 => .int
  | 8 => .array .int
  | 9 => .array .int
  | 10 => .int
  | 11 => .array .int
  | 12 => .array .int
  | 13 => .array .int
  | 14 => .array .int
  | 15 => .array .int
  | 16 => .array .int
  | 17 => .array .int
  | 18 => .array .int
  | 19 => .int
  | 20 => .int
  | 21 => .array .int
  | 22 => .int
  | 23 => .array .boolean
  | 24 => .array .int
  | 25 => .array .int
  | 26 => .array .boolean
  | 27 => .array .int
  | 28 => .array .int
  | _ => .array .int
abbrev wsX70 : List Cond := u_ws RX7 TX7 30
theorem nmX7 : ∀ a, a < 30 → ∀ b, b < 30 → a ≠ b → (TX7 a).2.1 ≠ (TX7 b).2.1 := by decide +kernel
theorem tyX7_ok : ∀ k, k < 30 → parseFieldDescriptor (TX7 k).2.2.1 = some (tyX7 k) := by decide +kernel
abbrev cX7_init : ByteArray := prog_9_method_1_code
def yX7_init : MethodName := ⟨RX7, "<init>", "(II)V"⟩
abbrev cX7_thrown : ByteArray := prog_9_method_2_code
def yX7_thrown : MethodName := ⟨RX7, "thrown", "()I"⟩
abbrev cX7_throwsIf : ByteArray := prog_9_method_3_code
def yX7_throwsIf : MethodName := ⟨RX7, "throwsIf", "(IZ)Z"⟩
abbrev cX7_isCell : ByteArray := prog_9_method_4_code
def yX7_isCell : MethodName := ⟨RX7, "isCell", "(II)Z"⟩
abbrev cX7_isBlock : ByteArray := prog_9_method_5_code
def yX7_isBlock : MethodName := ⟨RX7, "isBlock", "(I)Z"⟩
abbrev cX7_blocked : ByteArray := prog_9_method_6_code
def yX7_blocked : MethodName := ⟨RX7, "blocked", "()I"⟩
abbrev cX7_wall : ByteArray := prog_9_method_7_code
def yX7_wall : MethodName := ⟨RX7, "wall", "(IIZ)Z"⟩
abbrev cX7_block : ByteArray := prog_9_method_8_code
def yX7_block : MethodName := ⟨RX7, "block", "(I)I"⟩
abbrev cX7_cell : ByteArray := prog_9_method_9_code
def yX7_cell : MethodName := ⟨RX7, "cell", "(III)Z"⟩
abbrev cX7_placeOf : ByteArray := prog_9_method_10_code
def yX7_placeOf : MethodName := ⟨RX7, "placeOf", "(I)I"⟩
abbrev cX7_place : ByteArray := prog_9_method_11_code
def yX7_place : MethodName := ⟨RX7, "place", "(I)I"⟩
abbrev cX7_moved : ByteArray := prog_9_method_12_code
def yX7_moved : MethodName := ⟨RX7, "moved", "(II)I"⟩
abbrev cX7_stepped : ByteArray := prog_9_method_13_code
def yX7_stepped : MethodName := ⟨RX7, "stepped", "([III)I"⟩
abbrev cX7_slide : ByteArray := prog_9_method_14_code
def yX7_slide : MethodName := ⟨RX7, "slide", "(III)I"⟩
abbrev cX7_goal : ByteArray := prog_9_method_15_code
def yX7_goal : MethodName := ⟨RX7, "goal", "(III)I"⟩
abbrev cX7_kindGoal : ByteArray := prog_9_method_16_code
def yX7_kindGoal : MethodName := ⟨RX7, "kindGoal", "(III)I"⟩
abbrev cX7_addGoal : ByteArray := prog_9_method_17_code
def yX7_addGoal : MethodName := ⟨RX7, "addGoal", "(III)I"⟩
abbrev cX7_noGoals : ByteArray := prog_9_method_18_code
def yX7_noGoals : MethodName := ⟨RX7, "noGoals", "()I"⟩
abbrev cX7_isMet : ByteArray := prog_9_method_19_code
def yX7_isMet : MethodName := ⟨RX7, "isMet", "(I[I)Z"⟩
abbrev cX7_openIn : ByteArray := prog_9_method_20_code
def yX7_openIn : MethodName := ⟨RX7, "openIn", "([I)I"⟩
abbrev cX7_open : ByteArray := prog_9_method_21_code
def yX7_open : MethodName := ⟨RX7, "open", "()I"⟩
abbrev cX7_isShape : ByteArray := prog_9_method_22_code
def yX7_isShape : MethodName := ⟨RX7, "isShape", "(II)Z"⟩
abbrev cX7_isIn : ByteArray := prog_9_method_23_code
def yX7_isIn : MethodName := ⟨RX7, "isIn", "(IIII)Z"⟩
abbrev cX7_liken : ByteArray := prog_9_method_24_code
def yX7_liken : MethodName := ⟨RX7, "liken", "()V"⟩
abbrev cX7_order : ByteArray := prog_9_method_25_code
def yX7_order : MethodName := ⟨RX7, "order", "()V"⟩
abbrev cX7_isKey : ByteArray := prog_9_method_26_code
def yX7_isKey : MethodName := ⟨RX7, "isKey", "(I)Z"⟩
abbrev cX7_seatOf : ByteArray := prog_9_method_27_code
def yX7_seatOf : MethodName := ⟨RX7, "seatOf", "()I"⟩
abbrev cX7_isNew : ByteArray := prog_9_method_28_code
def yX7_isNew : MethodName := ⟨RX7, "isNew", "(II)Z"⟩
abbrev cX7_load : ByteArray := prog_9_method_29_code
def yX7_load : MethodName := ⟨RX7, "load", "(I)V"⟩
abbrev cX7_spread : ByteArray := prog_9_method_30_code
def yX7_spread : MethodName := ⟨RX7, "spread", "(IIZ)I"⟩
abbrev cX7_search : ByteArray := prog_9_method_31_code
def yX7_search : MethodName := ⟨RX7, "search", "(II)I"⟩
abbrev cX7_step : ByteArray := prog_9_method_32_code
def yX7_step : MethodName := ⟨RX7, "step", "(I)I"⟩
abbrev cX7_states : ByteArray := prog_9_method_33_code
def yX7_states : MethodName := ⟨RX7, "states", "()I"⟩
abbrev cX7_reach : ByteArray := prog_9_method_34_code
def yX7_reach : MethodName := ⟨RX7, "reach", "()I"⟩
abbrev cX7_picture : ByteArray := prog_9_method_35_code
def yX7_picture : MethodName := ⟨RX7, "picture", "(I)I"⟩
abbrev cX7_isNode : ByteArray := prog_9_method_36_code
def yX7_isNode : MethodName := ⟨RX7, "isNode", "(I)Z"⟩
abbrev cX7_node : ByteArray := prog_9_method_37_code
def yX7_node : MethodName := ⟨RX7, "node", "()I"⟩
abbrev cX7_isJoined : ByteArray := prog_9_method_38_code
def yX7_isJoined : MethodName := ⟨RX7, "isJoined", "(II)Z"⟩
abbrev cX7_join : ByteArray := prog_9_method_39_code
def yX7_join : MethodName := ⟨RX7, "join", "(II)Z"⟩
abbrev cX7_tile : ByteArray := prog_9_method_40_code
def yX7_tile : MethodName := ⟨RX7, "tile", "(I)I"⟩
abbrev cX7_gap : ByteArray := prog_9_method_41_code
def yX7_gap : MethodName := ⟨RX7, "gap", "()I"⟩
abbrev cX7_exchange : ByteArray := prog_9_method_42_code
def yX7_exchange : MethodName := ⟨RX7, "exchange", "(II)V"⟩
abbrev cX7_shift : ByteArray := prog_9_method_43_code
def yX7_shift : MethodName := ⟨RX7, "shift", "(I)Z"⟩
abbrev cX7_swap : ByteArray := prog_9_method_44_code
def yX7_swap : MethodName := ⟨RX7, "swap", "(II)Z"⟩
abbrev cX7_measure : ByteArray := prog_9_method_45_code
def yX7_measure : MethodName := ⟨RX7, "measure", "(I)V"⟩
abbrev cX7_isEven : ByteArray := prog_9_method_46_code
def yX7_isEven : MethodName := ⟨RX7, "isEven", "()Z"⟩
abbrev cX7_even : ByteArray := prog_9_method_47_code
def yX7_even : MethodName := ⟨RX7, "even", "()Z"⟩
abbrev cX7_parity : ByteArray := prog_9_method_48_code
def yX7_parity : MethodName := ⟨RX7, "parity", "()I"⟩
abbrev cX7_rank : ByteArray := prog_9_method_49_code
def yX7_rank : MethodName := ⟨RX7, "rank", "()I"⟩
abbrev cX7_unrank : ByteArray := prog_9_method_50_code
def yX7_unrank : MethodName := ⟨RX7, "unrank", "(I)V"⟩
abbrev cX7_go : ByteArray := prog_9_method_51_code
def yX7_go : MethodName := ⟨RX7, "go", "()I"⟩
abbrev cX7_ways : ByteArray := prog_9_method_52_code
def yX7_ways : MethodName := ⟨RX7, "ways", "()I"⟩
abbrev cX7_home : ByteArray := prog_9_method_53_code
def yX7_home : MethodName := ⟨RX7, "home", "()Z"⟩
def RJx00060 : String := "java/lang/ArrayIndexOutOfBoundsException"
def TJx00060 : u_T := fun k => match k with
  | 0 => ("java/lang/Throwable", "cause", "Ljava/lang/Throwable;", false)
  | 1 => ("java/lang/Throwable", "stackTrace", "[Ljava/lang/StackTraceElement;", false)
  | 2 => ("java/lang/Throwable", "suppressedExceptions", "Ljava/util/List;", false)
  | 3 => ("java/lang/Throwable", "detailMessage", "Ljava/lang/String;", false)
  | 4 => ("java/lang/Throwable", "backtrace", "Ljava/lang/Object;", false)
  | _ => ("java/lang/Throwable", "depth", "I", false)
def tyJx00060 : Nat → FieldType := fun k => match k with
  | 0 => .object "java/lang/Throwable"
  | 1 => .array (.object "java/lang/StackTraceElement")
  | 2 => .object "java/util/List"
  | 3 => .object "java/lang/String"
  | 4 => .object "java/lang/Object"
  | _ => .int
abbrev wsJx000600 : List Cond := u_ws RJx00060 TJx00060 6
theorem nmJx00060 : ∀ a, a < 6 → ∀ b, b < 6 → a ≠ b → (TJx00060 a).2.1 ≠ (TJx00060 b).2.1 := by decide +kernel
theorem tyJx00060_ok : ∀ k, k < 6 → parseFieldDescriptor (TJx00060 k).2.2.1 = some (tyJx00060 k) := by decide +kernel
abbrev cJx00060_init_a7421 : ByteArray := prog_10_method_2_code
def yJx00060_init_a7421 : MethodName := ⟨RJx00060, "<init>", "(Ljava/lang/String;)V"⟩
def RJ6 : String := "java/lang/Integer"
def TJ6 : u_T := fun k => match k with
  | _ => ("", "", "", false)
def tyJ6 : Nat → FieldType := fun k => match k with
  | _ => .int
abbrev wsJ60 : List Cond := u_ws RJ6 TJ6 0
theorem nmJ6 : ∀ a, a < 0 → ∀ b, b < 0 → a ≠ b → (TJ6 a).2.1 ≠ (TJ6 b).2.1 := by decide +kernel
theorem tyJ6_ok : ∀ k, k < 0 → parseFieldDescriptor (TJ6 k).2.2.1 = some (tyJ6 k) := by decide +kernel
abbrev cJ6_bitCount_0f7a4 : ByteArray := prog_14_method_49_code
def yJ6_bitCount_0f7a4 : MethodName := ⟨RJ6, "bitCount", "(I)I"⟩
def RJ9 : String := "java/lang/Math"
def TJ9 : u_T := fun k => match k with
  | _ => ("", "", "", false)
def tyJ9 : Nat → FieldType := fun k => match k with
  | _ => .int
abbrev wsJ90 : List Cond := u_ws RJ9 TJ9 0
theorem nmJ9 : ∀ a, a < 0 → ∀ b, b < 0 → a ≠ b → (TJ9 a).2.1 ≠ (TJ9 b).2.1 := by decide +kernel
theorem tyJ9_ok : ∀ k, k < 0 → parseFieldDescriptor (TJ9 k).2.2.1 = some (tyJ9 k) := by decide +kernel
abbrev cJ9_max_7cf53 : ByteArray := prog_15_method_65_code
def yJ9_max_7cf53 : MethodName := ⟨RJ9, "max", "(II)I"⟩
abbrev cJ9_min_7cf53 : ByteArray := prog_15_method_69_code
def yJ9_min_7cf53 : MethodName := ⟨RJ9, "min", "(II)I"⟩
def RJ0 : String := "java/lang/String"
def TJ0 : u_T := fun k => match k with
  | _ => ("", "", "", false)
def tyJ0 : Nat → FieldType := fun k => match k with
  | _ => .int
abbrev wsJ00 : List Cond := u_ws RJ0 TJ0 0
theorem nmJ0 : ∀ a, a < 0 → ∀ b, b < 0 → a ≠ b → (TJ0 a).2.1 ≠ (TJ0 b).2.1 := by decide +kernel
theorem tyJ0_ok : ∀ k, k < 0 → parseFieldDescriptor (TJ0 k).2.2.1 = some (tyJ0 k) := by decide +kernel
def RL : String := "SlideBoardsLaw"
abbrev cL_cell : ByteArray := method_2_code
def yL_cell : MethodName := ⟨RL, "cell", "([II)I"⟩
abbrev cL_wall : ByteArray := method_3_code
def yL_wall : MethodName := ⟨RL, "wall", "(LSlideBoards;IIZ[J)I"⟩
abbrev cL_block : ByteArray := method_4_code
def yL_block : MethodName := ⟨RL, "block", "(LSlideBoards;I[J)I"⟩
abbrev cL_cell_ : ByteArray := method_5_code
def yL_cell_ : MethodName := ⟨RL, "cell", "(LSlideBoards;III[J)I"⟩
abbrev cL_place : ByteArray := method_6_code
def yL_place : MethodName := ⟨RL, "place", "(LSlideBoards;I[J)I"⟩
abbrev cL_slide : ByteArray := method_7_code
def yL_slide : MethodName := ⟨RL, "slide", "(LSlideBoards;III[J)I"⟩
abbrev cL_goal : ByteArray := method_8_code
def yL_goal : MethodName := ⟨RL, "goal", "(LSlideBoards;III[J)I"⟩
abbrev cL_kindGoal : ByteArray := method_9_code
def yL_kindGoal : MethodName := ⟨RL, "kindGoal", "(LSlideBoards;III[J)I"⟩
abbrev cL_join : ByteArray := method_10_code
def yL_join : MethodName := ⟨RL, "join", "(LSlideBoards;II[J)I"⟩
abbrev cL_tile : ByteArray := method_11_code
def yL_tile : MethodName := ⟨RL, "tile", "(LSlideBoards;I[J)I"⟩
abbrev cL_shift : ByteArray := method_12_code
def yL_shift : MethodName := ⟨RL, "shift", "(LSlideBoards;I[J)I"⟩
abbrev cL_swap : ByteArray := method_13_code
def yL_swap : MethodName := ⟨RL, "swap", "(LSlideBoards;II[J)I"⟩
abbrev cL_law : ByteArray := code
def yL_law : MethodName := ⟨RL, "law", "([I)Z"⟩
abbrev vwCl : List vw_C := [(RJx00060, TJx00060, 6), (RX0, TX0, 10), (RX1, TX1, 11), (RX2, TX2, 4), (RX3, TX3, 3), (RX4, TX4, 7), (RX5, TX5, 7), (RX6, TX6, 5), (RX7, TX7, 30)]
end
section
theorem dJx00060_init_a7421_0 : decode cJx00060_init_a7421 0 = .ok (.aload_n 0, 1) := by decide +kernel
theorem dJx00060_init_a7421_1 : decode cJx00060_init_a7421 1 = .ok (.aload_n 1, 1) := by decide +kernel
theorem dJx00060_init_a7421_2 : decode cJx00060_init_a7421 2 = .ok (.invokespecial 7, 3) := by decide +kernel
theorem dJx00060_init_a7421_5 : decode cJx00060_init_a7421 5 = .ok (.return_, 1) := by decide +kernel
theorem dJ6_bitCount_0f7a4_0 : decode cJ6_bitCount_0f7a4 0 = .ok (.iload_n 0, 1) := by decide +kernel
theorem dJ6_bitCount_0f7a4_1 : decode cJ6_bitCount_0f7a4 1 = .ok (.iload_n 0, 1) := by decide +kernel
theorem dJ6_bitCount_0f7a4_2 : decode cJ6_bitCount_0f7a4 2 = .ok (.iconst 1, 1) := by decide +kernel
theorem dJ6_bitCount_0f7a4_3 : decode cJ6_bitCount_0f7a4 3 = .ok (.iushr, 1) := by decide +kernel
theorem dJ6_bitCount_0f7a4_4 : decode cJ6_bitCount_0f7a4 4 = .ok (.ldc_w 265, 3) := by decide +kernel
theorem dJ6_bitCount_0f7a4_7 : decode cJ6_bitCount_0f7a4 7 = .ok (.iand, 1) := by decide +kernel
theorem dJ6_bitCount_0f7a4_8 : decode cJ6_bitCount_0f7a4 8 = .ok (.isub, 1) := by decide +kernel
theorem dJ6_bitCount_0f7a4_9 : decode cJ6_bitCount_0f7a4 9 = .ok (.istore_n 0, 1) := by decide +kernel
theorem dJ6_bitCount_0f7a4_10 : decode cJ6_bitCount_0f7a4 10 = .ok (.iload_n 0, 1) := by decide +kernel
theorem dJ6_bitCount_0f7a4_11 : decode cJ6_bitCount_0f7a4 11 = .ok (.ldc_w 266, 3) := by decide +kernel
theorem dJ6_bitCount_0f7a4_14 : decode cJ6_bitCount_0f7a4 14 = .ok (.iand, 1) := by decide +kernel
theorem dJ6_bitCount_0f7a4_15 : decode cJ6_bitCount_0f7a4 15 = .ok (.iload_n 0, 1) := by decide +kernel
theorem dJ6_bitCount_0f7a4_16 : decode cJ6_bitCount_0f7a4 16 = .ok (.iconst 2, 1) := by decide +kernel
theorem dJ6_bitCount_0f7a4_17 : decode cJ6_bitCount_0f7a4 17 = .ok (.iushr, 1) := by decide +kernel
theorem dJ6_bitCount_0f7a4_18 : decode cJ6_bitCount_0f7a4 18 = .ok (.ldc_w 266, 3) := by decide +kernel
theorem dJ6_bitCount_0f7a4_21 : decode cJ6_bitCount_0f7a4 21 = .ok (.iand, 1) := by decide +kernel
theorem dJ6_bitCount_0f7a4_22 : decode cJ6_bitCount_0f7a4 22 = .ok (.iadd, 1) := by decide +kernel
theorem dJ6_bitCount_0f7a4_23 : decode cJ6_bitCount_0f7a4 23 = .ok (.istore_n 0, 1) := by decide +kernel
theorem dJ6_bitCount_0f7a4_24 : decode cJ6_bitCount_0f7a4 24 = .ok (.iload_n 0, 1) := by decide +kernel
theorem dJ6_bitCount_0f7a4_25 : decode cJ6_bitCount_0f7a4 25 = .ok (.iload_n 0, 1) := by decide +kernel
theorem dJ6_bitCount_0f7a4_26 : decode cJ6_bitCount_0f7a4 26 = .ok (.iconst 4, 1) := by decide +kernel
theorem dJ6_bitCount_0f7a4_27 : decode cJ6_bitCount_0f7a4 27 = .ok (.iushr, 1) := by decide +kernel
theorem dJ6_bitCount_0f7a4_28 : decode cJ6_bitCount_0f7a4 28 = .ok (.iadd, 1) := by decide +kernel
theorem dJ6_bitCount_0f7a4_29 : decode cJ6_bitCount_0f7a4 29 = .ok (.ldc_w 267, 3) := by decide +kernel
theorem dJ6_bitCount_0f7a4_32 : decode cJ6_bitCount_0f7a4 32 = .ok (.iand, 1) := by decide +kernel
theorem dJ6_bitCount_0f7a4_33 : decode cJ6_bitCount_0f7a4 33 = .ok (.istore_n 0, 1) := by decide +kernel
theorem dJ6_bitCount_0f7a4_34 : decode cJ6_bitCount_0f7a4 34 = .ok (.iload_n 0, 1) := by decide +kernel
theorem dJ6_bitCount_0f7a4_35 : decode cJ6_bitCount_0f7a4 35 = .ok (.iload_n 0, 1) := by decide +kernel
theorem dJ6_bitCount_0f7a4_36 : decode cJ6_bitCount_0f7a4 36 = .ok (.bipush 8, 2) := by decide +kernel
theorem dJ6_bitCount_0f7a4_38 : decode cJ6_bitCount_0f7a4 38 = .ok (.iushr, 1) := by decide +kernel
theorem dJ6_bitCount_0f7a4_39 : decode cJ6_bitCount_0f7a4 39 = .ok (.iadd, 1) := by decide +kernel
theorem dJ6_bitCount_0f7a4_40 : decode cJ6_bitCount_0f7a4 40 = .ok (.istore_n 0, 1) := by decide +kernel
theorem dJ6_bitCount_0f7a4_41 : decode cJ6_bitCount_0f7a4 41 = .ok (.iload_n 0, 1) := by decide +kernel
theorem dJ6_bitCount_0f7a4_42 : decode cJ6_bitCount_0f7a4 42 = .ok (.iload_n 0, 1) := by decide +kernel
theorem dJ6_bitCount_0f7a4_43 : decode cJ6_bitCount_0f7a4 43 = .ok (.bipush 16, 2) := by decide +kernel
theorem dJ6_bitCount_0f7a4_45 : decode cJ6_bitCount_0f7a4 45 = .ok (.iushr, 1) := by decide +kernel
theorem dJ6_bitCount_0f7a4_46 : decode cJ6_bitCount_0f7a4 46 = .ok (.iadd, 1) := by decide +kernel
theorem dJ6_bitCount_0f7a4_47 : decode cJ6_bitCount_0f7a4 47 = .ok (.istore_n 0, 1) := by decide +kernel
theorem dJ6_bitCount_0f7a4_48 : decode cJ6_bitCount_0f7a4 48 = .ok (.iload_n 0, 1) := by decide +kernel
theorem dJ6_bitCount_0f7a4_49 : decode cJ6_bitCount_0f7a4 49 = .ok (.bipush 63, 2) := by decide +kernel
theorem dJ6_bitCount_0f7a4_51 : decode cJ6_bitCount_0f7a4 51 = .ok (.iand, 1) := by decide +kernel
theorem dJ6_bitCount_0f7a4_52 : decode cJ6_bitCount_0f7a4 52 = .ok (.ireturn, 1) := by decide +kernel
theorem dJ9_max_7cf53_0 : decode cJ9_max_7cf53 0 = .ok (.iload_n 0, 1) := by decide +kernel
theorem dJ9_max_7cf53_1 : decode cJ9_max_7cf53 1 = .ok (.iload_n 1, 1) := by decide +kernel
theorem dJ9_max_7cf53_2 : decode cJ9_max_7cf53 2 = .ok (.if_icmp .lt 7, 3) := by decide +kernel
theorem dJ9_max_7cf53_5 : decode cJ9_max_7cf53 5 = .ok (.iload_n 0, 1) := by decide +kernel
theorem dJ9_max_7cf53_6 : decode cJ9_max_7cf53 6 = .ok (.goto 4, 3) := by decide +kernel
theorem dJ9_max_7cf53_9 : decode cJ9_max_7cf53 9 = .ok (.iload_n 1, 1) := by decide +kernel
theorem dJ9_max_7cf53_10 : decode cJ9_max_7cf53 10 = .ok (.ireturn, 1) := by decide +kernel
theorem dJ9_min_7cf53_0 : decode cJ9_min_7cf53 0 = .ok (.iload_n 0, 1) := by decide +kernel
theorem dJ9_min_7cf53_1 : decode cJ9_min_7cf53 1 = .ok (.iload_n 1, 1) := by decide +kernel
theorem dJ9_min_7cf53_2 : decode cJ9_min_7cf53 2 = .ok (.if_icmp .gt 7, 3) := by decide +kernel
theorem dJ9_min_7cf53_5 : decode cJ9_min_7cf53 5 = .ok (.iload_n 0, 1) := by decide +kernel
theorem dJ9_min_7cf53_6 : decode cJ9_min_7cf53 6 = .ok (.goto 4, 3) := by decide +kernel
theorem dJ9_min_7cf53_9 : decode cJ9_min_7cf53 9 = .ok (.iload_n 1, 1) := by decide +kernel
theorem dJ9_min_7cf53_10 : decode cJ9_min_7cf53 10 = .ok (.ireturn, 1) := by decide +kernel
theorem dX0_init_0 : decode cX0_init 0 = .ok (.aload_n 0, 1) := by decide +kernel
theorem dX0_init_1 : decode cX0_init 1 = .ok (.invokespecial 3, 3) := by decide +kernel
theorem dX0_init_4 : decode cX0_init 4 = .ok (.aload_n 0, 1) := by decide +kernel
theorem dX0_init_5 : decode cX0_init 5 = .ok (.bipush 8, 2) := by decide +kernel
theorem dX0_init_7 : decode cX0_init 7 = .ok (.newarray .int, 2) := by decide +kernel
theorem dX0_init_9 : decode cX0_init 9 = .ok (.putfield 9, 3) := by decide +kernel
theorem dX0_init_12 : decode cX0_init 12 = .ok (.aload_n 0, 1) := by decide +kernel
theorem dX0_init_13 : decode cX0_init 13 = .ok (.bipush 8, 2) := by decide +kernel
theorem dX0_init_15 : decode cX0_init 15 = .ok (.newarray .int, 2) := by decide +kernel
theorem dX0_init_17 : decode cX0_init 17 = .ok (.putfield 15, 3) := by decide +kernel
theorem dX0_init_20 : decode cX0_init 20 = .ok (.aload_n 0, 1) := by decide +kernel
theorem dX0_init_21 : decode cX0_init 21 = .ok (.iload_n 1, 1) := by decide +kernel
theorem dX0_init_22 : decode cX0_init 22 = .ok (.putfield 18, 3) := by decide +kernel
theorem dX0_init_25 : decode cX0_init 25 = .ok (.aload_n 0, 1) := by decide +kernel
theorem dX0_init_26 : decode cX0_init 26 = .ok (.iload_n 2, 1) := by decide +kernel
theorem dX0_init_27 : decode cX0_init 27 = .ok (.putfield 22, 3) := by decide +kernel
theorem dX0_init_30 : decode cX0_init 30 = .ok (.iconst 0, 1) := by decide +kernel
theorem dX0_init_31 : decode cX0_init 31 = .ok (.istore_n 3, 1) := by decide +kernel
theorem dX0_init_32 : decode cX0_init 32 = .ok (.iconst 0, 1) := by decide +kernel
theorem dX0_init_33 : decode cX0_init 33 = .ok (.istore 4, 2) := by decide +kernel
theorem dX0_init_35 : decode cX0_init 35 = .ok (.iload 4, 2) := by decide +kernel
theorem dX0_init_37 : decode cX0_init 37 = .ok (.iload_n 2, 1) := by decide +kernel
theorem dX0_init_38 : decode cX0_init 38 = .ok (.if_icmp .ge 18, 3) := by decide +kernel
theorem dX0_init_41 : decode cX0_init 41 = .ok (.iload_n 3, 1) := by decide +kernel
theorem dX0_init_42 : decode cX0_init 42 = .ok (.iconst 1, 1) := by decide +kernel
theorem dX0_init_43 : decode cX0_init 43 = .ok (.iload_n 1, 1) := by decide +kernel
theorem dX0_init_44 : decode cX0_init 44 = .ok (.iload 4, 2) := by decide +kernel
theorem dX0_init_46 : decode cX0_init 46 = .ok (.imul, 1) := by decide +kernel
theorem dX0_init_47 : decode cX0_init 47 = .ok (.ishl, 1) := by decide +kernel
theorem dX0_init_48 : decode cX0_init 48 = .ok (.ior, 1) := by decide +kernel
theorem dX0_init_49 : decode cX0_init 49 = .ok (.istore_n 3, 1) := by decide +kernel
theorem dX0_init_50 : decode cX0_init 50 = .ok (.iinc 4 1, 3) := by decide +kernel
theorem dX0_init_53 : decode cX0_init 53 = .ok (.goto (-18), 3) := by decide +kernel
theorem dX0_init_56 : decode cX0_init 56 = .ok (.aload_n 0, 1) := by decide +kernel
theorem dX0_init_57 : decode cX0_init 57 = .ok (.iload_n 3, 1) := by decide +kernel
theorem dX0_init_58 : decode cX0_init 58 = .ok (.putfield 25, 3) := by decide +kernel
theorem dX0_init_61 : decode cX0_init 61 = .ok (.aload_n 0, 1) := by decide +kernel
theorem dX0_init_62 : decode cX0_init 62 = .ok (.iload_n 3, 1) := by decide +kernel
theorem dX0_init_63 : decode cX0_init 63 = .ok (.iload_n 1, 1) := by decide +kernel
theorem dX0_init_64 : decode cX0_init 64 = .ok (.iconst 1, 1) := by decide +kernel
theorem dX0_init_65 : decode cX0_init 65 = .ok (.isub, 1) := by decide +kernel
theorem dX0_init_66 : decode cX0_init 66 = .ok (.ishl, 1) := by decide +kernel
theorem dX0_init_67 : decode cX0_init 67 = .ok (.putfield 28, 3) := by decide +kernel
theorem dX0_init_70 : decode cX0_init 70 = .ok (.aload_n 0, 1) := by decide +kernel
theorem dX0_init_71 : decode cX0_init 71 = .ok (.iconst 1, 1) := by decide +kernel
theorem dX0_init_72 : decode cX0_init 72 = .ok (.iload_n 1, 1) := by decide +kernel
theorem dX0_init_73 : decode cX0_init 73 = .ok (.ishl, 1) := by decide +kernel
theorem dX0_init_74 : decode cX0_init 74 = .ok (.iconst 1, 1) := by decide +kernel
theorem dX0_init_75 : decode cX0_init 75 = .ok (.isub, 1) := by decide +kernel
theorem dX0_init_76 : decode cX0_init 76 = .ok (.putfield 31, 3) := by decide +kernel
theorem dX0_init_79 : decode cX0_init 79 = .ok (.aload_n 0, 1) := by decide +kernel
theorem dX0_init_80 : decode cX0_init 80 = .ok (.aload_n 0, 1) := by decide +kernel
theorem dX0_init_81 : decode cX0_init 81 = .ok (.getfield 31, 3) := by decide +kernel
theorem dX0_init_84 : decode cX0_init 84 = .ok (.iload_n 1, 1) := by decide +kernel
theorem dX0_init_85 : decode cX0_init 85 = .ok (.iload_n 2, 1) := by decide +kernel
theorem dX0_init_86 : decode cX0_init 86 = .ok (.iconst 1, 1) := by decide +kernel
theorem dX0_init_87 : decode cX0_init 87 = .ok (.isub, 1) := by decide +kernel
theorem dX0_init_88 : decode cX0_init 88 = .ok (.imul, 1) := by decide +kernel
theorem dX0_init_89 : decode cX0_init 89 = .ok (.ishl, 1) := by decide +kernel
theorem dX0_init_90 : decode cX0_init 90 = .ok (.putfield 34, 3) := by decide +kernel
theorem dX0_init_93 : decode cX0_init 93 = .ok (.return_, 1) := by decide +kernel
theorem dX0_hasCell_0 : decode cX0_hasCell 0 = .ok (.iload_n 1, 1) := by decide +kernel
theorem dX0_hasCell_1 : decode cX0_hasCell 1 = .ok (.ifCond .lt 27, 3) := by decide +kernel
theorem dX0_hasCell_4 : decode cX0_hasCell 4 = .ok (.iload_n 1, 1) := by decide +kernel
theorem dX0_hasCell_5 : decode cX0_hasCell 5 = .ok (.aload_n 0, 1) := by decide +kernel
theorem dX0_hasCell_6 : decode cX0_hasCell 6 = .ok (.getfield 18, 3) := by decide +kernel
theorem dX0_hasCell_9 : decode cX0_hasCell 9 = .ok (.if_icmp .ge 19, 3) := by decide +kernel
theorem dX0_hasCell_12 : decode cX0_hasCell 12 = .ok (.iload_n 2, 1) := by decide +kernel
theorem dX0_hasCell_13 : decode cX0_hasCell 13 = .ok (.ifCond .lt 15, 3) := by decide +kernel
theorem dX0_hasCell_16 : decode cX0_hasCell 16 = .ok (.iload_n 2, 1) := by decide +kernel
theorem dX0_hasCell_17 : decode cX0_hasCell 17 = .ok (.aload_n 0, 1) := by decide +kernel
theorem dX0_hasCell_18 : decode cX0_hasCell 18 = .ok (.getfield 22, 3) := by decide +kernel
theorem dX0_hasCell_21 : decode cX0_hasCell 21 = .ok (.if_icmp .ge 7, 3) := by decide +kernel
theorem dX0_hasCell_24 : decode cX0_hasCell 24 = .ok (.iconst 1, 1) := by decide +kernel
theorem dX0_hasCell_25 : decode cX0_hasCell 25 = .ok (.goto 4, 3) := by decide +kernel
theorem dX0_hasCell_28 : decode cX0_hasCell 28 = .ok (.iconst 0, 1) := by decide +kernel
theorem dX0_hasCell_29 : decode cX0_hasCell 29 = .ok (.ireturn, 1) := by decide +kernel
theorem dX0_cellOf_0 : decode cX0_cellOf 0 = .ok (.aload_n 0, 1) := by decide +kernel
theorem dX0_cellOf_1 : decode cX0_cellOf 1 = .ok (.getfield 18, 3) := by decide +kernel
theorem dX0_cellOf_4 : decode cX0_cellOf 4 = .ok (.iload_n 2, 1) := by decide +kernel
theorem dX0_cellOf_5 : decode cX0_cellOf 5 = .ok (.imul, 1) := by decide +kernel
theorem dX0_cellOf_6 : decode cX0_cellOf 6 = .ok (.iload_n 1, 1) := by decide +kernel
theorem dX0_cellOf_7 : decode cX0_cellOf 7 = .ok (.iadd, 1) := by decide +kernel
theorem dX0_cellOf_8 : decode cX0_cellOf 8 = .ok (.ireturn, 1) := by decide +kernel
theorem dX0_bitOf_0 : decode cX0_bitOf 0 = .ok (.iconst 1, 1) := by decide +kernel
theorem dX0_bitOf_1 : decode cX0_bitOf 1 = .ok (.aload_n 0, 1) := by decide +kernel
theorem dX0_bitOf_2 : decode cX0_bitOf 2 = .ok (.iload_n 1, 1) := by decide +kernel
theorem dX0_bitOf_3 : decode cX0_bitOf 3 = .ok (.iload_n 2, 1) := by decide +kernel
theorem dX0_bitOf_4 : decode cX0_bitOf 4 = .ok (.invokevirtual 37, 3) := by decide +kernel
theorem dX0_bitOf_7 : decode cX0_bitOf 7 = .ok (.ishl, 1) := by decide +kernel
theorem dX0_bitOf_8 : decode cX0_bitOf 8 = .ok (.ireturn, 1) := by decide +kernel
theorem dX0_leastCell_0 : decode cX0_leastCell 0 = .ok (.iload_n 0, 1) := by decide +kernel
theorem dX0_leastCell_1 : decode cX0_leastCell 1 = .ok (.ifCond .ne 7, 3) := by decide +kernel
theorem dX0_leastCell_4 : decode cX0_leastCell 4 = .ok (.iconst (-1), 1) := by decide +kernel
theorem dX0_leastCell_5 : decode cX0_leastCell 5 = .ok (.goto 12, 3) := by decide +kernel
theorem dX0_leastCell_8 : decode cX0_leastCell 8 = .ok (.iload_n 0, 1) := by decide +kernel
theorem dX0_leastCell_9 : decode cX0_leastCell 9 = .ok (.iload_n 0, 1) := by decide +kernel
theorem dX0_leastCell_10 : decode cX0_leastCell 10 = .ok (.ineg, 1) := by decide +kernel
theorem dX0_leastCell_11 : decode cX0_leastCell 11 = .ok (.iand, 1) := by decide +kernel
theorem dX0_leastCell_12 : decode cX0_leastCell 12 = .ok (.iconst 1, 1) := by decide +kernel
theorem dX0_leastCell_13 : decode cX0_leastCell 13 = .ok (.isub, 1) := by decide +kernel
theorem dX0_leastCell_14 : decode cX0_leastCell 14 = .ok (.invokestatic 41, 3) := by decide +kernel
theorem dX0_leastCell_17 : decode cX0_leastCell 17 = .ok (.ireturn, 1) := by decide +kernel
theorem dX0_filled_0 : decode cX0_filled 0 = .ok (.aload_n 0, 1) := by decide +kernel
theorem dX0_filled_1 : decode cX0_filled 1 = .ok (.getfield 47, 3) := by decide +kernel
theorem dX0_filled_4 : decode cX0_filled 4 = .ok (.istore_n 1, 1) := by decide +kernel
theorem dX0_filled_5 : decode cX0_filled 5 = .ok (.iconst 0, 1) := by decide +kernel
theorem dX0_filled_6 : decode cX0_filled 6 = .ok (.istore_n 2, 1) := by decide +kernel
theorem dX0_filled_7 : decode cX0_filled 7 = .ok (.iload_n 2, 1) := by decide +kernel
theorem dX0_filled_8 : decode cX0_filled 8 = .ok (.aload_n 0, 1) := by decide +kernel
theorem dX0_filled_9 : decode cX0_filled 9 = .ok (.getfield 50, 3) := by decide +kernel
theorem dX0_filled_12 : decode cX0_filled 12 = .ok (.if_icmp .ge 18, 3) := by decide +kernel
theorem dX0_filled_15 : decode cX0_filled 15 = .ok (.iload_n 1, 1) := by decide +kernel
theorem dX0_filled_16 : decode cX0_filled 16 = .ok (.aload_n 0, 1) := by decide +kernel
theorem dX0_filled_17 : decode cX0_filled 17 = .ok (.getfield 15, 3) := by decide +kernel
theorem dX0_filled_20 : decode cX0_filled 20 = .ok (.iload_n 2, 1) := by decide +kernel
theorem dX0_filled_21 : decode cX0_filled 21 = .ok (.iaload, 1) := by decide +kernel
theorem dX0_filled_22 : decode cX0_filled 22 = .ok (.ior, 1) := by decide +kernel
theorem dX0_filled_23 : decode cX0_filled 23 = .ok (.istore_n 1, 1) := by decide +kernel
theorem dX0_filled_24 : decode cX0_filled 24 = .ok (.iinc 2 1, 3) := by decide +kernel
theorem dX0_filled_27 : decode cX0_filled 27 = .ok (.goto (-20), 3) := by decide +kernel
theorem dX0_filled_30 : decode cX0_filled 30 = .ok (.iload_n 1, 1) := by decide +kernel
theorem dX0_filled_31 : decode cX0_filled 31 = .ok (.ireturn, 1) := by decide +kernel
theorem dX0_setWall_0 : decode cX0_setWall 0 = .ok (.aload_n 0, 1) := by decide +kernel
theorem dX0_setWall_1 : decode cX0_setWall 1 = .ok (.invokevirtual 53, 3) := by decide +kernel
theorem dX0_setWall_4 : decode cX0_setWall 4 = .ok (.iload_n 1, 1) := by decide +kernel
theorem dX0_setWall_5 : decode cX0_setWall 5 = .ok (.iand, 1) := by decide +kernel
theorem dX0_setWall_6 : decode cX0_setWall 6 = .ok (.ifCond .ne 7, 3) := by decide +kernel
theorem dX0_setWall_9 : decode cX0_setWall 9 = .ok (.iconst 1, 1) := by decide +kernel
theorem dX0_setWall_10 : decode cX0_setWall 10 = .ok (.goto 4, 3) := by decide +kernel
theorem dX0_setWall_13 : decode cX0_setWall 13 = .ok (.iconst 0, 1) := by decide +kernel
theorem dX0_setWall_14 : decode cX0_setWall 14 = .ok (.istore_n 3, 1) := by decide +kernel
theorem dX0_setWall_15 : decode cX0_setWall 15 = .ok (.aload_n 0, 1) := by decide +kernel
theorem dX0_setWall_16 : decode cX0_setWall 16 = .ok (.getfield 47, 3) := by decide +kernel
theorem dX0_setWall_19 : decode cX0_setWall 19 = .ok (.iload_n 1, 1) := by decide +kernel
theorem dX0_setWall_20 : decode cX0_setWall 20 = .ok (.iand, 1) := by decide +kernel
theorem dX0_setWall_21 : decode cX0_setWall 21 = .ok (.ifCond .eq 7, 3) := by decide +kernel
theorem dX0_setWall_24 : decode cX0_setWall 24 = .ok (.iconst 1, 1) := by decide +kernel
theorem dX0_setWall_25 : decode cX0_setWall 25 = .ok (.goto 4, 3) := by decide +kernel
theorem dX0_setWall_28 : decode cX0_setWall 28 = .ok (.iconst 0, 1) := by decide +kernel
theorem dX0_setWall_29 : decode cX0_setWall 29 = .ok (.istore 4, 2) := by decide +kernel
theorem dX0_setWall_31 : decode cX0_setWall 31 = .ok (.iload_n 2, 1) := by decide +kernel
theorem dX0_setWall_32 : decode cX0_setWall 32 = .ok (.ifCond .eq 10, 3) := by decide +kernel
theorem dX0_setWall_35 : decode cX0_setWall 35 = .ok (.iload_n 3, 1) := by decide +kernel
theorem dX0_setWall_36 : decode cX0_setWall 36 = .ok (.ifCond .ne 13, 3) := by decide +kernel
theorem dX0_setWall_39 : decode cX0_setWall 39 = .ok (.goto 8, 3) := by decide +kernel
theorem dX0_setWall_42 : decode cX0_setWall 42 = .ok (.iload 4, 2) := by decide +kernel
theorem dX0_setWall_44 : decode cX0_setWall 44 = .ok (.ifCond .ne 5, 3) := by decide +kernel
theorem dX0_setWall_47 : decode cX0_setWall 47 = .ok (.iconst 0, 1) := by decide +kernel
theorem dX0_setWall_48 : decode cX0_setWall 48 = .ok (.ireturn, 1) := by decide +kernel
theorem dX0_setWall_49 : decode cX0_setWall 49 = .ok (.aload_n 0, 1) := by decide +kernel
theorem dX0_setWall_50 : decode cX0_setWall 50 = .ok (.dup, 1) := by decide +kernel
theorem dX0_setWall_51 : decode cX0_setWall 51 = .ok (.getfield 47, 3) := by decide +kernel
theorem dX0_setWall_54 : decode cX0_setWall 54 = .ok (.iload_n 1, 1) := by decide +kernel
theorem dX0_setWall_55 : decode cX0_setWall 55 = .ok (.ixor, 1) := by decide +kernel
theorem dX0_setWall_56 : decode cX0_setWall 56 = .ok (.putfield 47, 3) := by decide +kernel
theorem dX0_setWall_59 : decode cX0_setWall 59 = .ok (.iconst 1, 1) := by decide +kernel
theorem dX0_setWall_60 : decode cX0_setWall 60 = .ok (.ireturn, 1) := by decide +kernel
theorem dX0_addBlock_0 : decode cX0_addBlock 0 = .ok (.aload_n 0, 1) := by decide +kernel
theorem dX0_addBlock_1 : decode cX0_addBlock 1 = .ok (.getfield 50, 3) := by decide +kernel
theorem dX0_addBlock_4 : decode cX0_addBlock 4 = .ok (.bipush 8, 2) := by decide +kernel
theorem dX0_addBlock_6 : decode cX0_addBlock 6 = .ok (.if_icmp .lt 5, 3) := by decide +kernel
theorem dX0_addBlock_9 : decode cX0_addBlock 9 = .ok (.iconst (-1), 1) := by decide +kernel
theorem dX0_addBlock_10 : decode cX0_addBlock 10 = .ok (.ireturn, 1) := by decide +kernel
theorem dX0_addBlock_11 : decode cX0_addBlock 11 = .ok (.aload_n 0, 1) := by decide +kernel
theorem dX0_addBlock_12 : decode cX0_addBlock 12 = .ok (.getfield 9, 3) := by decide +kernel
theorem dX0_addBlock_15 : decode cX0_addBlock 15 = .ok (.aload_n 0, 1) := by decide +kernel
theorem dX0_addBlock_16 : decode cX0_addBlock 16 = .ok (.getfield 50, 3) := by decide +kernel
theorem dX0_addBlock_19 : decode cX0_addBlock 19 = .ok (.iload_n 1, 1) := by decide +kernel
theorem dX0_addBlock_20 : decode cX0_addBlock 20 = .ok (.iastore, 1) := by decide +kernel
theorem dX0_addBlock_21 : decode cX0_addBlock 21 = .ok (.aload_n 0, 1) := by decide +kernel
theorem dX0_addBlock_22 : decode cX0_addBlock 22 = .ok (.dup, 1) := by decide +kernel
theorem dX0_addBlock_23 : decode cX0_addBlock 23 = .ok (.getfield 50, 3) := by decide +kernel
theorem dX0_addBlock_26 : decode cX0_addBlock 26 = .ok (.iconst 1, 1) := by decide +kernel
theorem dX0_addBlock_27 : decode cX0_addBlock 27 = .ok (.iadd, 1) := by decide +kernel
theorem dX0_addBlock_28 : decode cX0_addBlock 28 = .ok (.putfield 50, 3) := by decide +kernel
theorem dX0_addBlock_31 : decode cX0_addBlock 31 = .ok (.aload_n 0, 1) := by decide +kernel
theorem dX0_addBlock_32 : decode cX0_addBlock 32 = .ok (.getfield 50, 3) := by decide +kernel
theorem dX0_addBlock_35 : decode cX0_addBlock 35 = .ok (.iconst 1, 1) := by decide +kernel
theorem dX0_addBlock_36 : decode cX0_addBlock 36 = .ok (.isub, 1) := by decide +kernel
theorem dX0_addBlock_37 : decode cX0_addBlock 37 = .ok (.ireturn, 1) := by decide +kernel
theorem dX0_addCell_0 : decode cX0_addCell 0 = .ok (.aload_n 0, 1) := by decide +kernel
theorem dX0_addCell_1 : decode cX0_addCell 1 = .ok (.invokevirtual 53, 3) := by decide +kernel
theorem dX0_addCell_4 : decode cX0_addCell 4 = .ok (.iload_n 2, 1) := by decide +kernel
theorem dX0_addCell_5 : decode cX0_addCell 5 = .ok (.iand, 1) := by decide +kernel
theorem dX0_addCell_6 : decode cX0_addCell 6 = .ok (.ifCond .eq 5, 3) := by decide +kernel
theorem dX0_addCell_9 : decode cX0_addCell 9 = .ok (.iconst 0, 1) := by decide +kernel
theorem dX0_addCell_10 : decode cX0_addCell 10 = .ok (.ireturn, 1) := by decide +kernel
theorem dX0_addCell_11 : decode cX0_addCell 11 = .ok (.aload_n 0, 1) := by decide +kernel
theorem dX0_addCell_12 : decode cX0_addCell 12 = .ok (.getfield 15, 3) := by decide +kernel
theorem dX0_addCell_15 : decode cX0_addCell 15 = .ok (.iload_n 1, 1) := by decide +kernel
theorem dX0_addCell_16 : decode cX0_addCell 16 = .ok (.dup2, 1) := by decide +kernel
theorem dX0_addCell_17 : decode cX0_addCell 17 = .ok (.iaload, 1) := by decide +kernel
theorem dX0_addCell_18 : decode cX0_addCell 18 = .ok (.iload_n 2, 1) := by decide +kernel
theorem dX0_addCell_19 : decode cX0_addCell 19 = .ok (.ior, 1) := by decide +kernel
theorem dX0_addCell_20 : decode cX0_addCell 20 = .ok (.iastore, 1) := by decide +kernel
theorem dX0_addCell_21 : decode cX0_addCell 21 = .ok (.iconst 1, 1) := by decide +kernel
theorem dX0_addCell_22 : decode cX0_addCell 22 = .ok (.ireturn, 1) := by decide +kernel
theorem dX0_slideBlock_0 : decode cX0_slideBlock 0 = .ok (.aload_n 0, 1) := by decide +kernel
theorem dX0_slideBlock_1 : decode cX0_slideBlock 1 = .ok (.invokevirtual 53, 3) := by decide +kernel
theorem dX0_slideBlock_4 : decode cX0_slideBlock 4 = .ok (.aload_n 0, 1) := by decide +kernel
theorem dX0_slideBlock_5 : decode cX0_slideBlock 5 = .ok (.getfield 15, 3) := by decide +kernel
theorem dX0_slideBlock_8 : decode cX0_slideBlock 8 = .ok (.iload_n 1, 1) := by decide +kernel
theorem dX0_slideBlock_9 : decode cX0_slideBlock 9 = .ok (.iaload, 1) := by decide +kernel
theorem dX0_slideBlock_10 : decode cX0_slideBlock 10 = .ok (.iconst (-1), 1) := by decide +kernel
theorem dX0_slideBlock_11 : decode cX0_slideBlock 11 = .ok (.ixor, 1) := by decide +kernel
theorem dX0_slideBlock_12 : decode cX0_slideBlock 12 = .ok (.iand, 1) := by decide +kernel
theorem dX0_slideBlock_13 : decode cX0_slideBlock 13 = .ok (.istore 4, 2) := by decide +kernel
theorem dX0_slideBlock_15 : decode cX0_slideBlock 15 = .ok (.iconst 0, 1) := by decide +kernel
theorem dX0_slideBlock_16 : decode cX0_slideBlock 16 = .ok (.istore 5, 2) := by decide +kernel
theorem dX0_slideBlock_18 : decode cX0_slideBlock 18 = .ok (.iload 5, 2) := by decide +kernel
theorem dX0_slideBlock_20 : decode cX0_slideBlock 20 = .ok (.iload_n 3, 1) := by decide +kernel
theorem dX0_slideBlock_21 : decode cX0_slideBlock 21 = .ok (.if_icmp .ge 46, 3) := by decide +kernel
theorem dX0_slideBlock_24 : decode cX0_slideBlock 24 = .ok (.iload 5, 2) := by decide +kernel
theorem dX0_slideBlock_26 : decode cX0_slideBlock 26 = .ok (.iconst 5, 1) := by decide +kernel
theorem dX0_slideBlock_27 : decode cX0_slideBlock 27 = .ok (.if_icmp .ge 40, 3) := by decide +kernel
theorem dX0_slideBlock_30 : decode cX0_slideBlock 30 = .ok (.aload_n 0, 1) := by decide +kernel
theorem dX0_slideBlock_31 : decode cX0_slideBlock 31 = .ok (.aload_n 0, 1) := by decide +kernel
theorem dX0_slideBlock_32 : decode cX0_slideBlock 32 = .ok (.getfield 15, 3) := by decide +kernel
theorem dX0_slideBlock_35 : decode cX0_slideBlock 35 = .ok (.iload_n 1, 1) := by decide +kernel
theorem dX0_slideBlock_36 : decode cX0_slideBlock 36 = .ok (.iaload, 1) := by decide +kernel
theorem dX0_slideBlock_37 : decode cX0_slideBlock 37 = .ok (.iload_n 2, 1) := by decide +kernel
theorem dX0_slideBlock_38 : decode cX0_slideBlock 38 = .ok (.iload 4, 2) := by decide +kernel
theorem dX0_slideBlock_40 : decode cX0_slideBlock 40 = .ok (.invokevirtual 57, 3) := by decide +kernel
theorem dX0_slideBlock_43 : decode cX0_slideBlock 43 = .ok (.istore 6, 2) := by decide +kernel
theorem dX0_slideBlock_45 : decode cX0_slideBlock 45 = .ok (.iload 6, 2) := by decide +kernel
theorem dX0_slideBlock_47 : decode cX0_slideBlock 47 = .ok (.ifCond .ne 6, 3) := by decide +kernel
theorem dX0_slideBlock_50 : decode cX0_slideBlock 50 = .ok (.goto 17, 3) := by decide +kernel
theorem dX0_slideBlock_53 : decode cX0_slideBlock 53 = .ok (.aload_n 0, 1) := by decide +kernel
theorem dX0_slideBlock_54 : decode cX0_slideBlock 54 = .ok (.getfield 15, 3) := by decide +kernel
theorem dX0_slideBlock_57 : decode cX0_slideBlock 57 = .ok (.iload_n 1, 1) := by decide +kernel
theorem dX0_slideBlock_58 : decode cX0_slideBlock 58 = .ok (.iload 6, 2) := by decide +kernel
theorem dX0_slideBlock_60 : decode cX0_slideBlock 60 = .ok (.iastore, 1) := by decide +kernel
theorem dX0_slideBlock_61 : decode cX0_slideBlock 61 = .ok (.iinc 5 1, 3) := by decide +kernel
theorem dX0_slideBlock_64 : decode cX0_slideBlock 64 = .ok (.goto (-46), 3) := by decide +kernel
theorem dX0_slideBlock_67 : decode cX0_slideBlock 67 = .ok (.iload 5, 2) := by decide +kernel
theorem dX0_slideBlock_69 : decode cX0_slideBlock 69 = .ok (.ireturn, 1) := by decide +kernel
theorem dX0_moved_0 : decode cX0_moved 0 = .ok (.iload_n 2, 1) := by decide +kernel
theorem dX0_moved_1 : decode cX0_moved 1 = .ok (.tableswitch 93 0 2 #[27, 48, 72], 27) := by decide +kernel
theorem dX0_moved_28 : decode cX0_moved 28 = .ok (.iload_n 1, 1) := by decide +kernel
theorem dX0_moved_29 : decode cX0_moved 29 = .ok (.aload_n 0, 1) := by decide +kernel
theorem dX0_moved_30 : decode cX0_moved 30 = .ok (.getfield 28, 3) := by decide +kernel
theorem dX0_moved_33 : decode cX0_moved 33 = .ok (.iand, 1) := by decide +kernel
theorem dX0_moved_34 : decode cX0_moved 34 = .ok (.ifCond .eq 7, 3) := by decide +kernel
theorem dX0_moved_37 : decode cX0_moved 37 = .ok (.iconst 0, 1) := by decide +kernel
theorem dX0_moved_38 : decode cX0_moved 38 = .ok (.goto 6, 3) := by decide +kernel
theorem dX0_moved_41 : decode cX0_moved 41 = .ok (.iload_n 1, 1) := by decide +kernel
theorem dX0_moved_42 : decode cX0_moved 42 = .ok (.iconst 1, 1) := by decide +kernel
theorem dX0_moved_43 : decode cX0_moved 43 = .ok (.ishl, 1) := by decide +kernel
theorem dX0_moved_44 : decode cX0_moved 44 = .ok (.istore 4, 2) := by decide +kernel
theorem dX0_moved_46 : decode cX0_moved 46 = .ok (.goto 69, 3) := by decide +kernel
theorem dX0_moved_49 : decode cX0_moved 49 = .ok (.iload_n 1, 1) := by decide +kernel
theorem dX0_moved_50 : decode cX0_moved 50 = .ok (.aload_n 0, 1) := by decide +kernel
theorem dX0_moved_51 : decode cX0_moved 51 = .ok (.getfield 34, 3) := by decide +kernel
theorem dX0_moved_54 : decode cX0_moved 54 = .ok (.iand, 1) := by decide +kernel
theorem dX0_moved_55 : decode cX0_moved 55 = .ok (.ifCond .eq 7, 3) := by decide +kernel
theorem dX0_moved_58 : decode cX0_moved 58 = .ok (.iconst 0, 1) := by decide +kernel
theorem dX0_moved_59 : decode cX0_moved 59 = .ok (.goto 9, 3) := by decide +kernel
theorem dX0_moved_62 : decode cX0_moved 62 = .ok (.iload_n 1, 1) := by decide +kernel
theorem dX0_moved_63 : decode cX0_moved 63 = .ok (.aload_n 0, 1) := by decide +kernel
theorem dX0_moved_64 : decode cX0_moved 64 = .ok (.getfield 18, 3) := by decide +kernel
theorem dX0_moved_67 : decode cX0_moved 67 = .ok (.ishl, 1) := by decide +kernel
theorem dX0_moved_68 : decode cX0_moved 68 = .ok (.istore 4, 2) := by decide +kernel
theorem dX0_moved_70 : decode cX0_moved 70 = .ok (.goto 45, 3) := by decide +kernel
theorem dX0_moved_73 : decode cX0_moved 73 = .ok (.iload_n 1, 1) := by decide +kernel
theorem dX0_moved_74 : decode cX0_moved 74 = .ok (.aload_n 0, 1) := by decide +kernel
theorem dX0_moved_75 : decode cX0_moved 75 = .ok (.getfield 25, 3) := by decide +kernel
theorem dX0_moved_78 : decode cX0_moved 78 = .ok (.iand, 1) := by decide +kernel
theorem dX0_moved_79 : decode cX0_moved 79 = .ok (.ifCond .eq 7, 3) := by decide +kernel
theorem dX0_moved_82 : decode cX0_moved 82 = .ok (.iconst 0, 1) := by decide +kernel
theorem dX0_moved_83 : decode cX0_moved 83 = .ok (.goto 6, 3) := by decide +kernel
theorem dX0_moved_86 : decode cX0_moved 86 = .ok (.iload_n 1, 1) := by decide +kernel
theorem dX0_moved_87 : decode cX0_moved 87 = .ok (.iconst 1, 1) := by decide +kernel
theorem dX0_moved_88 : decode cX0_moved 88 = .ok (.iushr, 1) := by decide +kernel
theorem dX0_moved_89 : decode cX0_moved 89 = .ok (.istore 4, 2) := by decide +kernel
theorem dX0_moved_91 : decode cX0_moved 91 = .ok (.goto 24, 3) := by decide +kernel
theorem dX0_moved_94 : decode cX0_moved 94 = .ok (.iload_n 1, 1) := by decide +kernel
theorem dX0_moved_95 : decode cX0_moved 95 = .ok (.aload_n 0, 1) := by decide +kernel
theorem dX0_moved_96 : decode cX0_moved 96 = .ok (.getfield 31, 3) := by decide +kernel
theorem dX0_moved_99 : decode cX0_moved 99 = .ok (.iand, 1) := by decide +kernel
theorem dX0_moved_100 : decode cX0_moved 100 = .ok (.ifCond .eq 7, 3) := by decide +kernel
theorem dX0_moved_103 : decode cX0_moved 103 = .ok (.iconst 0, 1) := by decide +kernel
theorem dX0_moved_104 : decode cX0_moved 104 = .ok (.goto 9, 3) := by decide +kernel
theorem dX0_moved_107 : decode cX0_moved 107 = .ok (.iload_n 1, 1) := by decide +kernel
theorem dX0_moved_108 : decode cX0_moved 108 = .ok (.aload_n 0, 1) := by decide +kernel
theorem dX0_moved_109 : decode cX0_moved 109 = .ok (.getfield 18, 3) := by decide +kernel
theorem dX0_moved_112 : decode cX0_moved 112 = .ok (.iushr, 1) := by decide +kernel
theorem dX0_moved_113 : decode cX0_moved 113 = .ok (.istore 4, 2) := by decide +kernel
theorem dX0_moved_115 : decode cX0_moved 115 = .ok (.iload 4, 2) := by decide +kernel
theorem dX0_moved_117 : decode cX0_moved 117 = .ok (.iload_n 3, 1) := by decide +kernel
theorem dX0_moved_118 : decode cX0_moved 118 = .ok (.iand, 1) := by decide +kernel
theorem dX0_moved_119 : decode cX0_moved 119 = .ok (.ifCond .eq 7, 3) := by decide +kernel
theorem dX0_moved_122 : decode cX0_moved 122 = .ok (.iconst 0, 1) := by decide +kernel
theorem dX0_moved_123 : decode cX0_moved 123 = .ok (.goto 5, 3) := by decide +kernel
theorem dX0_moved_126 : decode cX0_moved 126 = .ok (.iload 4, 2) := by decide +kernel
theorem dX0_moved_128 : decode cX0_moved 128 = .ok (.ireturn, 1) := by decide +kernel
theorem dX0_cornered_0 : decode cX0_cornered 0 = .ok (.iload_n 1, 1) := by decide +kernel
theorem dX0_cornered_1 : decode cX0_cornered 1 = .ok (.istore_n 2, 1) := by decide +kernel
theorem dX0_cornered_2 : decode cX0_cornered 2 = .ok (.iconst 0, 1) := by decide +kernel
theorem dX0_cornered_3 : decode cX0_cornered 3 = .ok (.istore_n 3, 1) := by decide +kernel
theorem dX0_cornered_4 : decode cX0_cornered 4 = .ok (.iload_n 3, 1) := by decide +kernel
theorem dX0_cornered_5 : decode cX0_cornered 5 = .ok (.iconst 5, 1) := by decide +kernel
theorem dX0_cornered_6 : decode cX0_cornered 6 = .ok (.if_icmp .ge 25, 3) := by decide +kernel
theorem dX0_cornered_9 : decode cX0_cornered 9 = .ok (.iload_n 2, 1) := by decide +kernel
theorem dX0_cornered_10 : decode cX0_cornered 10 = .ok (.aload_n 0, 1) := by decide +kernel
theorem dX0_cornered_11 : decode cX0_cornered 11 = .ok (.getfield 31, 3) := by decide +kernel
theorem dX0_cornered_14 : decode cX0_cornered 14 = .ok (.iand, 1) := by decide +kernel
theorem dX0_cornered_15 : decode cX0_cornered 15 = .ok (.ifCond .ne 16, 3) := by decide +kernel
theorem dX0_cornered_18 : decode cX0_cornered 18 = .ok (.iload_n 2, 1) := by decide +kernel
theorem dX0_cornered_19 : decode cX0_cornered 19 = .ok (.aload_n 0, 1) := by decide +kernel
theorem dX0_cornered_20 : decode cX0_cornered 20 = .ok (.getfield 18, 3) := by decide +kernel
theorem dX0_cornered_23 : decode cX0_cornered 23 = .ok (.iushr, 1) := by decide +kernel
theorem dX0_cornered_24 : decode cX0_cornered 24 = .ok (.istore_n 2, 1) := by decide +kernel
theorem dX0_cornered_25 : decode cX0_cornered 25 = .ok (.iinc 3 1, 3) := by decide +kernel
theorem dX0_cornered_28 : decode cX0_cornered 28 = .ok (.goto (-24), 3) := by decide +kernel
theorem dX0_cornered_31 : decode cX0_cornered 31 = .ok (.iconst 0, 1) := by decide +kernel
theorem dX0_cornered_32 : decode cX0_cornered 32 = .ok (.istore_n 3, 1) := by decide +kernel
theorem dX0_cornered_33 : decode cX0_cornered 33 = .ok (.iload_n 3, 1) := by decide +kernel
theorem dX0_cornered_34 : decode cX0_cornered 34 = .ok (.iconst 5, 1) := by decide +kernel
theorem dX0_cornered_35 : decode cX0_cornered 35 = .ok (.if_icmp .ge 22, 3) := by decide +kernel
theorem dX0_cornered_38 : decode cX0_cornered 38 = .ok (.iload_n 2, 1) := by decide +kernel
theorem dX0_cornered_39 : decode cX0_cornered 39 = .ok (.aload_n 0, 1) := by decide +kernel
theorem dX0_cornered_40 : decode cX0_cornered 40 = .ok (.getfield 25, 3) := by decide +kernel
theorem dX0_cornered_43 : decode cX0_cornered 43 = .ok (.iand, 1) := by decide +kernel
theorem dX0_cornered_44 : decode cX0_cornered 44 = .ok (.ifCond .ne 13, 3) := by decide +kernel
theorem dX0_cornered_47 : decode cX0_cornered 47 = .ok (.iload_n 2, 1) := by decide +kernel
theorem dX0_cornered_48 : decode cX0_cornered 48 = .ok (.iconst 1, 1) := by decide +kernel
theorem dX0_cornered_49 : decode cX0_cornered 49 = .ok (.iushr, 1) := by decide +kernel
theorem dX0_cornered_50 : decode cX0_cornered 50 = .ok (.istore_n 2, 1) := by decide +kernel
theorem dX0_cornered_51 : decode cX0_cornered 51 = .ok (.iinc 3 1, 3) := by decide +kernel
theorem dX0_cornered_54 : decode cX0_cornered 54 = .ok (.goto (-21), 3) := by decide +kernel
theorem dX0_cornered_57 : decode cX0_cornered 57 = .ok (.iload_n 2, 1) := by decide +kernel
theorem dX0_cornered_58 : decode cX0_cornered 58 = .ok (.ireturn, 1) := by decide +kernel
theorem dX0_areAlike_0 : decode cX0_areAlike 0 = .ok (.aload_n 0, 1) := by decide +kernel
theorem dX0_areAlike_1 : decode cX0_areAlike 1 = .ok (.getfield 9, 3) := by decide +kernel
theorem dX0_areAlike_4 : decode cX0_areAlike 4 = .ok (.iload_n 1, 1) := by decide +kernel
theorem dX0_areAlike_5 : decode cX0_areAlike 5 = .ok (.iaload, 1) := by decide +kernel
theorem dX0_areAlike_6 : decode cX0_areAlike 6 = .ok (.aload_n 0, 1) := by decide +kernel
theorem dX0_areAlike_7 : decode cX0_areAlike 7 = .ok (.getfield 9, 3) := by decide +kernel
theorem dX0_areAlike_10 : decode cX0_areAlike 10 = .ok (.iload_n 2, 1) := by decide +kernel
theorem dX0_areAlike_11 : decode cX0_areAlike 11 = .ok (.iaload, 1) := by decide +kernel
theorem dX0_areAlike_12 : decode cX0_areAlike 12 = .ok (.if_icmp .ne 30, 3) := by decide +kernel
theorem dX0_areAlike_15 : decode cX0_areAlike 15 = .ok (.aload_n 0, 1) := by decide +kernel
theorem dX0_areAlike_16 : decode cX0_areAlike 16 = .ok (.aload_n 0, 1) := by decide +kernel
theorem dX0_areAlike_17 : decode cX0_areAlike 17 = .ok (.getfield 15, 3) := by decide +kernel
theorem dX0_areAlike_20 : decode cX0_areAlike 20 = .ok (.iload_n 1, 1) := by decide +kernel
theorem dX0_areAlike_21 : decode cX0_areAlike 21 = .ok (.iaload, 1) := by decide +kernel
theorem dX0_areAlike_22 : decode cX0_areAlike 22 = .ok (.invokevirtual 61, 3) := by decide +kernel
theorem dX0_areAlike_25 : decode cX0_areAlike 25 = .ok (.aload_n 0, 1) := by decide +kernel
theorem dX0_areAlike_26 : decode cX0_areAlike 26 = .ok (.aload_n 0, 1) := by decide +kernel
theorem dX0_areAlike_27 : decode cX0_areAlike 27 = .ok (.getfield 15, 3) := by decide +kernel
theorem dX0_areAlike_30 : decode cX0_areAlike 30 = .ok (.iload_n 2, 1) := by decide +kernel
theorem dX0_areAlike_31 : decode cX0_areAlike 31 = .ok (.iaload, 1) := by decide +kernel
theorem dX0_areAlike_32 : decode cX0_areAlike 32 = .ok (.invokevirtual 61, 3) := by decide +kernel
theorem dX0_areAlike_35 : decode cX0_areAlike 35 = .ok (.if_icmp .ne 7, 3) := by decide +kernel
theorem dX0_areAlike_38 : decode cX0_areAlike 38 = .ok (.iconst 1, 1) := by decide +kernel
theorem dX0_areAlike_39 : decode cX0_areAlike 39 = .ok (.goto 4, 3) := by decide +kernel
theorem dX0_areAlike_42 : decode cX0_areAlike 42 = .ok (.iconst 0, 1) := by decide +kernel
theorem dX0_areAlike_43 : decode cX0_areAlike 43 = .ok (.ireturn, 1) := by decide +kernel
theorem dX0_pictureByte_0 : decode cX0_pictureByte 0 = .ok (.iload_n 1, 1) := by decide +kernel
theorem dX0_pictureByte_1 : decode cX0_pictureByte 1 = .ok (.aload_n 0, 1) := by decide +kernel
theorem dX0_pictureByte_2 : decode cX0_pictureByte 2 = .ok (.getfield 18, 3) := by decide +kernel
theorem dX0_pictureByte_5 : decode cX0_pictureByte 5 = .ok (.iconst 1, 1) := by decide +kernel
theorem dX0_pictureByte_6 : decode cX0_pictureByte 6 = .ok (.iadd, 1) := by decide +kernel
theorem dX0_pictureByte_7 : decode cX0_pictureByte 7 = .ok (.idiv, 1) := by decide +kernel
theorem dX0_pictureByte_8 : decode cX0_pictureByte 8 = .ok (.istore_n 2, 1) := by decide +kernel
theorem dX0_pictureByte_9 : decode cX0_pictureByte 9 = .ok (.iload_n 1, 1) := by decide +kernel
theorem dX0_pictureByte_10 : decode cX0_pictureByte 10 = .ok (.aload_n 0, 1) := by decide +kernel
theorem dX0_pictureByte_11 : decode cX0_pictureByte 11 = .ok (.getfield 18, 3) := by decide +kernel
theorem dX0_pictureByte_14 : decode cX0_pictureByte 14 = .ok (.iconst 1, 1) := by decide +kernel
theorem dX0_pictureByte_15 : decode cX0_pictureByte 15 = .ok (.iadd, 1) := by decide +kernel
theorem dX0_pictureByte_16 : decode cX0_pictureByte 16 = .ok (.irem, 1) := by decide +kernel
theorem dX0_pictureByte_17 : decode cX0_pictureByte 17 = .ok (.istore_n 3, 1) := by decide +kernel
theorem dX0_pictureByte_18 : decode cX0_pictureByte 18 = .ok (.iload_n 2, 1) := by decide +kernel
theorem dX0_pictureByte_19 : decode cX0_pictureByte 19 = .ok (.aload_n 0, 1) := by decide +kernel
theorem dX0_pictureByte_20 : decode cX0_pictureByte 20 = .ok (.getfield 22, 3) := by decide +kernel
theorem dX0_pictureByte_23 : decode cX0_pictureByte 23 = .ok (.if_icmp .lt 5, 3) := by decide +kernel
theorem dX0_pictureByte_26 : decode cX0_pictureByte 26 = .ok (.iconst (-1), 1) := by decide +kernel
theorem dX0_pictureByte_27 : decode cX0_pictureByte 27 = .ok (.ireturn, 1) := by decide +kernel
theorem dX0_pictureByte_28 : decode cX0_pictureByte 28 = .ok (.iload_n 3, 1) := by decide +kernel
theorem dX0_pictureByte_29 : decode cX0_pictureByte 29 = .ok (.aload_n 0, 1) := by decide +kernel
theorem dX0_pictureByte_30 : decode cX0_pictureByte 30 = .ok (.getfield 18, 3) := by decide +kernel
theorem dX0_pictureByte_33 : decode cX0_pictureByte 33 = .ok (.if_icmp .ne 8, 3) := by decide +kernel
theorem dX0_pictureByte_36 : decode cX0_pictureByte 36 = .ok (.bipush 10, 2) := by decide +kernel
theorem dX0_pictureByte_38 : decode cX0_pictureByte 38 = .ok (.goto 13, 3) := by decide +kernel
theorem dX0_pictureByte_41 : decode cX0_pictureByte 41 = .ok (.aload_n 0, 1) := by decide +kernel
theorem dX0_pictureByte_42 : decode cX0_pictureByte 42 = .ok (.aload_n 0, 1) := by decide +kernel
theorem dX0_pictureByte_43 : decode cX0_pictureByte 43 = .ok (.iload_n 3, 1) := by decide +kernel
theorem dX0_pictureByte_44 : decode cX0_pictureByte 44 = .ok (.iload_n 2, 1) := by decide +kernel
theorem dX0_pictureByte_45 : decode cX0_pictureByte 45 = .ok (.invokevirtual 64, 3) := by decide +kernel
theorem dX0_pictureByte_48 : decode cX0_pictureByte 48 = .ok (.invokevirtual 67, 3) := by decide +kernel
theorem dX0_pictureByte_51 : decode cX0_pictureByte 51 = .ok (.ireturn, 1) := by decide +kernel
theorem dX0_cellByte_0 : decode cX0_cellByte 0 = .ok (.aload_n 0, 1) := by decide +kernel
theorem dX0_cellByte_1 : decode cX0_cellByte 1 = .ok (.getfield 47, 3) := by decide +kernel
theorem dX0_cellByte_4 : decode cX0_cellByte 4 = .ok (.iload_n 1, 1) := by decide +kernel
theorem dX0_cellByte_5 : decode cX0_cellByte 5 = .ok (.iand, 1) := by decide +kernel
theorem dX0_cellByte_6 : decode cX0_cellByte 6 = .ok (.ifCond .eq 6, 3) := by decide +kernel
theorem dX0_cellByte_9 : decode cX0_cellByte 9 = .ok (.bipush 35, 2) := by decide +kernel
theorem dX0_cellByte_11 : decode cX0_cellByte 11 = .ok (.ireturn, 1) := by decide +kernel
theorem dX0_cellByte_12 : decode cX0_cellByte 12 = .ok (.iconst 0, 1) := by decide +kernel
theorem dX0_cellByte_13 : decode cX0_cellByte 13 = .ok (.istore_n 2, 1) := by decide +kernel
theorem dX0_cellByte_14 : decode cX0_cellByte 14 = .ok (.iload_n 2, 1) := by decide +kernel
theorem dX0_cellByte_15 : decode cX0_cellByte 15 = .ok (.aload_n 0, 1) := by decide +kernel
theorem dX0_cellByte_16 : decode cX0_cellByte 16 = .ok (.getfield 50, 3) := by decide +kernel
theorem dX0_cellByte_19 : decode cX0_cellByte 19 = .ok (.if_icmp .ge 30, 3) := by decide +kernel
theorem dX0_cellByte_22 : decode cX0_cellByte 22 = .ok (.aload_n 0, 1) := by decide +kernel
theorem dX0_cellByte_23 : decode cX0_cellByte 23 = .ok (.getfield 15, 3) := by decide +kernel
theorem dX0_cellByte_26 : decode cX0_cellByte 26 = .ok (.iload_n 2, 1) := by decide +kernel
theorem dX0_cellByte_27 : decode cX0_cellByte 27 = .ok (.iaload, 1) := by decide +kernel
theorem dX0_cellByte_28 : decode cX0_cellByte 28 = .ok (.iload_n 1, 1) := by decide +kernel
theorem dX0_cellByte_29 : decode cX0_cellByte 29 = .ok (.iand, 1) := by decide +kernel
theorem dX0_cellByte_30 : decode cX0_cellByte 30 = .ok (.ifCond .eq 13, 3) := by decide +kernel
theorem dX0_cellByte_33 : decode cX0_cellByte 33 = .ok (.bipush 97, 2) := by decide +kernel
theorem dX0_cellByte_35 : decode cX0_cellByte 35 = .ok (.aload_n 0, 1) := by decide +kernel
theorem dX0_cellByte_36 : decode cX0_cellByte 36 = .ok (.getfield 9, 3) := by decide +kernel
theorem dX0_cellByte_39 : decode cX0_cellByte 39 = .ok (.iload_n 2, 1) := by decide +kernel
theorem dX0_cellByte_40 : decode cX0_cellByte 40 = .ok (.iaload, 1) := by decide +kernel
theorem dX0_cellByte_41 : decode cX0_cellByte 41 = .ok (.iadd, 1) := by decide +kernel
theorem dX0_cellByte_42 : decode cX0_cellByte 42 = .ok (.ireturn, 1) := by decide +kernel
theorem dX0_cellByte_43 : decode cX0_cellByte 43 = .ok (.iinc 2 1, 3) := by decide +kernel
theorem dX0_cellByte_46 : decode cX0_cellByte 46 = .ok (.goto (-32), 3) := by decide +kernel
theorem dX0_cellByte_49 : decode cX0_cellByte 49 = .ok (.bipush 46, 2) := by decide +kernel
theorem dX0_cellByte_51 : decode cX0_cellByte 51 = .ok (.ireturn, 1) := by decide +kernel
theorem dX2_init_0 : decode cX2_init 0 = .ok (.aload_n 0, 1) := by decide +kernel
theorem dX2_init_1 : decode cX2_init 1 = .ok (.invokespecial 3, 3) := by decide +kernel
theorem dX2_init_4 : decode cX2_init 4 = .ok (.aload_n 0, 1) := by decide +kernel
theorem dX2_init_5 : decode cX2_init 5 = .ok (.bipush 6, 2) := by decide +kernel
theorem dX2_init_7 : decode cX2_init 7 = .ok (.newarray .boolean, 2) := by decide +kernel
theorem dX2_init_9 : decode cX2_init 9 = .ok (.putfield 9, 3) := by decide +kernel
theorem dX2_init_12 : decode cX2_init 12 = .ok (.aload_n 0, 1) := by decide +kernel
theorem dX2_init_13 : decode cX2_init 13 = .ok (.bipush 6, 2) := by decide +kernel
theorem dX2_init_15 : decode cX2_init 15 = .ok (.newarray .int, 2) := by decide +kernel
theorem dX2_init_17 : decode cX2_init 17 = .ok (.putfield 15, 3) := by decide +kernel
theorem dX2_init_20 : decode cX2_init 20 = .ok (.aload_n 0, 1) := by decide +kernel
theorem dX2_init_21 : decode cX2_init 21 = .ok (.bipush 6, 2) := by decide +kernel
theorem dX2_init_23 : decode cX2_init 23 = .ok (.newarray .int, 2) := by decide +kernel
theorem dX2_init_25 : decode cX2_init 25 = .ok (.putfield 19, 3) := by decide +kernel
theorem dX2_init_28 : decode cX2_init 28 = .ok (.return_, 1) := by decide +kernel
theorem dX2_add_0 : decode cX2_add 0 = .ok (.aload_n 0, 1) := by decide +kernel
theorem dX2_add_1 : decode cX2_add 1 = .ok (.getfield 22, 3) := by decide +kernel
theorem dX2_add_4 : decode cX2_add 4 = .ok (.bipush 6, 2) := by decide +kernel
theorem dX2_add_6 : decode cX2_add 6 = .ok (.if_icmp .lt 5, 3) := by decide +kernel
theorem dX2_add_9 : decode cX2_add 9 = .ok (.iconst (-1), 1) := by decide +kernel
theorem dX2_add_10 : decode cX2_add 10 = .ok (.ireturn, 1) := by decide +kernel
theorem dX2_add_11 : decode cX2_add 11 = .ok (.aload_n 0, 1) := by decide +kernel
theorem dX2_add_12 : decode cX2_add 12 = .ok (.getfield 9, 3) := by decide +kernel
theorem dX2_add_15 : decode cX2_add 15 = .ok (.aload_n 0, 1) := by decide +kernel
theorem dX2_add_16 : decode cX2_add 16 = .ok (.getfield 22, 3) := by decide +kernel
theorem dX2_add_19 : decode cX2_add 19 = .ok (.iload_n 1, 1) := by decide +kernel
theorem dX2_add_20 : decode cX2_add 20 = .ok (.bastore, 1) := by decide +kernel
theorem dX2_add_21 : decode cX2_add 21 = .ok (.aload_n 0, 1) := by decide +kernel
theorem dX2_add_22 : decode cX2_add 22 = .ok (.getfield 15, 3) := by decide +kernel
theorem dX2_add_25 : decode cX2_add 25 = .ok (.aload_n 0, 1) := by decide +kernel
theorem dX2_add_26 : decode cX2_add 26 = .ok (.getfield 22, 3) := by decide +kernel
theorem dX2_add_29 : decode cX2_add 29 = .ok (.iload_n 2, 1) := by decide +kernel
theorem dX2_add_30 : decode cX2_add 30 = .ok (.iastore, 1) := by decide +kernel
theorem dX2_add_31 : decode cX2_add 31 = .ok (.aload_n 0, 1) := by decide +kernel
theorem dX2_add_32 : decode cX2_add 32 = .ok (.getfield 19, 3) := by decide +kernel
theorem dX2_add_35 : decode cX2_add 35 = .ok (.aload_n 0, 1) := by decide +kernel
theorem dX2_add_36 : decode cX2_add 36 = .ok (.getfield 22, 3) := by decide +kernel
theorem dX2_add_39 : decode cX2_add 39 = .ok (.iload_n 3, 1) := by decide +kernel
theorem dX2_add_40 : decode cX2_add 40 = .ok (.iastore, 1) := by decide +kernel
theorem dX2_add_41 : decode cX2_add 41 = .ok (.aload_n 0, 1) := by decide +kernel
theorem dX2_add_42 : decode cX2_add 42 = .ok (.dup, 1) := by decide +kernel
theorem dX2_add_43 : decode cX2_add 43 = .ok (.getfield 22, 3) := by decide +kernel
theorem dX2_add_46 : decode cX2_add 46 = .ok (.iconst 1, 1) := by decide +kernel
theorem dX2_add_47 : decode cX2_add 47 = .ok (.iadd, 1) := by decide +kernel
theorem dX2_add_48 : decode cX2_add 48 = .ok (.putfield 22, 3) := by decide +kernel
theorem dX2_add_51 : decode cX2_add 51 = .ok (.aload_n 0, 1) := by decide +kernel
theorem dX2_add_52 : decode cX2_add 52 = .ok (.getfield 22, 3) := by decide +kernel
theorem dX2_add_55 : decode cX2_add 55 = .ok (.iconst 1, 1) := by decide +kernel
theorem dX2_add_56 : decode cX2_add 56 = .ok (.isub, 1) := by decide +kernel
theorem dX2_add_57 : decode cX2_add 57 = .ok (.ireturn, 1) := by decide +kernel
theorem dX2_removeAll_0 : decode cX2_removeAll 0 = .ok (.aload_n 0, 1) := by decide +kernel
theorem dX2_removeAll_1 : decode cX2_removeAll 1 = .ok (.getfield 22, 3) := by decide +kernel
theorem dX2_removeAll_4 : decode cX2_removeAll 4 = .ok (.istore_n 1, 1) := by decide +kernel
theorem dX2_removeAll_5 : decode cX2_removeAll 5 = .ok (.aload_n 0, 1) := by decide +kernel
theorem dX2_removeAll_6 : decode cX2_removeAll 6 = .ok (.iconst 0, 1) := by decide +kernel
theorem dX2_removeAll_7 : decode cX2_removeAll 7 = .ok (.putfield 22, 3) := by decide +kernel
theorem dX2_removeAll_10 : decode cX2_removeAll 10 = .ok (.iload_n 1, 1) := by decide +kernel
theorem dX2_removeAll_11 : decode cX2_removeAll 11 = .ok (.ireturn, 1) := by decide +kernel
theorem dX2_firstOpen_0 : decode cX2_firstOpen 0 = .ok (.iconst 0, 1) := by decide +kernel
theorem dX2_firstOpen_1 : decode cX2_firstOpen 1 = .ok (.istore_n 3, 1) := by decide +kernel
theorem dX2_firstOpen_2 : decode cX2_firstOpen 2 = .ok (.iload_n 3, 1) := by decide +kernel
theorem dX2_firstOpen_3 : decode cX2_firstOpen 3 = .ok (.aload_n 0, 1) := by decide +kernel
theorem dX2_firstOpen_4 : decode cX2_firstOpen 4 = .ok (.getfield 22, 3) := by decide +kernel
theorem dX2_firstOpen_7 : decode cX2_firstOpen 7 = .ok (.if_icmp .ge 69, 3) := by decide +kernel
theorem dX2_firstOpen_10 : decode cX2_firstOpen 10 = .ok (.aload_n 0, 1) := by decide +kernel
theorem dX2_firstOpen_11 : decode cX2_firstOpen 11 = .ok (.getfield 9, 3) := by decide +kernel
theorem dX2_firstOpen_14 : decode cX2_firstOpen 14 = .ok (.iload_n 3, 1) := by decide +kernel
theorem dX2_firstOpen_15 : decode cX2_firstOpen 15 = .ok (.baload, 1) := by decide +kernel
theorem dX2_firstOpen_16 : decode cX2_firstOpen 16 = .ok (.ifCond .eq 23, 3) := by decide +kernel
theorem dX2_firstOpen_19 : decode cX2_firstOpen 19 = .ok (.aload_n 1, 1) := by decide +kernel
theorem dX2_firstOpen_20 : decode cX2_firstOpen 20 = .ok (.aload_n 2, 1) := by decide +kernel
theorem dX2_firstOpen_21 : decode cX2_firstOpen 21 = .ok (.aload_n 0, 1) := by decide +kernel
theorem dX2_firstOpen_22 : decode cX2_firstOpen 22 = .ok (.getfield 15, 3) := by decide +kernel
theorem dX2_firstOpen_25 : decode cX2_firstOpen 25 = .ok (.iload_n 3, 1) := by decide +kernel
theorem dX2_firstOpen_26 : decode cX2_firstOpen 26 = .ok (.iaload, 1) := by decide +kernel
theorem dX2_firstOpen_27 : decode cX2_firstOpen 27 = .ok (.aload_n 0, 1) := by decide +kernel
theorem dX2_firstOpen_28 : decode cX2_firstOpen 28 = .ok (.getfield 19, 3) := by decide +kernel
theorem dX2_firstOpen_31 : decode cX2_firstOpen 31 = .ok (.iload_n 3, 1) := by decide +kernel
theorem dX2_firstOpen_32 : decode cX2_firstOpen 32 = .ok (.iaload, 1) := by decide +kernel
theorem dX2_firstOpen_33 : decode cX2_firstOpen 33 = .ok (.invokestatic 26, 3) := by decide +kernel
theorem dX2_firstOpen_36 : decode cX2_firstOpen 36 = .ok (.goto 25, 3) := by decide +kernel
theorem dX2_firstOpen_39 : decode cX2_firstOpen 39 = .ok (.aload_n 2, 1) := by decide +kernel
theorem dX2_firstOpen_40 : decode cX2_firstOpen 40 = .ok (.aload_n 0, 1) := by decide +kernel
theorem dX2_firstOpen_41 : decode cX2_firstOpen 41 = .ok (.getfield 15, 3) := by decide +kernel
theorem dX2_firstOpen_44 : decode cX2_firstOpen 44 = .ok (.iload_n 3, 1) := by decide +kernel
theorem dX2_firstOpen_45 : decode cX2_firstOpen 45 = .ok (.iaload, 1) := by decide +kernel
theorem dX2_firstOpen_46 : decode cX2_firstOpen 46 = .ok (.iaload, 1) := by decide +kernel
theorem dX2_firstOpen_47 : decode cX2_firstOpen 47 = .ok (.aload_n 0, 1) := by decide +kernel
theorem dX2_firstOpen_48 : decode cX2_firstOpen 48 = .ok (.getfield 19, 3) := by decide +kernel
theorem dX2_firstOpen_51 : decode cX2_firstOpen 51 = .ok (.iload_n 3, 1) := by decide +kernel
theorem dX2_firstOpen_52 : decode cX2_firstOpen 52 = .ok (.iaload, 1) := by decide +kernel
theorem dX2_firstOpen_53 : decode cX2_firstOpen 53 = .ok (.if_icmp .ne 7, 3) := by decide +kernel
theorem dX2_firstOpen_56 : decode cX2_firstOpen 56 = .ok (.iconst 1, 1) := by decide +kernel
theorem dX2_firstOpen_57 : decode cX2_firstOpen 57 = .ok (.goto 4, 3) := by decide +kernel
theorem dX2_firstOpen_60 : decode cX2_firstOpen 60 = .ok (.iconst 0, 1) := by decide +kernel
theorem dX2_firstOpen_61 : decode cX2_firstOpen 61 = .ok (.istore 4, 2) := by decide +kernel
theorem dX2_firstOpen_63 : decode cX2_firstOpen 63 = .ok (.iload 4, 2) := by decide +kernel
theorem dX2_firstOpen_65 : decode cX2_firstOpen 65 = .ok (.ifCond .ne 5, 3) := by decide +kernel
theorem dX2_firstOpen_68 : decode cX2_firstOpen 68 = .ok (.iload_n 3, 1) := by decide +kernel
theorem dX2_firstOpen_69 : decode cX2_firstOpen 69 = .ok (.ireturn, 1) := by decide +kernel
theorem dX2_firstOpen_70 : decode cX2_firstOpen 70 = .ok (.iinc 3 1, 3) := by decide +kernel
theorem dX2_firstOpen_73 : decode cX2_firstOpen 73 = .ok (.goto (-71), 3) := by decide +kernel
theorem dX2_firstOpen_76 : decode cX2_firstOpen 76 = .ok (.iconst (-1), 1) := by decide +kernel
theorem dX2_firstOpen_77 : decode cX2_firstOpen 77 = .ok (.ireturn, 1) := by decide +kernel
theorem dX2_kindIsAt_0 : decode cX2_kindIsAt 0 = .ok (.iconst 0, 1) := by decide +kernel
theorem dX2_kindIsAt_1 : decode cX2_kindIsAt 1 = .ok (.istore 4, 2) := by decide +kernel
theorem dX2_kindIsAt_3 : decode cX2_kindIsAt 3 = .ok (.iload 4, 2) := by decide +kernel
theorem dX2_kindIsAt_5 : decode cX2_kindIsAt 5 = .ok (.aload_n 0, 1) := by decide +kernel
theorem dX2_kindIsAt_6 : decode cX2_kindIsAt 6 = .ok (.getfield 30, 3) := by decide +kernel
theorem dX2_kindIsAt_9 : decode cX2_kindIsAt 9 = .ok (.if_icmp .ge 30, 3) := by decide +kernel
theorem dX2_kindIsAt_12 : decode cX2_kindIsAt 12 = .ok (.aload_n 0, 1) := by decide +kernel
theorem dX2_kindIsAt_13 : decode cX2_kindIsAt 13 = .ok (.getfield 35, 3) := by decide +kernel
theorem dX2_kindIsAt_16 : decode cX2_kindIsAt 16 = .ok (.iload 4, 2) := by decide +kernel
theorem dX2_kindIsAt_18 : decode cX2_kindIsAt 18 = .ok (.iaload, 1) := by decide +kernel
theorem dX2_kindIsAt_19 : decode cX2_kindIsAt 19 = .ok (.iload_n 2, 1) := by decide +kernel
theorem dX2_kindIsAt_20 : decode cX2_kindIsAt 20 = .ok (.if_icmp .ne 13, 3) := by decide +kernel
theorem dX2_kindIsAt_23 : decode cX2_kindIsAt 23 = .ok (.aload_n 1, 1) := by decide +kernel
theorem dX2_kindIsAt_24 : decode cX2_kindIsAt 24 = .ok (.iload 4, 2) := by decide +kernel
theorem dX2_kindIsAt_26 : decode cX2_kindIsAt 26 = .ok (.iaload, 1) := by decide +kernel
theorem dX2_kindIsAt_27 : decode cX2_kindIsAt 27 = .ok (.iload_n 3, 1) := by decide +kernel
theorem dX2_kindIsAt_28 : decode cX2_kindIsAt 28 = .ok (.if_icmp .ne 5, 3) := by decide +kernel
theorem dX2_kindIsAt_31 : decode cX2_kindIsAt 31 = .ok (.iconst 1, 1) := by decide +kernel
theorem dX2_kindIsAt_32 : decode cX2_kindIsAt 32 = .ok (.ireturn, 1) := by decide +kernel
theorem dX2_kindIsAt_33 : decode cX2_kindIsAt 33 = .ok (.iinc 4 1, 3) := by decide +kernel
theorem dX2_kindIsAt_36 : decode cX2_kindIsAt 36 = .ok (.goto (-33), 3) := by decide +kernel
theorem dX2_kindIsAt_39 : decode cX2_kindIsAt 39 = .ok (.iconst 0, 1) := by decide +kernel
theorem dX2_kindIsAt_40 : decode cX2_kindIsAt 40 = .ok (.ireturn, 1) := by decide +kernel
theorem dX3_init_0 : decode cX3_init 0 = .ok (.aload_n 0, 1) := by decide +kernel
theorem dX3_init_1 : decode cX3_init 1 = .ok (.invokespecial 3, 3) := by decide +kernel
theorem dX3_init_4 : decode cX3_init 4 = .ok (.aload_n 0, 1) := by decide +kernel
theorem dX3_init_5 : decode cX3_init 5 = .ok (.sipush 10000, 3) := by decide +kernel
theorem dX3_init_8 : decode cX3_init 8 = .ok (.newarray .int, 2) := by decide +kernel
theorem dX3_init_10 : decode cX3_init 10 = .ok (.putfield 9, 3) := by decide +kernel
theorem dX3_init_13 : decode cX3_init 13 = .ok (.return_, 1) := by decide +kernel
theorem dX3_keep_0 : decode cX3_keep 0 = .ok (.aload_n 0, 1) := by decide +kernel
theorem dX3_keep_1 : decode cX3_keep 1 = .ok (.aload_n 1, 1) := by decide +kernel
theorem dX3_keep_2 : decode cX3_keep 2 = .ok (.getfield 15, 3) := by decide +kernel
theorem dX3_keep_5 : decode cX3_keep 5 = .ok (.putfield 21, 3) := by decide +kernel
theorem dX3_keep_8 : decode cX3_keep 8 = .ok (.aload_n 0, 1) := by decide +kernel
theorem dX3_keep_9 : decode cX3_keep 9 = .ok (.iload_n 2, 1) := by decide +kernel
theorem dX3_keep_10 : decode cX3_keep 10 = .ok (.ifCond .eq 16, 3) := by decide +kernel
theorem dX3_keep_13 : decode cX3_keep 13 = .ok (.aload_n 1, 1) := by decide +kernel
theorem dX3_keep_14 : decode cX3_keep 14 = .ok (.aload_n 1, 1) := by decide +kernel
theorem dX3_keep_15 : decode cX3_keep 15 = .ok (.getfield 15, 3) := by decide +kernel
theorem dX3_keep_18 : decode cX3_keep 18 = .ok (.iconst 1, 1) := by decide +kernel
theorem dX3_keep_19 : decode cX3_keep 19 = .ok (.isub, 1) := by decide +kernel
theorem dX3_keep_20 : decode cX3_keep 20 = .ok (.invokestatic 24, 3) := by decide +kernel
theorem dX3_keep_23 : decode cX3_keep 23 = .ok (.goto 4, 3) := by decide +kernel
theorem dX3_keep_26 : decode cX3_keep 26 = .ok (.iconst 0, 1) := by decide +kernel
theorem dX3_keep_27 : decode cX3_keep 27 = .ok (.putfield 28, 3) := by decide +kernel
theorem dX3_keep_30 : decode cX3_keep 30 = .ok (.aload_n 1, 1) := by decide +kernel
theorem dX3_keep_31 : decode cX3_keep 31 = .ok (.getfield 15, 3) := by decide +kernel
theorem dX3_keep_34 : decode cX3_keep 34 = .ok (.iconst 1, 1) := by decide +kernel
theorem dX3_keep_35 : decode cX3_keep 35 = .ok (.isub, 1) := by decide +kernel
theorem dX3_keep_36 : decode cX3_keep 36 = .ok (.istore_n 3, 1) := by decide +kernel
theorem dX3_keep_37 : decode cX3_keep 37 = .ok (.aload_n 0, 1) := by decide +kernel
theorem dX3_keep_38 : decode cX3_keep 38 = .ok (.getfield 28, 3) := by decide +kernel
theorem dX3_keep_41 : decode cX3_keep 41 = .ok (.iconst 1, 1) := by decide +kernel
theorem dX3_keep_42 : decode cX3_keep 42 = .ok (.isub, 1) := by decide +kernel
theorem dX3_keep_43 : decode cX3_keep 43 = .ok (.istore 4, 2) := by decide +kernel
theorem dX3_keep_45 : decode cX3_keep 45 = .ok (.iload 4, 2) := by decide +kernel
theorem dX3_keep_47 : decode cX3_keep 47 = .ok (.ifCond .lt 29, 3) := by decide +kernel
theorem dX3_keep_50 : decode cX3_keep 50 = .ok (.aload_n 0, 1) := by decide +kernel
theorem dX3_keep_51 : decode cX3_keep 51 = .ok (.getfield 9, 3) := by decide +kernel
theorem dX3_keep_54 : decode cX3_keep 54 = .ok (.iload 4, 2) := by decide +kernel
theorem dX3_keep_56 : decode cX3_keep 56 = .ok (.aload_n 1, 1) := by decide +kernel
theorem dX3_keep_57 : decode cX3_keep 57 = .ok (.getfield 31, 3) := by decide +kernel
theorem dX3_keep_60 : decode cX3_keep 60 = .ok (.iload_n 3, 1) := by decide +kernel
theorem dX3_keep_61 : decode cX3_keep 61 = .ok (.iaload, 1) := by decide +kernel
theorem dX3_keep_62 : decode cX3_keep 62 = .ok (.iastore, 1) := by decide +kernel
theorem dX3_keep_63 : decode cX3_keep 63 = .ok (.aload_n 1, 1) := by decide +kernel
theorem dX3_keep_64 : decode cX3_keep 64 = .ok (.getfield 32, 3) := by decide +kernel
theorem dX3_keep_67 : decode cX3_keep 67 = .ok (.iload_n 3, 1) := by decide +kernel
theorem dX3_keep_68 : decode cX3_keep 68 = .ok (.iaload, 1) := by decide +kernel
theorem dX3_keep_69 : decode cX3_keep 69 = .ok (.istore_n 3, 1) := by decide +kernel
theorem dX3_keep_70 : decode cX3_keep 70 = .ok (.iinc 4 (-1), 3) := by decide +kernel
theorem dX3_keep_73 : decode cX3_keep 73 = .ok (.goto (-28), 3) := by decide +kernel
theorem dX3_keep_76 : decode cX3_keep 76 = .ok (.return_, 1) := by decide +kernel
theorem dX3_depthOf_0 : decode cX3_depthOf 0 = .ok (.iconst 0, 1) := by decide +kernel
theorem dX3_depthOf_1 : decode cX3_depthOf 1 = .ok (.istore_n 2, 1) := by decide +kernel
theorem dX3_depthOf_2 : decode cX3_depthOf 2 = .ok (.iload_n 1, 1) := by decide +kernel
theorem dX3_depthOf_3 : decode cX3_depthOf 3 = .ok (.istore_n 3, 1) := by decide +kernel
theorem dX3_depthOf_4 : decode cX3_depthOf 4 = .ok (.iload_n 3, 1) := by decide +kernel
theorem dX3_depthOf_5 : decode cX3_depthOf 5 = .ok (.ifCond .le 23, 3) := by decide +kernel
theorem dX3_depthOf_8 : decode cX3_depthOf 8 = .ok (.iload_n 2, 1) := by decide +kernel
theorem dX3_depthOf_9 : decode cX3_depthOf 9 = .ok (.sipush 10000, 3) := by decide +kernel
theorem dX3_depthOf_12 : decode cX3_depthOf 12 = .ok (.if_icmp .ge 16, 3) := by decide +kernel
theorem dX3_depthOf_15 : decode cX3_depthOf 15 = .ok (.iinc 2 1, 3) := by decide +kernel
theorem dX3_depthOf_18 : decode cX3_depthOf 18 = .ok (.aload_n 0, 1) := by decide +kernel
theorem dX3_depthOf_19 : decode cX3_depthOf 19 = .ok (.getfield 32, 3) := by decide +kernel
theorem dX3_depthOf_22 : decode cX3_depthOf 22 = .ok (.iload_n 3, 1) := by decide +kernel
theorem dX3_depthOf_23 : decode cX3_depthOf 23 = .ok (.iaload, 1) := by decide +kernel
theorem dX3_depthOf_24 : decode cX3_depthOf 24 = .ok (.istore_n 3, 1) := by decide +kernel
theorem dX3_depthOf_25 : decode cX3_depthOf 25 = .ok (.goto (-21), 3) := by decide +kernel
theorem dX3_depthOf_28 : decode cX3_depthOf 28 = .ok (.iload_n 2, 1) := by decide +kernel
theorem dX3_depthOf_29 : decode cX3_depthOf 29 = .ok (.ireturn, 1) := by decide +kernel
theorem dX4_init_0 : decode cX4_init 0 = .ok (.aload_n 0, 1) := by decide +kernel
theorem dX4_init_1 : decode cX4_init 1 = .ok (.invokespecial 3, 3) := by decide +kernel
theorem dX4_init_4 : decode cX4_init 4 = .ok (.aload_n 0, 1) := by decide +kernel
theorem dX4_init_5 : decode cX4_init 5 = .ok (.sipush 10000, 3) := by decide +kernel
theorem dX4_init_8 : decode cX4_init 8 = .ok (.newarray .long, 2) := by decide +kernel
theorem dX4_init_10 : decode cX4_init 10 = .ok (.putfield 9, 3) := by decide +kernel
theorem dX4_init_13 : decode cX4_init 13 = .ok (.aload_n 0, 1) := by decide +kernel
theorem dX4_init_14 : decode cX4_init 14 = .ok (.sipush 10000, 3) := by decide +kernel
theorem dX4_init_17 : decode cX4_init 17 = .ok (.newarray .long, 2) := by decide +kernel
theorem dX4_init_19 : decode cX4_init 19 = .ok (.putfield 15, 3) := by decide +kernel
theorem dX4_init_22 : decode cX4_init 22 = .ok (.aload_n 0, 1) := by decide +kernel
theorem dX4_init_23 : decode cX4_init 23 = .ok (.sipush 10000, 3) := by decide +kernel
theorem dX4_init_26 : decode cX4_init 26 = .ok (.newarray .int, 2) := by decide +kernel
theorem dX4_init_28 : decode cX4_init 28 = .ok (.putfield 18, 3) := by decide +kernel
theorem dX4_init_31 : decode cX4_init 31 = .ok (.aload_n 0, 1) := by decide +kernel
theorem dX4_init_32 : decode cX4_init 32 = .ok (.sipush 10000, 3) := by decide +kernel
theorem dX4_init_35 : decode cX4_init 35 = .ok (.newarray .int, 2) := by decide +kernel
theorem dX4_init_37 : decode cX4_init 37 = .ok (.putfield 22, 3) := by decide +kernel
theorem dX4_init_40 : decode cX4_init 40 = .ok (.aload_n 0, 1) := by decide +kernel
theorem dX4_init_41 : decode cX4_init 41 = .ok (.sipush 16384, 3) := by decide +kernel
theorem dX4_init_44 : decode cX4_init 44 = .ok (.newarray .int, 2) := by decide +kernel
theorem dX4_init_46 : decode cX4_init 46 = .ok (.putfield 25, 3) := by decide +kernel
theorem dX4_init_49 : decode cX4_init 49 = .ok (.aload_n 0, 1) := by decide +kernel
theorem dX4_init_50 : decode cX4_init 50 = .ok (.sipush 10000, 3) := by decide +kernel
theorem dX4_init_53 : decode cX4_init 53 = .ok (.newarray .int, 2) := by decide +kernel
theorem dX4_init_55 : decode cX4_init 55 = .ok (.putfield 28, 3) := by decide +kernel
theorem dX4_init_58 : decode cX4_init 58 = .ok (.return_, 1) := by decide +kernel
theorem dX4_bucketOf_0 : decode cX4_bucketOf 0 = .ok (.lload_n 0, 1) := by decide +kernel
theorem dX4_bucketOf_1 : decode cX4_bucketOf 1 = .ok (.ldc2_w 31, 3) := by decide +kernel
theorem dX4_bucketOf_4 : decode cX4_bucketOf 4 = .ok (.lmul, 1) := by decide +kernel
theorem dX4_bucketOf_5 : decode cX4_bucketOf 5 = .ok (.bipush 50, 2) := by decide +kernel
theorem dX4_bucketOf_7 : decode cX4_bucketOf 7 = .ok (.lushr, 1) := by decide +kernel
theorem dX4_bucketOf_8 : decode cX4_bucketOf 8 = .ok (.l2i, 1) := by decide +kernel
theorem dX4_bucketOf_9 : decode cX4_bucketOf 9 = .ok (.ireturn, 1) := by decide +kernel
theorem dX4_clear_0 : decode cX4_clear 0 = .ok (.iconst 0, 1) := by decide +kernel
theorem dX4_clear_1 : decode cX4_clear 1 = .ok (.istore_n 1, 1) := by decide +kernel
theorem dX4_clear_2 : decode cX4_clear 2 = .ok (.iload_n 1, 1) := by decide +kernel
theorem dX4_clear_3 : decode cX4_clear 3 = .ok (.aload_n 0, 1) := by decide +kernel
theorem dX4_clear_4 : decode cX4_clear 4 = .ok (.getfield 33, 3) := by decide +kernel
theorem dX4_clear_7 : decode cX4_clear 7 = .ok (.if_icmp .ge 24, 3) := by decide +kernel
theorem dX4_clear_10 : decode cX4_clear 10 = .ok (.aload_n 0, 1) := by decide +kernel
theorem dX4_clear_11 : decode cX4_clear 11 = .ok (.getfield 25, 3) := by decide +kernel
theorem dX4_clear_14 : decode cX4_clear 14 = .ok (.aload_n 0, 1) := by decide +kernel
theorem dX4_clear_15 : decode cX4_clear 15 = .ok (.getfield 9, 3) := by decide +kernel
theorem dX4_clear_18 : decode cX4_clear 18 = .ok (.iload_n 1, 1) := by decide +kernel
theorem dX4_clear_19 : decode cX4_clear 19 = .ok (.laload, 1) := by decide +kernel
theorem dX4_clear_20 : decode cX4_clear 20 = .ok (.invokestatic 37, 3) := by decide +kernel
theorem dX4_clear_23 : decode cX4_clear 23 = .ok (.iconst 0, 1) := by decide +kernel
theorem dX4_clear_24 : decode cX4_clear 24 = .ok (.iastore, 1) := by decide +kernel
theorem dX4_clear_25 : decode cX4_clear 25 = .ok (.iinc 1 1, 3) := by decide +kernel
theorem dX4_clear_28 : decode cX4_clear 28 = .ok (.goto (-26), 3) := by decide +kernel
theorem dX4_clear_31 : decode cX4_clear 31 = .ok (.aload_n 0, 1) := by decide +kernel
theorem dX4_clear_32 : decode cX4_clear 32 = .ok (.iconst 0, 1) := by decide +kernel
theorem dX4_clear_33 : decode cX4_clear 33 = .ok (.putfield 33, 3) := by decide +kernel
theorem dX4_clear_36 : decode cX4_clear 36 = .ok (.return_, 1) := by decide +kernel
theorem dX4_holds_0 : decode cX4_holds 0 = .ok (.aload_n 0, 1) := by decide +kernel
theorem dX4_holds_1 : decode cX4_holds 1 = .ok (.getfield 25, 3) := by decide +kernel
theorem dX4_holds_4 : decode cX4_holds 4 = .ok (.lload_n 1, 1) := by decide +kernel
theorem dX4_holds_5 : decode cX4_holds 5 = .ok (.invokestatic 37, 3) := by decide +kernel
theorem dX4_holds_8 : decode cX4_holds 8 = .ok (.iaload, 1) := by decide +kernel
theorem dX4_holds_9 : decode cX4_holds 9 = .ok (.istore_n 3, 1) := by decide +kernel
theorem dX4_holds_10 : decode cX4_holds 10 = .ok (.iconst 0, 1) := by decide +kernel
theorem dX4_holds_11 : decode cX4_holds 11 = .ok (.istore 4, 2) := by decide +kernel
theorem dX4_holds_13 : decode cX4_holds 13 = .ok (.iload 4, 2) := by decide +kernel
theorem dX4_holds_15 : decode cX4_holds 15 = .ok (.aload_n 0, 1) := by decide +kernel
theorem dX4_holds_16 : decode cX4_holds 16 = .ok (.getfield 33, 3) := by decide +kernel
theorem dX4_holds_19 : decode cX4_holds 19 = .ok (.if_icmp .ge 37, 3) := by decide +kernel
theorem dX4_holds_22 : decode cX4_holds 22 = .ok (.iload_n 3, 1) := by decide +kernel
theorem dX4_holds_23 : decode cX4_holds 23 = .ok (.ifCond .eq 33, 3) := by decide +kernel
theorem dX4_holds_26 : decode cX4_holds 26 = .ok (.aload_n 0, 1) := by decide +kernel
theorem dX4_holds_27 : decode cX4_holds 27 = .ok (.getfield 9, 3) := by decide +kernel
theorem dX4_holds_30 : decode cX4_holds 30 = .ok (.iload_n 3, 1) := by decide +kernel
theorem dX4_holds_31 : decode cX4_holds 31 = .ok (.iconst 1, 1) := by decide +kernel
theorem dX4_holds_32 : decode cX4_holds 32 = .ok (.isub, 1) := by decide +kernel
theorem dX4_holds_33 : decode cX4_holds 33 = .ok (.laload, 1) := by decide +kernel
theorem dX4_holds_34 : decode cX4_holds 34 = .ok (.lload_n 1, 1) := by decide +kernel
theorem dX4_holds_35 : decode cX4_holds 35 = .ok (.lcmp, 1) := by decide +kernel
theorem dX4_holds_36 : decode cX4_holds 36 = .ok (.ifCond .ne 5, 3) := by decide +kernel
theorem dX4_holds_39 : decode cX4_holds 39 = .ok (.iconst 1, 1) := by decide +kernel
theorem dX4_holds_40 : decode cX4_holds 40 = .ok (.ireturn, 1) := by decide +kernel
theorem dX4_holds_41 : decode cX4_holds 41 = .ok (.aload_n 0, 1) := by decide +kernel
theorem dX4_holds_42 : decode cX4_holds 42 = .ok (.getfield 28, 3) := by decide +kernel
theorem dX4_holds_45 : decode cX4_holds 45 = .ok (.iload_n 3, 1) := by decide +kernel
theorem dX4_holds_46 : decode cX4_holds 46 = .ok (.iconst 1, 1) := by decide +kernel
theorem dX4_holds_47 : decode cX4_holds 47 = .ok (.isub, 1) := by decide +kernel
theorem dX4_holds_48 : decode cX4_holds 48 = .ok (.iaload, 1) := by decide +kernel
theorem dX4_holds_49 : decode cX4_holds 49 = .ok (.istore_n 3, 1) := by decide +kernel
theorem dX4_holds_50 : decode cX4_holds 50 = .ok (.iinc 4 1, 3) := by decide +kernel
theorem dX4_holds_53 : decode cX4_holds 53 = .ok (.goto (-40), 3) := by decide +kernel
theorem dX4_holds_56 : decode cX4_holds 56 = .ok (.iconst 0, 1) := by decide +kernel
theorem dX4_holds_57 : decode cX4_holds 57 = .ok (.ireturn, 1) := by decide +kernel
theorem dX4_take_0 : decode cX4_take 0 = .ok (.aload_n 0, 1) := by decide +kernel
theorem dX4_take_1 : decode cX4_take 1 = .ok (.getfield 33, 3) := by decide +kernel
theorem dX4_take_4 : decode cX4_take 4 = .ok (.sipush 10000, 3) := by decide +kernel
theorem dX4_take_7 : decode cX4_take 7 = .ok (.if_icmp .lt 4, 3) := by decide +kernel
theorem dX4_take_10 : decode cX4_take 10 = .ok (.return_, 1) := by decide +kernel
theorem dX4_take_11 : decode cX4_take 11 = .ok (.lload_n 1, 1) := by decide +kernel
theorem dX4_take_12 : decode cX4_take 12 = .ok (.invokestatic 37, 3) := by decide +kernel
theorem dX4_take_15 : decode cX4_take 15 = .ok (.istore 7, 2) := by decide +kernel
theorem dX4_take_17 : decode cX4_take 17 = .ok (.aload_n 0, 1) := by decide +kernel
theorem dX4_take_18 : decode cX4_take 18 = .ok (.getfield 9, 3) := by decide +kernel
theorem dX4_take_21 : decode cX4_take 21 = .ok (.aload_n 0, 1) := by decide +kernel
theorem dX4_take_22 : decode cX4_take 22 = .ok (.getfield 33, 3) := by decide +kernel
theorem dX4_take_25 : decode cX4_take 25 = .ok (.lload_n 1, 1) := by decide +kernel
theorem dX4_take_26 : decode cX4_take 26 = .ok (.lastore, 1) := by decide +kernel
theorem dX4_take_27 : decode cX4_take 27 = .ok (.aload_n 0, 1) := by decide +kernel
theorem dX4_take_28 : decode cX4_take 28 = .ok (.getfield 15, 3) := by decide +kernel
theorem dX4_take_31 : decode cX4_take 31 = .ok (.aload_n 0, 1) := by decide +kernel
theorem dX4_take_32 : decode cX4_take 32 = .ok (.getfield 33, 3) := by decide +kernel
theorem dX4_take_35 : decode cX4_take 35 = .ok (.lload_n 3, 1) := by decide +kernel
theorem dX4_take_36 : decode cX4_take 36 = .ok (.lastore, 1) := by decide +kernel
theorem dX4_take_37 : decode cX4_take 37 = .ok (.aload_n 0, 1) := by decide +kernel
theorem dX4_take_38 : decode cX4_take 38 = .ok (.getfield 18, 3) := by decide +kernel
theorem dX4_take_41 : decode cX4_take 41 = .ok (.aload_n 0, 1) := by decide +kernel
theorem dX4_take_42 : decode cX4_take 42 = .ok (.getfield 33, 3) := by decide +kernel
theorem dX4_take_45 : decode cX4_take 45 = .ok (.iload 5, 2) := by decide +kernel
theorem dX4_take_47 : decode cX4_take 47 = .ok (.iastore, 1) := by decide +kernel
theorem dX4_take_48 : decode cX4_take 48 = .ok (.aload_n 0, 1) := by decide +kernel
theorem dX4_take_49 : decode cX4_take 49 = .ok (.getfield 22, 3) := by decide +kernel
theorem dX4_take_52 : decode cX4_take 52 = .ok (.aload_n 0, 1) := by decide +kernel
theorem dX4_take_53 : decode cX4_take 53 = .ok (.getfield 33, 3) := by decide +kernel
theorem dX4_take_56 : decode cX4_take 56 = .ok (.iload 6, 2) := by decide +kernel
theorem dX4_take_58 : decode cX4_take 58 = .ok (.iastore, 1) := by decide +kernel
theorem dX4_take_59 : decode cX4_take 59 = .ok (.aload_n 0, 1) := by decide +kernel
theorem dX4_take_60 : decode cX4_take 60 = .ok (.getfield 28, 3) := by decide +kernel
theorem dX4_take_63 : decode cX4_take 63 = .ok (.aload_n 0, 1) := by decide +kernel
theorem dX4_take_64 : decode cX4_take 64 = .ok (.getfield 33, 3) := by decide +kernel
theorem dX4_take_67 : decode cX4_take 67 = .ok (.aload_n 0, 1) := by decide +kernel
theorem dX4_take_68 : decode cX4_take 68 = .ok (.getfield 25, 3) := by decide +kernel
theorem dX4_take_71 : decode cX4_take 71 = .ok (.iload 7, 2) := by decide +kernel
theorem dX4_take_73 : decode cX4_take 73 = .ok (.iaload, 1) := by decide +kernel
theorem dX4_take_74 : decode cX4_take 74 = .ok (.iastore, 1) := by decide +kernel
theorem dX4_take_75 : decode cX4_take 75 = .ok (.aload_n 0, 1) := by decide +kernel
theorem dX4_take_76 : decode cX4_take 76 = .ok (.dup, 1) := by decide +kernel
theorem dX4_take_77 : decode cX4_take 77 = .ok (.getfield 33, 3) := by decide +kernel
theorem dX4_take_80 : decode cX4_take 80 = .ok (.iconst 1, 1) := by decide +kernel
theorem dX4_take_81 : decode cX4_take 81 = .ok (.iadd, 1) := by decide +kernel
theorem dX4_take_82 : decode cX4_take 82 = .ok (.putfield 33, 3) := by decide +kernel
theorem dX4_take_85 : decode cX4_take 85 = .ok (.aload_n 0, 1) := by decide +kernel
theorem dX4_take_86 : decode cX4_take 86 = .ok (.getfield 25, 3) := by decide +kernel
theorem dX4_take_89 : decode cX4_take 89 = .ok (.iload 7, 2) := by decide +kernel
theorem dX4_take_91 : decode cX4_take 91 = .ok (.aload_n 0, 1) := by decide +kernel
theorem dX4_take_92 : decode cX4_take 92 = .ok (.getfield 33, 3) := by decide +kernel
theorem dX4_take_95 : decode cX4_take 95 = .ok (.iastore, 1) := by decide +kernel
theorem dX4_take_96 : decode cX4_take 96 = .ok (.return_, 1) := by decide +kernel
end
section
theorem dX5_init_0 : decode cX5_init 0 = .ok (.aload_n 0, 1) := by decide +kernel
theorem dX5_init_1 : decode cX5_init 1 = .ok (.invokespecial 3, 3) := by decide +kernel
theorem dX5_init_4 : decode cX5_init 4 = .ok (.aload_n 0, 1) := by decide +kernel
theorem dX5_init_5 : decode cX5_init 5 = .ok (.bipush 8, 2) := by decide +kernel
theorem dX5_init_7 : decode cX5_init 7 = .ok (.newarray .int, 2) := by decide +kernel
theorem dX5_init_9 : decode cX5_init 9 = .ok (.putfield 9, 3) := by decide +kernel
theorem dX5_init_12 : decode cX5_init 12 = .ok (.aload_n 0, 1) := by decide +kernel
theorem dX5_init_13 : decode cX5_init 13 = .ok (.bipush 8, 2) := by decide +kernel
theorem dX5_init_15 : decode cX5_init 15 = .ok (.newarray .int, 2) := by decide +kernel
theorem dX5_init_17 : decode cX5_init 17 = .ok (.putfield 15, 3) := by decide +kernel
theorem dX5_init_20 : decode cX5_init 20 = .ok (.aload_n 0, 1) := by decide +kernel
theorem dX5_init_21 : decode cX5_init 21 = .ok (.bipush 8, 2) := by decide +kernel
theorem dX5_init_23 : decode cX5_init 23 = .ok (.newarray .int, 2) := by decide +kernel
theorem dX5_init_25 : decode cX5_init 25 = .ok (.putfield 18, 3) := by decide +kernel
theorem dX5_init_28 : decode cX5_init 28 = .ok (.aload_n 0, 1) := by decide +kernel
theorem dX5_init_29 : decode cX5_init 29 = .ok (.ldc 21, 2) := by decide +kernel
theorem dX5_init_31 : decode cX5_init 31 = .ok (.newarray .int, 2) := by decide +kernel
theorem dX5_init_33 : decode cX5_init 33 = .ok (.putfield 22, 3) := by decide +kernel
theorem dX5_init_36 : decode cX5_init 36 = .ok (.aload_n 0, 1) := by decide +kernel
theorem dX5_init_37 : decode cX5_init 37 = .ok (.ldc 25, 2) := by decide +kernel
theorem dX5_init_39 : decode cX5_init 39 = .ok (.newarray .long, 2) := by decide +kernel
theorem dX5_init_41 : decode cX5_init 41 = .ok (.putfield 26, 3) := by decide +kernel
theorem dX5_init_44 : decode cX5_init 44 = .ok (.return_, 1) := by decide +kernel
theorem dX5_addNode_0 : decode cX5_addNode 0 = .ok (.aload_n 0, 1) := by decide +kernel
theorem dX5_addNode_1 : decode cX5_addNode 1 = .ok (.getfield 30, 3) := by decide +kernel
theorem dX5_addNode_4 : decode cX5_addNode 4 = .ok (.bipush 8, 2) := by decide +kernel
theorem dX5_addNode_6 : decode cX5_addNode 6 = .ok (.if_icmp .lt 5, 3) := by decide +kernel
theorem dX5_addNode_9 : decode cX5_addNode 9 = .ok (.iconst (-1), 1) := by decide +kernel
theorem dX5_addNode_10 : decode cX5_addNode 10 = .ok (.ireturn, 1) := by decide +kernel
theorem dX5_addNode_11 : decode cX5_addNode 11 = .ok (.aload_n 0, 1) := by decide +kernel
theorem dX5_addNode_12 : decode cX5_addNode 12 = .ok (.dup, 1) := by decide +kernel
theorem dX5_addNode_13 : decode cX5_addNode 13 = .ok (.getfield 30, 3) := by decide +kernel
theorem dX5_addNode_16 : decode cX5_addNode 16 = .ok (.iconst 1, 1) := by decide +kernel
theorem dX5_addNode_17 : decode cX5_addNode 17 = .ok (.iadd, 1) := by decide +kernel
theorem dX5_addNode_18 : decode cX5_addNode 18 = .ok (.putfield 30, 3) := by decide +kernel
theorem dX5_addNode_21 : decode cX5_addNode 21 = .ok (.iconst 0, 1) := by decide +kernel
theorem dX5_addNode_22 : decode cX5_addNode 22 = .ok (.istore_n 1, 1) := by decide +kernel
theorem dX5_addNode_23 : decode cX5_addNode 23 = .ok (.iload_n 1, 1) := by decide +kernel
theorem dX5_addNode_24 : decode cX5_addNode 24 = .ok (.aload_n 0, 1) := by decide +kernel
theorem dX5_addNode_25 : decode cX5_addNode 25 = .ok (.getfield 30, 3) := by decide +kernel
theorem dX5_addNode_28 : decode cX5_addNode 28 = .ok (.if_icmp .ge 16, 3) := by decide +kernel
theorem dX5_addNode_31 : decode cX5_addNode 31 = .ok (.aload_n 0, 1) := by decide +kernel
theorem dX5_addNode_32 : decode cX5_addNode 32 = .ok (.getfield 9, 3) := by decide +kernel
theorem dX5_addNode_35 : decode cX5_addNode 35 = .ok (.iload_n 1, 1) := by decide +kernel
theorem dX5_addNode_36 : decode cX5_addNode 36 = .ok (.iload_n 1, 1) := by decide +kernel
theorem dX5_addNode_37 : decode cX5_addNode 37 = .ok (.iastore, 1) := by decide +kernel
theorem dX5_addNode_38 : decode cX5_addNode 38 = .ok (.iinc 1 1, 3) := by decide +kernel
theorem dX5_addNode_41 : decode cX5_addNode 41 = .ok (.goto (-18), 3) := by decide +kernel
theorem dX5_addNode_44 : decode cX5_addNode 44 = .ok (.aload_n 0, 1) := by decide +kernel
theorem dX5_addNode_45 : decode cX5_addNode 45 = .ok (.getfield 30, 3) := by decide +kernel
theorem dX5_addNode_48 : decode cX5_addNode 48 = .ok (.iconst 1, 1) := by decide +kernel
theorem dX5_addNode_49 : decode cX5_addNode 49 = .ok (.isub, 1) := by decide +kernel
theorem dX5_addNode_50 : decode cX5_addNode 50 = .ok (.ireturn, 1) := by decide +kernel
theorem dX5_areJoined_0 : decode cX5_areJoined 0 = .ok (.aload_n 0, 1) := by decide +kernel
theorem dX5_areJoined_1 : decode cX5_areJoined 1 = .ok (.getfield 15, 3) := by decide +kernel
theorem dX5_areJoined_4 : decode cX5_areJoined 4 = .ok (.iload_n 1, 1) := by decide +kernel
theorem dX5_areJoined_5 : decode cX5_areJoined 5 = .ok (.iaload, 1) := by decide +kernel
theorem dX5_areJoined_6 : decode cX5_areJoined 6 = .ok (.iload_n 2, 1) := by decide +kernel
theorem dX5_areJoined_7 : decode cX5_areJoined 7 = .ok (.iushr, 1) := by decide +kernel
theorem dX5_areJoined_8 : decode cX5_areJoined 8 = .ok (.iconst 1, 1) := by decide +kernel
theorem dX5_areJoined_9 : decode cX5_areJoined 9 = .ok (.iand, 1) := by decide +kernel
theorem dX5_areJoined_10 : decode cX5_areJoined 10 = .ok (.ifCond .eq 7, 3) := by decide +kernel
theorem dX5_areJoined_13 : decode cX5_areJoined 13 = .ok (.iconst 1, 1) := by decide +kernel
theorem dX5_areJoined_14 : decode cX5_areJoined 14 = .ok (.goto 4, 3) := by decide +kernel
theorem dX5_areJoined_17 : decode cX5_areJoined 17 = .ok (.iconst 0, 1) := by decide +kernel
theorem dX5_areJoined_18 : decode cX5_areJoined 18 = .ok (.ireturn, 1) := by decide +kernel
theorem dX5_addLine_0 : decode cX5_addLine 0 = .ok (.iload_n 1, 1) := by decide +kernel
theorem dX5_addLine_1 : decode cX5_addLine 1 = .ok (.iload_n 2, 1) := by decide +kernel
theorem dX5_addLine_2 : decode cX5_addLine 2 = .ok (.if_icmp .eq 12, 3) := by decide +kernel
theorem dX5_addLine_5 : decode cX5_addLine 5 = .ok (.aload_n 0, 1) := by decide +kernel
theorem dX5_addLine_6 : decode cX5_addLine 6 = .ok (.iload_n 1, 1) := by decide +kernel
theorem dX5_addLine_7 : decode cX5_addLine 7 = .ok (.iload_n 2, 1) := by decide +kernel
theorem dX5_addLine_8 : decode cX5_addLine 8 = .ok (.invokevirtual 34, 3) := by decide +kernel
theorem dX5_addLine_11 : decode cX5_addLine 11 = .ok (.ifCond .eq 5, 3) := by decide +kernel
theorem dX5_addLine_14 : decode cX5_addLine 14 = .ok (.iconst 0, 1) := by decide +kernel
theorem dX5_addLine_15 : decode cX5_addLine 15 = .ok (.ireturn, 1) := by decide +kernel
theorem dX5_addLine_16 : decode cX5_addLine 16 = .ok (.aload_n 0, 1) := by decide +kernel
theorem dX5_addLine_17 : decode cX5_addLine 17 = .ok (.getfield 15, 3) := by decide +kernel
theorem dX5_addLine_20 : decode cX5_addLine 20 = .ok (.iload_n 1, 1) := by decide +kernel
theorem dX5_addLine_21 : decode cX5_addLine 21 = .ok (.dup2, 1) := by decide +kernel
theorem dX5_addLine_22 : decode cX5_addLine 22 = .ok (.iaload, 1) := by decide +kernel
theorem dX5_addLine_23 : decode cX5_addLine 23 = .ok (.iconst 1, 1) := by decide +kernel
theorem dX5_addLine_24 : decode cX5_addLine 24 = .ok (.iload_n 2, 1) := by decide +kernel
theorem dX5_addLine_25 : decode cX5_addLine 25 = .ok (.ishl, 1) := by decide +kernel
theorem dX5_addLine_26 : decode cX5_addLine 26 = .ok (.ior, 1) := by decide +kernel
theorem dX5_addLine_27 : decode cX5_addLine 27 = .ok (.iastore, 1) := by decide +kernel
theorem dX5_addLine_28 : decode cX5_addLine 28 = .ok (.aload_n 0, 1) := by decide +kernel
theorem dX5_addLine_29 : decode cX5_addLine 29 = .ok (.getfield 15, 3) := by decide +kernel
theorem dX5_addLine_32 : decode cX5_addLine 32 = .ok (.iload_n 2, 1) := by decide +kernel
theorem dX5_addLine_33 : decode cX5_addLine 33 = .ok (.dup2, 1) := by decide +kernel
theorem dX5_addLine_34 : decode cX5_addLine 34 = .ok (.iaload, 1) := by decide +kernel
theorem dX5_addLine_35 : decode cX5_addLine 35 = .ok (.iconst 1, 1) := by decide +kernel
theorem dX5_addLine_36 : decode cX5_addLine 36 = .ok (.iload_n 1, 1) := by decide +kernel
theorem dX5_addLine_37 : decode cX5_addLine 37 = .ok (.ishl, 1) := by decide +kernel
theorem dX5_addLine_38 : decode cX5_addLine 38 = .ok (.ior, 1) := by decide +kernel
theorem dX5_addLine_39 : decode cX5_addLine 39 = .ok (.iastore, 1) := by decide +kernel
theorem dX5_addLine_40 : decode cX5_addLine 40 = .ok (.iconst 1, 1) := by decide +kernel
theorem dX5_addLine_41 : decode cX5_addLine 41 = .ok (.ireturn, 1) := by decide +kernel
theorem dX5_gapNode_0 : decode cX5_gapNode 0 = .ok (.iconst 0, 1) := by decide +kernel
theorem dX5_gapNode_1 : decode cX5_gapNode 1 = .ok (.istore_n 1, 1) := by decide +kernel
theorem dX5_gapNode_2 : decode cX5_gapNode 2 = .ok (.iload_n 1, 1) := by decide +kernel
theorem dX5_gapNode_3 : decode cX5_gapNode 3 = .ok (.aload_n 0, 1) := by decide +kernel
theorem dX5_gapNode_4 : decode cX5_gapNode 4 = .ok (.getfield 30, 3) := by decide +kernel
theorem dX5_gapNode_7 : decode cX5_gapNode 7 = .ok (.iconst 1, 1) := by decide +kernel
theorem dX5_gapNode_8 : decode cX5_gapNode 8 = .ok (.isub, 1) := by decide +kernel
theorem dX5_gapNode_9 : decode cX5_gapNode 9 = .ok (.if_icmp .ge 18, 3) := by decide +kernel
theorem dX5_gapNode_12 : decode cX5_gapNode 12 = .ok (.aload_n 0, 1) := by decide +kernel
theorem dX5_gapNode_13 : decode cX5_gapNode 13 = .ok (.getfield 9, 3) := by decide +kernel
theorem dX5_gapNode_16 : decode cX5_gapNode 16 = .ok (.iload_n 1, 1) := by decide +kernel
theorem dX5_gapNode_17 : decode cX5_gapNode 17 = .ok (.iaload, 1) := by decide +kernel
theorem dX5_gapNode_18 : decode cX5_gapNode 18 = .ok (.ifCond .eq 9, 3) := by decide +kernel
theorem dX5_gapNode_21 : decode cX5_gapNode 21 = .ok (.iinc 1 1, 3) := by decide +kernel
theorem dX5_gapNode_24 : decode cX5_gapNode 24 = .ok (.goto (-22), 3) := by decide +kernel
theorem dX5_gapNode_27 : decode cX5_gapNode 27 = .ok (.iload_n 1, 1) := by decide +kernel
theorem dX5_gapNode_28 : decode cX5_gapNode 28 = .ok (.ireturn, 1) := by decide +kernel
theorem dX5_moveToGap_0 : decode cX5_moveToGap 0 = .ok (.aload_n 0, 1) := by decide +kernel
theorem dX5_moveToGap_1 : decode cX5_moveToGap 1 = .ok (.invokevirtual 38, 3) := by decide +kernel
theorem dX5_moveToGap_4 : decode cX5_moveToGap 4 = .ok (.istore_n 2, 1) := by decide +kernel
theorem dX5_moveToGap_5 : decode cX5_moveToGap 5 = .ok (.aload_n 0, 1) := by decide +kernel
theorem dX5_moveToGap_6 : decode cX5_moveToGap 6 = .ok (.iload_n 2, 1) := by decide +kernel
theorem dX5_moveToGap_7 : decode cX5_moveToGap 7 = .ok (.iload_n 1, 1) := by decide +kernel
theorem dX5_moveToGap_8 : decode cX5_moveToGap 8 = .ok (.invokevirtual 34, 3) := by decide +kernel
theorem dX5_moveToGap_11 : decode cX5_moveToGap 11 = .ok (.ifCond .eq 16, 3) := by decide +kernel
theorem dX5_moveToGap_14 : decode cX5_moveToGap 14 = .ok (.aload_n 0, 1) := by decide +kernel
theorem dX5_moveToGap_15 : decode cX5_moveToGap 15 = .ok (.iload_n 2, 1) := by decide +kernel
theorem dX5_moveToGap_16 : decode cX5_moveToGap 16 = .ok (.iload_n 1, 1) := by decide +kernel
theorem dX5_moveToGap_17 : decode cX5_moveToGap 17 = .ok (.invokevirtual 42, 3) := by decide +kernel
theorem dX5_moveToGap_20 : decode cX5_moveToGap 20 = .ok (.ifCond .eq 7, 3) := by decide +kernel
theorem dX5_moveToGap_23 : decode cX5_moveToGap 23 = .ok (.iconst 1, 1) := by decide +kernel
theorem dX5_moveToGap_24 : decode cX5_moveToGap 24 = .ok (.goto 4, 3) := by decide +kernel
theorem dX5_moveToGap_27 : decode cX5_moveToGap 27 = .ok (.iconst 0, 1) := by decide +kernel
theorem dX5_moveToGap_28 : decode cX5_moveToGap 28 = .ok (.ireturn, 1) := by decide +kernel
theorem dX5_exchange_0 : decode cX5_exchange 0 = .ok (.iload_n 1, 1) := by decide +kernel
theorem dX5_exchange_1 : decode cX5_exchange 1 = .ok (.iload_n 2, 1) := by decide +kernel
theorem dX5_exchange_2 : decode cX5_exchange 2 = .ok (.if_icmp .ne 5, 3) := by decide +kernel
theorem dX5_exchange_5 : decode cX5_exchange 5 = .ok (.iconst 0, 1) := by decide +kernel
theorem dX5_exchange_6 : decode cX5_exchange 6 = .ok (.ireturn, 1) := by decide +kernel
theorem dX5_exchange_7 : decode cX5_exchange 7 = .ok (.aload_n 0, 1) := by decide +kernel
theorem dX5_exchange_8 : decode cX5_exchange 8 = .ok (.getfield 9, 3) := by decide +kernel
theorem dX5_exchange_11 : decode cX5_exchange 11 = .ok (.iload_n 1, 1) := by decide +kernel
theorem dX5_exchange_12 : decode cX5_exchange 12 = .ok (.iaload, 1) := by decide +kernel
theorem dX5_exchange_13 : decode cX5_exchange 13 = .ok (.istore_n 3, 1) := by decide +kernel
theorem dX5_exchange_14 : decode cX5_exchange 14 = .ok (.aload_n 0, 1) := by decide +kernel
theorem dX5_exchange_15 : decode cX5_exchange 15 = .ok (.getfield 9, 3) := by decide +kernel
theorem dX5_exchange_18 : decode cX5_exchange 18 = .ok (.iload_n 1, 1) := by decide +kernel
theorem dX5_exchange_19 : decode cX5_exchange 19 = .ok (.aload_n 0, 1) := by decide +kernel
theorem dX5_exchange_20 : decode cX5_exchange 20 = .ok (.getfield 9, 3) := by decide +kernel
theorem dX5_exchange_23 : decode cX5_exchange 23 = .ok (.iload_n 2, 1) := by decide +kernel
theorem dX5_exchange_24 : decode cX5_exchange 24 = .ok (.iaload, 1) := by decide +kernel
theorem dX5_exchange_25 : decode cX5_exchange 25 = .ok (.iastore, 1) := by decide +kernel
theorem dX5_exchange_26 : decode cX5_exchange 26 = .ok (.aload_n 0, 1) := by decide +kernel
theorem dX5_exchange_27 : decode cX5_exchange 27 = .ok (.getfield 9, 3) := by decide +kernel
theorem dX5_exchange_30 : decode cX5_exchange 30 = .ok (.iload_n 2, 1) := by decide +kernel
theorem dX5_exchange_31 : decode cX5_exchange 31 = .ok (.iload_n 3, 1) := by decide +kernel
theorem dX5_exchange_32 : decode cX5_exchange 32 = .ok (.iastore, 1) := by decide +kernel
theorem dX5_exchange_33 : decode cX5_exchange 33 = .ok (.iconst 1, 1) := by decide +kernel
theorem dX5_exchange_34 : decode cX5_exchange 34 = .ok (.ireturn, 1) := by decide +kernel
theorem dX5_measureDistances_0 : decode cX5_measureDistances 0 = .ok (.iconst 0, 1) := by decide +kernel
theorem dX5_measureDistances_1 : decode cX5_measureDistances 1 = .ok (.istore_n 1, 1) := by decide +kernel
theorem dX5_measureDistances_2 : decode cX5_measureDistances 2 = .ok (.iload_n 1, 1) := by decide +kernel
theorem dX5_measureDistances_3 : decode cX5_measureDistances 3 = .ok (.aload_n 0, 1) := by decide +kernel
theorem dX5_measureDistances_4 : decode cX5_measureDistances 4 = .ok (.getfield 30, 3) := by decide +kernel
theorem dX5_measureDistances_7 : decode cX5_measureDistances 7 = .ok (.if_icmp .ge 16, 3) := by decide +kernel
theorem dX5_measureDistances_10 : decode cX5_measureDistances 10 = .ok (.aload_n 0, 1) := by decide +kernel
theorem dX5_measureDistances_11 : decode cX5_measureDistances 11 = .ok (.getfield 18, 3) := by decide +kernel
theorem dX5_measureDistances_14 : decode cX5_measureDistances 14 = .ok (.iload_n 1, 1) := by decide +kernel
theorem dX5_measureDistances_15 : decode cX5_measureDistances 15 = .ok (.iconst (-1), 1) := by decide +kernel
theorem dX5_measureDistances_16 : decode cX5_measureDistances 16 = .ok (.iastore, 1) := by decide +kernel
theorem dX5_measureDistances_17 : decode cX5_measureDistances 17 = .ok (.iinc 1 1, 3) := by decide +kernel
theorem dX5_measureDistances_20 : decode cX5_measureDistances 20 = .ok (.goto (-18), 3) := by decide +kernel
theorem dX5_measureDistances_23 : decode cX5_measureDistances 23 = .ok (.iconst 0, 1) := by decide +kernel
theorem dX5_measureDistances_24 : decode cX5_measureDistances 24 = .ok (.istore_n 1, 1) := by decide +kernel
theorem dX5_measureDistances_25 : decode cX5_measureDistances 25 = .ok (.iload_n 1, 1) := by decide +kernel
theorem dX5_measureDistances_26 : decode cX5_measureDistances 26 = .ok (.aload_n 0, 1) := by decide +kernel
theorem dX5_measureDistances_27 : decode cX5_measureDistances 27 = .ok (.getfield 30, 3) := by decide +kernel
theorem dX5_measureDistances_30 : decode cX5_measureDistances 30 = .ok (.if_icmp .ge 30, 3) := by decide +kernel
theorem dX5_measureDistances_33 : decode cX5_measureDistances 33 = .ok (.aload_n 0, 1) := by decide +kernel
theorem dX5_measureDistances_34 : decode cX5_measureDistances 34 = .ok (.getfield 18, 3) := by decide +kernel
theorem dX5_measureDistances_37 : decode cX5_measureDistances 37 = .ok (.iload_n 1, 1) := by decide +kernel
theorem dX5_measureDistances_38 : decode cX5_measureDistances 38 = .ok (.iaload, 1) := by decide +kernel
theorem dX5_measureDistances_39 : decode cX5_measureDistances 39 = .ok (.iconst (-1), 1) := by decide +kernel
theorem dX5_measureDistances_40 : decode cX5_measureDistances 40 = .ok (.if_icmp .ne 14, 3) := by decide +kernel
theorem dX5_measureDistances_43 : decode cX5_measureDistances 43 = .ok (.aload_n 0, 1) := by decide +kernel
theorem dX5_measureDistances_44 : decode cX5_measureDistances 44 = .ok (.getfield 18, 3) := by decide +kernel
theorem dX5_measureDistances_47 : decode cX5_measureDistances 47 = .ok (.iload_n 1, 1) := by decide +kernel
theorem dX5_measureDistances_48 : decode cX5_measureDistances 48 = .ok (.iconst 0, 1) := by decide +kernel
theorem dX5_measureDistances_49 : decode cX5_measureDistances 49 = .ok (.iastore, 1) := by decide +kernel
theorem dX5_measureDistances_50 : decode cX5_measureDistances 50 = .ok (.aload_n 0, 1) := by decide +kernel
theorem dX5_measureDistances_51 : decode cX5_measureDistances 51 = .ok (.invokevirtual 45, 3) := by decide +kernel
theorem dX5_measureDistances_54 : decode cX5_measureDistances 54 = .ok (.iinc 1 1, 3) := by decide +kernel
theorem dX5_measureDistances_57 : decode cX5_measureDistances 57 = .ok (.goto (-32), 3) := by decide +kernel
theorem dX5_measureDistances_60 : decode cX5_measureDistances 60 = .ok (.return_, 1) := by decide +kernel
theorem dX5_spreadDistances_0 : decode cX5_spreadDistances 0 = .ok (.iconst 0, 1) := by decide +kernel
theorem dX5_spreadDistances_1 : decode cX5_spreadDistances 1 = .ok (.istore_n 1, 1) := by decide +kernel
theorem dX5_spreadDistances_2 : decode cX5_spreadDistances 2 = .ok (.iload_n 1, 1) := by decide +kernel
theorem dX5_spreadDistances_3 : decode cX5_spreadDistances 3 = .ok (.aload_n 0, 1) := by decide +kernel
theorem dX5_spreadDistances_4 : decode cX5_spreadDistances 4 = .ok (.getfield 30, 3) := by decide +kernel
theorem dX5_spreadDistances_7 : decode cX5_spreadDistances 7 = .ok (.if_icmp .ge 79, 3) := by decide +kernel
theorem dX5_spreadDistances_10 : decode cX5_spreadDistances 10 = .ok (.iconst 0, 1) := by decide +kernel
theorem dX5_spreadDistances_11 : decode cX5_spreadDistances 11 = .ok (.istore_n 2, 1) := by decide +kernel
theorem dX5_spreadDistances_12 : decode cX5_spreadDistances 12 = .ok (.iload_n 2, 1) := by decide +kernel
theorem dX5_spreadDistances_13 : decode cX5_spreadDistances 13 = .ok (.aload_n 0, 1) := by decide +kernel
theorem dX5_spreadDistances_14 : decode cX5_spreadDistances 14 = .ok (.getfield 30, 3) := by decide +kernel
theorem dX5_spreadDistances_17 : decode cX5_spreadDistances 17 = .ok (.if_icmp .ge 63, 3) := by decide +kernel
theorem dX5_spreadDistances_20 : decode cX5_spreadDistances 20 = .ok (.iconst 0, 1) := by decide +kernel
theorem dX5_spreadDistances_21 : decode cX5_spreadDistances 21 = .ok (.istore_n 3, 1) := by decide +kernel
theorem dX5_spreadDistances_22 : decode cX5_spreadDistances 22 = .ok (.iload_n 3, 1) := by decide +kernel
theorem dX5_spreadDistances_23 : decode cX5_spreadDistances 23 = .ok (.aload_n 0, 1) := by decide +kernel
theorem dX5_spreadDistances_24 : decode cX5_spreadDistances 24 = .ok (.getfield 30, 3) := by decide +kernel
theorem dX5_spreadDistances_27 : decode cX5_spreadDistances 27 = .ok (.if_icmp .ge 47, 3) := by decide +kernel
theorem dX5_spreadDistances_30 : decode cX5_spreadDistances 30 = .ok (.aload_n 0, 1) := by decide +kernel
theorem dX5_spreadDistances_31 : decode cX5_spreadDistances 31 = .ok (.getfield 18, 3) := by decide +kernel
theorem dX5_spreadDistances_34 : decode cX5_spreadDistances 34 = .ok (.iload_n 2, 1) := by decide +kernel
theorem dX5_spreadDistances_35 : decode cX5_spreadDistances 35 = .ok (.iaload, 1) := by decide +kernel
theorem dX5_spreadDistances_36 : decode cX5_spreadDistances 36 = .ok (.iload_n 1, 1) := by decide +kernel
theorem dX5_spreadDistances_37 : decode cX5_spreadDistances 37 = .ok (.if_icmp .ne 31, 3) := by decide +kernel
theorem dX5_spreadDistances_40 : decode cX5_spreadDistances 40 = .ok (.aload_n 0, 1) := by decide +kernel
theorem dX5_spreadDistances_41 : decode cX5_spreadDistances 41 = .ok (.getfield 18, 3) := by decide +kernel
theorem dX5_spreadDistances_44 : decode cX5_spreadDistances 44 = .ok (.iload_n 3, 1) := by decide +kernel
theorem dX5_spreadDistances_45 : decode cX5_spreadDistances 45 = .ok (.iaload, 1) := by decide +kernel
theorem dX5_spreadDistances_46 : decode cX5_spreadDistances 46 = .ok (.iconst (-1), 1) := by decide +kernel
theorem dX5_spreadDistances_47 : decode cX5_spreadDistances 47 = .ok (.if_icmp .ne 21, 3) := by decide +kernel
theorem dX5_spreadDistances_50 : decode cX5_spreadDistances 50 = .ok (.aload_n 0, 1) := by decide +kernel
theorem dX5_spreadDistances_51 : decode cX5_spreadDistances 51 = .ok (.iload_n 2, 1) := by decide +kernel
theorem dX5_spreadDistances_52 : decode cX5_spreadDistances 52 = .ok (.iload_n 3, 1) := by decide +kernel
theorem dX5_spreadDistances_53 : decode cX5_spreadDistances 53 = .ok (.invokevirtual 34, 3) := by decide +kernel
theorem dX5_spreadDistances_56 : decode cX5_spreadDistances 56 = .ok (.ifCond .eq 12, 3) := by decide +kernel
theorem dX5_spreadDistances_59 : decode cX5_spreadDistances 59 = .ok (.aload_n 0, 1) := by decide +kernel
theorem dX5_spreadDistances_60 : decode cX5_spreadDistances 60 = .ok (.getfield 18, 3) := by decide +kernel
theorem dX5_spreadDistances_63 : decode cX5_spreadDistances 63 = .ok (.iload_n 3, 1) := by decide +kernel
theorem dX5_spreadDistances_64 : decode cX5_spreadDistances 64 = .ok (.iload_n 1, 1) := by decide +kernel
theorem dX5_spreadDistances_65 : decode cX5_spreadDistances 65 = .ok (.iconst 1, 1) := by decide +kernel
theorem dX5_spreadDistances_66 : decode cX5_spreadDistances 66 = .ok (.iadd, 1) := by decide +kernel
theorem dX5_spreadDistances_67 : decode cX5_spreadDistances 67 = .ok (.iastore, 1) := by decide +kernel
theorem dX5_spreadDistances_68 : decode cX5_spreadDistances 68 = .ok (.iinc 3 1, 3) := by decide +kernel
theorem dX5_spreadDistances_71 : decode cX5_spreadDistances 71 = .ok (.goto (-49), 3) := by decide +kernel
theorem dX5_spreadDistances_74 : decode cX5_spreadDistances 74 = .ok (.iinc 2 1, 3) := by decide +kernel
theorem dX5_spreadDistances_77 : decode cX5_spreadDistances 77 = .ok (.goto (-65), 3) := by decide +kernel
theorem dX5_spreadDistances_80 : decode cX5_spreadDistances 80 = .ok (.iinc 1 1, 3) := by decide +kernel
theorem dX5_spreadDistances_83 : decode cX5_spreadDistances 83 = .ok (.goto (-81), 3) := by decide +kernel
theorem dX5_spreadDistances_86 : decode cX5_spreadDistances 86 = .ok (.return_, 1) := by decide +kernel
theorem dX5_hasTwoColours_0 : decode cX5_hasTwoColours 0 = .ok (.aload_n 0, 1) := by decide +kernel
theorem dX5_hasTwoColours_1 : decode cX5_hasTwoColours 1 = .ok (.invokevirtual 48, 3) := by decide +kernel
theorem dX5_hasTwoColours_4 : decode cX5_hasTwoColours 4 = .ok (.iconst 0, 1) := by decide +kernel
theorem dX5_hasTwoColours_5 : decode cX5_hasTwoColours 5 = .ok (.istore_n 1, 1) := by decide +kernel
theorem dX5_hasTwoColours_6 : decode cX5_hasTwoColours 6 = .ok (.iload_n 1, 1) := by decide +kernel
theorem dX5_hasTwoColours_7 : decode cX5_hasTwoColours 7 = .ok (.aload_n 0, 1) := by decide +kernel
theorem dX5_hasTwoColours_8 : decode cX5_hasTwoColours 8 = .ok (.getfield 30, 3) := by decide +kernel
theorem dX5_hasTwoColours_11 : decode cX5_hasTwoColours 11 = .ok (.if_icmp .ge 51, 3) := by decide +kernel
theorem dX5_hasTwoColours_14 : decode cX5_hasTwoColours 14 = .ok (.iconst 0, 1) := by decide +kernel
theorem dX5_hasTwoColours_15 : decode cX5_hasTwoColours 15 = .ok (.istore_n 2, 1) := by decide +kernel
theorem dX5_hasTwoColours_16 : decode cX5_hasTwoColours 16 = .ok (.iload_n 2, 1) := by decide +kernel
theorem dX5_hasTwoColours_17 : decode cX5_hasTwoColours 17 = .ok (.iload_n 1, 1) := by decide +kernel
theorem dX5_hasTwoColours_18 : decode cX5_hasTwoColours 18 = .ok (.if_icmp .ge 38, 3) := by decide +kernel
theorem dX5_hasTwoColours_21 : decode cX5_hasTwoColours 21 = .ok (.aload_n 0, 1) := by decide +kernel
theorem dX5_hasTwoColours_22 : decode cX5_hasTwoColours 22 = .ok (.iload_n 1, 1) := by decide +kernel
theorem dX5_hasTwoColours_23 : decode cX5_hasTwoColours 23 = .ok (.iload_n 2, 1) := by decide +kernel
theorem dX5_hasTwoColours_24 : decode cX5_hasTwoColours 24 = .ok (.invokevirtual 34, 3) := by decide +kernel
theorem dX5_hasTwoColours_27 : decode cX5_hasTwoColours 27 = .ok (.ifCond .eq 23, 3) := by decide +kernel
theorem dX5_hasTwoColours_30 : decode cX5_hasTwoColours 30 = .ok (.aload_n 0, 1) := by decide +kernel
theorem dX5_hasTwoColours_31 : decode cX5_hasTwoColours 31 = .ok (.getfield 18, 3) := by decide +kernel
theorem dX5_hasTwoColours_34 : decode cX5_hasTwoColours 34 = .ok (.iload_n 1, 1) := by decide +kernel
theorem dX5_hasTwoColours_35 : decode cX5_hasTwoColours 35 = .ok (.iaload, 1) := by decide +kernel
theorem dX5_hasTwoColours_36 : decode cX5_hasTwoColours 36 = .ok (.aload_n 0, 1) := by decide +kernel
theorem dX5_hasTwoColours_37 : decode cX5_hasTwoColours 37 = .ok (.getfield 18, 3) := by decide +kernel
theorem dX5_hasTwoColours_40 : decode cX5_hasTwoColours 40 = .ok (.iload_n 2, 1) := by decide +kernel
theorem dX5_hasTwoColours_41 : decode cX5_hasTwoColours 41 = .ok (.iaload, 1) := by decide +kernel
theorem dX5_hasTwoColours_42 : decode cX5_hasTwoColours 42 = .ok (.iadd, 1) := by decide +kernel
theorem dX5_hasTwoColours_43 : decode cX5_hasTwoColours 43 = .ok (.iconst 2, 1) := by decide +kernel
theorem dX5_hasTwoColours_44 : decode cX5_hasTwoColours 44 = .ok (.irem, 1) := by decide +kernel
theorem dX5_hasTwoColours_45 : decode cX5_hasTwoColours 45 = .ok (.ifCond .ne 5, 3) := by decide +kernel
theorem dX5_hasTwoColours_48 : decode cX5_hasTwoColours 48 = .ok (.iconst 0, 1) := by decide +kernel
theorem dX5_hasTwoColours_49 : decode cX5_hasTwoColours 49 = .ok (.ireturn, 1) := by decide +kernel
theorem dX5_hasTwoColours_50 : decode cX5_hasTwoColours 50 = .ok (.iinc 2 1, 3) := by decide +kernel
theorem dX5_hasTwoColours_53 : decode cX5_hasTwoColours 53 = .ok (.goto (-37), 3) := by decide +kernel
theorem dX5_hasTwoColours_56 : decode cX5_hasTwoColours 56 = .ok (.iinc 1 1, 3) := by decide +kernel
theorem dX5_hasTwoColours_59 : decode cX5_hasTwoColours 59 = .ok (.goto (-53), 3) := by decide +kernel
theorem dX5_hasTwoColours_62 : decode cX5_hasTwoColours 62 = .ok (.iconst 1, 1) := by decide +kernel
theorem dX5_hasTwoColours_63 : decode cX5_hasTwoColours 63 = .ok (.ireturn, 1) := by decide +kernel
theorem dX5_invariant_0 : decode cX5_invariant 0 = .ok (.aload_n 0, 1) := by decide +kernel
theorem dX5_invariant_1 : decode cX5_invariant 1 = .ok (.getfield 30, 3) := by decide +kernel
theorem dX5_invariant_4 : decode cX5_invariant 4 = .ok (.ifCond .eq 10, 3) := by decide +kernel
theorem dX5_invariant_7 : decode cX5_invariant 7 = .ok (.aload_n 0, 1) := by decide +kernel
theorem dX5_invariant_8 : decode cX5_invariant 8 = .ok (.invokevirtual 51, 3) := by decide +kernel
theorem dX5_invariant_11 : decode cX5_invariant 11 = .ok (.ifCond .ne 5, 3) := by decide +kernel
theorem dX5_invariant_14 : decode cX5_invariant 14 = .ok (.iconst (-1), 1) := by decide +kernel
theorem dX5_invariant_15 : decode cX5_invariant 15 = .ok (.ireturn, 1) := by decide +kernel
theorem dX5_invariant_16 : decode cX5_invariant 16 = .ok (.aload_n 0, 1) := by decide +kernel
theorem dX5_invariant_17 : decode cX5_invariant 17 = .ok (.invokevirtual 55, 3) := by decide +kernel
theorem dX5_invariant_20 : decode cX5_invariant 20 = .ok (.aload_n 0, 1) := by decide +kernel
theorem dX5_invariant_21 : decode cX5_invariant 21 = .ok (.getfield 18, 3) := by decide +kernel
theorem dX5_invariant_24 : decode cX5_invariant 24 = .ok (.aload_n 0, 1) := by decide +kernel
theorem dX5_invariant_25 : decode cX5_invariant 25 = .ok (.invokevirtual 38, 3) := by decide +kernel
theorem dX5_invariant_28 : decode cX5_invariant 28 = .ok (.iaload, 1) := by decide +kernel
theorem dX5_invariant_29 : decode cX5_invariant 29 = .ok (.iadd, 1) := by decide +kernel
theorem dX5_invariant_30 : decode cX5_invariant 30 = .ok (.iconst 2, 1) := by decide +kernel
theorem dX5_invariant_31 : decode cX5_invariant 31 = .ok (.irem, 1) := by decide +kernel
theorem dX5_invariant_32 : decode cX5_invariant 32 = .ok (.ireturn, 1) := by decide +kernel
theorem dX5_countInversions_0 : decode cX5_countInversions 0 = .ok (.iconst 0, 1) := by decide +kernel
theorem dX5_countInversions_1 : decode cX5_countInversions 1 = .ok (.istore_n 1, 1) := by decide +kernel
theorem dX5_countInversions_2 : decode cX5_countInversions 2 = .ok (.iconst 0, 1) := by decide +kernel
theorem dX5_countInversions_3 : decode cX5_countInversions 3 = .ok (.istore_n 2, 1) := by decide +kernel
theorem dX5_countInversions_4 : decode cX5_countInversions 4 = .ok (.iload_n 2, 1) := by decide +kernel
theorem dX5_countInversions_5 : decode cX5_countInversions 5 = .ok (.aload_n 0, 1) := by decide +kernel
theorem dX5_countInversions_6 : decode cX5_countInversions 6 = .ok (.getfield 30, 3) := by decide +kernel
theorem dX5_countInversions_9 : decode cX5_countInversions 9 = .ok (.if_icmp .ge 45, 3) := by decide +kernel
theorem dX5_countInversions_12 : decode cX5_countInversions 12 = .ok (.iload_n 2, 1) := by decide +kernel
theorem dX5_countInversions_13 : decode cX5_countInversions 13 = .ok (.iconst 1, 1) := by decide +kernel
theorem dX5_countInversions_14 : decode cX5_countInversions 14 = .ok (.iadd, 1) := by decide +kernel
theorem dX5_countInversions_15 : decode cX5_countInversions 15 = .ok (.istore_n 3, 1) := by decide +kernel
theorem dX5_countInversions_16 : decode cX5_countInversions 16 = .ok (.iload_n 3, 1) := by decide +kernel
theorem dX5_countInversions_17 : decode cX5_countInversions 17 = .ok (.aload_n 0, 1) := by decide +kernel
theorem dX5_countInversions_18 : decode cX5_countInversions 18 = .ok (.getfield 30, 3) := by decide +kernel
theorem dX5_countInversions_21 : decode cX5_countInversions 21 = .ok (.if_icmp .ge 27, 3) := by decide +kernel
theorem dX5_countInversions_24 : decode cX5_countInversions 24 = .ok (.aload_n 0, 1) := by decide +kernel
theorem dX5_countInversions_25 : decode cX5_countInversions 25 = .ok (.getfield 9, 3) := by decide +kernel
theorem dX5_countInversions_28 : decode cX5_countInversions 28 = .ok (.iload_n 2, 1) := by decide +kernel
theorem dX5_countInversions_29 : decode cX5_countInversions 29 = .ok (.iaload, 1) := by decide +kernel
theorem dX5_countInversions_30 : decode cX5_countInversions 30 = .ok (.aload_n 0, 1) := by decide +kernel
theorem dX5_countInversions_31 : decode cX5_countInversions 31 = .ok (.getfield 9, 3) := by decide +kernel
theorem dX5_countInversions_34 : decode cX5_countInversions 34 = .ok (.iload_n 3, 1) := by decide +kernel
theorem dX5_countInversions_35 : decode cX5_countInversions 35 = .ok (.iaload, 1) := by decide +kernel
theorem dX5_countInversions_36 : decode cX5_countInversions 36 = .ok (.if_icmp .le 6, 3) := by decide +kernel
theorem dX5_countInversions_39 : decode cX5_countInversions 39 = .ok (.iinc 1 1, 3) := by decide +kernel
theorem dX5_countInversions_42 : decode cX5_countInversions 42 = .ok (.iinc 3 1, 3) := by decide +kernel
theorem dX5_countInversions_45 : decode cX5_countInversions 45 = .ok (.goto (-29), 3) := by decide +kernel
theorem dX5_countInversions_48 : decode cX5_countInversions 48 = .ok (.iinc 2 1, 3) := by decide +kernel
theorem dX5_countInversions_51 : decode cX5_countInversions 51 = .ok (.goto (-47), 3) := by decide +kernel
theorem dX5_countInversions_54 : decode cX5_countInversions 54 = .ok (.iload_n 1, 1) := by decide +kernel
theorem dX5_countInversions_55 : decode cX5_countInversions 55 = .ok (.ireturn, 1) := by decide +kernel
theorem dX5_countArrangements_0 : decode cX5_countArrangements 0 = .ok (.aload_n 0, 1) := by decide +kernel
theorem dX5_countArrangements_1 : decode cX5_countArrangements 1 = .ok (.getfield 30, 3) := by decide +kernel
theorem dX5_countArrangements_4 : decode cX5_countArrangements 4 = .ok (.ifCond .ne 5, 3) := by decide +kernel
theorem dX5_countArrangements_7 : decode cX5_countArrangements 7 = .ok (.iconst 0, 1) := by decide +kernel
theorem dX5_countArrangements_8 : decode cX5_countArrangements 8 = .ok (.ireturn, 1) := by decide +kernel
theorem dX5_countArrangements_9 : decode cX5_countArrangements 9 = .ok (.aload_n 0, 1) := by decide +kernel
theorem dX5_countArrangements_10 : decode cX5_countArrangements 10 = .ok (.invokevirtual 58, 3) := by decide +kernel
theorem dX5_countArrangements_13 : decode cX5_countArrangements 13 = .ok (.aload_n 0, 1) := by decide +kernel
theorem dX5_countArrangements_14 : decode cX5_countArrangements 14 = .ok (.getfield 61, 3) := by decide +kernel
theorem dX5_countArrangements_17 : decode cX5_countArrangements 17 = .ok (.ireturn, 1) := by decide +kernel
theorem dX5_comesHome_0 : decode cX5_comesHome 0 = .ok (.iconst 0, 1) := by decide +kernel
theorem dX5_comesHome_1 : decode cX5_comesHome 1 = .ok (.istore_n 1, 1) := by decide +kernel
theorem dX5_comesHome_2 : decode cX5_comesHome 2 = .ok (.iconst 0, 1) := by decide +kernel
theorem dX5_comesHome_3 : decode cX5_comesHome 3 = .ok (.istore_n 2, 1) := by decide +kernel
theorem dX5_comesHome_4 : decode cX5_comesHome 4 = .ok (.iload_n 2, 1) := by decide +kernel
theorem dX5_comesHome_5 : decode cX5_comesHome 5 = .ok (.aload_n 0, 1) := by decide +kernel
theorem dX5_comesHome_6 : decode cX5_comesHome 6 = .ok (.getfield 30, 3) := by decide +kernel
theorem dX5_comesHome_9 : decode cX5_comesHome 9 = .ok (.if_icmp .ge 17, 3) := by decide +kernel
theorem dX5_comesHome_12 : decode cX5_comesHome 12 = .ok (.iload_n 1, 1) := by decide +kernel
theorem dX5_comesHome_13 : decode cX5_comesHome 13 = .ok (.iload_n 2, 1) := by decide +kernel
theorem dX5_comesHome_14 : decode cX5_comesHome 14 = .ok (.iconst 3, 1) := by decide +kernel
theorem dX5_comesHome_15 : decode cX5_comesHome 15 = .ok (.iload_n 2, 1) := by decide +kernel
theorem dX5_comesHome_16 : decode cX5_comesHome 16 = .ok (.imul, 1) := by decide +kernel
theorem dX5_comesHome_17 : decode cX5_comesHome 17 = .ok (.ishl, 1) := by decide +kernel
theorem dX5_comesHome_18 : decode cX5_comesHome 18 = .ok (.ior, 1) := by decide +kernel
theorem dX5_comesHome_19 : decode cX5_comesHome 19 = .ok (.istore_n 1, 1) := by decide +kernel
theorem dX5_comesHome_20 : decode cX5_comesHome 20 = .ok (.iinc 2 1, 3) := by decide +kernel
theorem dX5_comesHome_23 : decode cX5_comesHome 23 = .ok (.goto (-19), 3) := by decide +kernel
theorem dX5_comesHome_26 : decode cX5_comesHome 26 = .ok (.aload_n 0, 1) := by decide +kernel
theorem dX5_comesHome_27 : decode cX5_comesHome 27 = .ok (.invokevirtual 58, 3) := by decide +kernel
theorem dX5_comesHome_30 : decode cX5_comesHome 30 = .ok (.aload_n 0, 1) := by decide +kernel
theorem dX5_comesHome_31 : decode cX5_comesHome 31 = .ok (.iload_n 1, 1) := by decide +kernel
theorem dX5_comesHome_32 : decode cX5_comesHome 32 = .ok (.invokevirtual 64, 3) := by decide +kernel
theorem dX5_comesHome_35 : decode cX5_comesHome 35 = .ok (.ireturn, 1) := by decide +kernel
theorem dX5_findArrangements_0 : decode cX5_findArrangements 0 = .ok (.iconst 0, 1) := by decide +kernel
theorem dX5_findArrangements_1 : decode cX5_findArrangements 1 = .ok (.istore_n 1, 1) := by decide +kernel
theorem dX5_findArrangements_2 : decode cX5_findArrangements 2 = .ok (.iload_n 1, 1) := by decide +kernel
theorem dX5_findArrangements_3 : decode cX5_findArrangements 3 = .ok (.aload_n 0, 1) := by decide +kernel
theorem dX5_findArrangements_4 : decode cX5_findArrangements 4 = .ok (.getfield 61, 3) := by decide +kernel
theorem dX5_findArrangements_7 : decode cX5_findArrangements 7 = .ok (.if_icmp .ge 24, 3) := by decide +kernel
theorem dX5_findArrangements_10 : decode cX5_findArrangements 10 = .ok (.aload_n 0, 1) := by decide +kernel
theorem dX5_findArrangements_11 : decode cX5_findArrangements 11 = .ok (.getfield 26, 3) := by decide +kernel
theorem dX5_findArrangements_14 : decode cX5_findArrangements 14 = .ok (.aload_n 0, 1) := by decide +kernel
theorem dX5_findArrangements_15 : decode cX5_findArrangements 15 = .ok (.getfield 22, 3) := by decide +kernel
theorem dX5_findArrangements_18 : decode cX5_findArrangements 18 = .ok (.iload_n 1, 1) := by decide +kernel
theorem dX5_findArrangements_19 : decode cX5_findArrangements 19 = .ok (.iaload, 1) := by decide +kernel
theorem dX5_findArrangements_20 : decode cX5_findArrangements 20 = .ok (.invokestatic 68, 3) := by decide +kernel
theorem dX5_findArrangements_23 : decode cX5_findArrangements 23 = .ok (.lconst 0, 1) := by decide +kernel
theorem dX5_findArrangements_24 : decode cX5_findArrangements 24 = .ok (.lastore, 1) := by decide +kernel
theorem dX5_findArrangements_25 : decode cX5_findArrangements 25 = .ok (.iinc 1 1, 3) := by decide +kernel
theorem dX5_findArrangements_28 : decode cX5_findArrangements 28 = .ok (.goto (-26), 3) := by decide +kernel
theorem dX5_findArrangements_31 : decode cX5_findArrangements 31 = .ok (.aload_n 0, 1) := by decide +kernel
theorem dX5_findArrangements_32 : decode cX5_findArrangements 32 = .ok (.iconst 0, 1) := by decide +kernel
theorem dX5_findArrangements_33 : decode cX5_findArrangements 33 = .ok (.putfield 61, 3) := by decide +kernel
theorem dX5_findArrangements_36 : decode cX5_findArrangements 36 = .ok (.iconst 0, 1) := by decide +kernel
theorem dX5_findArrangements_37 : decode cX5_findArrangements 37 = .ok (.istore_n 1, 1) := by decide +kernel
theorem dX5_findArrangements_38 : decode cX5_findArrangements 38 = .ok (.iconst 0, 1) := by decide +kernel
theorem dX5_findArrangements_39 : decode cX5_findArrangements 39 = .ok (.istore_n 2, 1) := by decide +kernel
theorem dX5_findArrangements_40 : decode cX5_findArrangements 40 = .ok (.iload_n 2, 1) := by decide +kernel
theorem dX5_findArrangements_41 : decode cX5_findArrangements 41 = .ok (.aload_n 0, 1) := by decide +kernel
theorem dX5_findArrangements_42 : decode cX5_findArrangements 42 = .ok (.getfield 30, 3) := by decide +kernel
theorem dX5_findArrangements_45 : decode cX5_findArrangements 45 = .ok (.if_icmp .ge 22, 3) := by decide +kernel
theorem dX5_findArrangements_48 : decode cX5_findArrangements 48 = .ok (.iload_n 1, 1) := by decide +kernel
theorem dX5_findArrangements_49 : decode cX5_findArrangements 49 = .ok (.aload_n 0, 1) := by decide +kernel
theorem dX5_findArrangements_50 : decode cX5_findArrangements 50 = .ok (.getfield 9, 3) := by decide +kernel
theorem dX5_findArrangements_53 : decode cX5_findArrangements 53 = .ok (.iload_n 2, 1) := by decide +kernel
theorem dX5_findArrangements_54 : decode cX5_findArrangements 54 = .ok (.iaload, 1) := by decide +kernel
theorem dX5_findArrangements_55 : decode cX5_findArrangements 55 = .ok (.iconst 3, 1) := by decide +kernel
theorem dX5_findArrangements_56 : decode cX5_findArrangements 56 = .ok (.iload_n 2, 1) := by decide +kernel
theorem dX5_findArrangements_57 : decode cX5_findArrangements 57 = .ok (.imul, 1) := by decide +kernel
theorem dX5_findArrangements_58 : decode cX5_findArrangements 58 = .ok (.ishl, 1) := by decide +kernel
theorem dX5_findArrangements_59 : decode cX5_findArrangements 59 = .ok (.ior, 1) := by decide +kernel
theorem dX5_findArrangements_60 : decode cX5_findArrangements 60 = .ok (.istore_n 1, 1) := by decide +kernel
theorem dX5_findArrangements_61 : decode cX5_findArrangements 61 = .ok (.iinc 2 1, 3) := by decide +kernel
theorem dX5_findArrangements_64 : decode cX5_findArrangements 64 = .ok (.goto (-24), 3) := by decide +kernel
theorem dX5_findArrangements_67 : decode cX5_findArrangements 67 = .ok (.aload_n 0, 1) := by decide +kernel
theorem dX5_findArrangements_68 : decode cX5_findArrangements 68 = .ok (.iload_n 1, 1) := by decide +kernel
theorem dX5_findArrangements_69 : decode cX5_findArrangements 69 = .ok (.invokevirtual 72, 3) := by decide +kernel
theorem dX5_findArrangements_72 : decode cX5_findArrangements 72 = .ok (.iconst 0, 1) := by decide +kernel
theorem dX5_findArrangements_73 : decode cX5_findArrangements 73 = .ok (.istore_n 2, 1) := by decide +kernel
theorem dX5_findArrangements_74 : decode cX5_findArrangements 74 = .ok (.iload_n 2, 1) := by decide +kernel
theorem dX5_findArrangements_75 : decode cX5_findArrangements 75 = .ok (.aload_n 0, 1) := by decide +kernel
theorem dX5_findArrangements_76 : decode cX5_findArrangements 76 = .ok (.getfield 61, 3) := by decide +kernel
theorem dX5_findArrangements_79 : decode cX5_findArrangements 79 = .ok (.if_icmp .ge 25, 3) := by decide +kernel
theorem dX5_findArrangements_82 : decode cX5_findArrangements 82 = .ok (.iload_n 2, 1) := by decide +kernel
theorem dX5_findArrangements_83 : decode cX5_findArrangements 83 = .ok (.ldc 21, 2) := by decide +kernel
theorem dX5_findArrangements_85 : decode cX5_findArrangements 85 = .ok (.if_icmp .ge 19, 3) := by decide +kernel
theorem dX5_findArrangements_88 : decode cX5_findArrangements 88 = .ok (.aload_n 0, 1) := by decide +kernel
theorem dX5_findArrangements_89 : decode cX5_findArrangements 89 = .ok (.aload_n 0, 1) := by decide +kernel
theorem dX5_findArrangements_90 : decode cX5_findArrangements 90 = .ok (.getfield 22, 3) := by decide +kernel
theorem dX5_findArrangements_93 : decode cX5_findArrangements 93 = .ok (.iload_n 2, 1) := by decide +kernel
theorem dX5_findArrangements_94 : decode cX5_findArrangements 94 = .ok (.iaload, 1) := by decide +kernel
theorem dX5_findArrangements_95 : decode cX5_findArrangements 95 = .ok (.invokevirtual 76, 3) := by decide +kernel
theorem dX5_findArrangements_98 : decode cX5_findArrangements 98 = .ok (.iinc 2 1, 3) := by decide +kernel
theorem dX5_findArrangements_101 : decode cX5_findArrangements 101 = .ok (.goto (-27), 3) := by decide +kernel
theorem dX5_findArrangements_104 : decode cX5_findArrangements 104 = .ok (.return_, 1) := by decide +kernel
theorem dX5_markShifts_0 : decode cX5_markShifts 0 = .ok (.iconst 0, 1) := by decide +kernel
theorem dX5_markShifts_1 : decode cX5_markShifts 1 = .ok (.istore_n 2, 1) := by decide +kernel
theorem dX5_markShifts_2 : decode cX5_markShifts 2 = .ok (.iload_n 2, 1) := by decide +kernel
theorem dX5_markShifts_3 : decode cX5_markShifts 3 = .ok (.aload_n 0, 1) := by decide +kernel
theorem dX5_markShifts_4 : decode cX5_markShifts 4 = .ok (.getfield 30, 3) := by decide +kernel
theorem dX5_markShifts_7 : decode cX5_markShifts 7 = .ok (.iconst 1, 1) := by decide +kernel
theorem dX5_markShifts_8 : decode cX5_markShifts 8 = .ok (.isub, 1) := by decide +kernel
theorem dX5_markShifts_9 : decode cX5_markShifts 9 = .ok (.if_icmp .ge 20, 3) := by decide +kernel
theorem dX5_markShifts_12 : decode cX5_markShifts 12 = .ok (.iload_n 1, 1) := by decide +kernel
theorem dX5_markShifts_13 : decode cX5_markShifts 13 = .ok (.iconst 3, 1) := by decide +kernel
theorem dX5_markShifts_14 : decode cX5_markShifts 14 = .ok (.iload_n 2, 1) := by decide +kernel
theorem dX5_markShifts_15 : decode cX5_markShifts 15 = .ok (.imul, 1) := by decide +kernel
theorem dX5_markShifts_16 : decode cX5_markShifts 16 = .ok (.iushr, 1) := by decide +kernel
theorem dX5_markShifts_17 : decode cX5_markShifts 17 = .ok (.bipush 7, 2) := by decide +kernel
theorem dX5_markShifts_19 : decode cX5_markShifts 19 = .ok (.iand, 1) := by decide +kernel
theorem dX5_markShifts_20 : decode cX5_markShifts 20 = .ok (.ifCond .eq 9, 3) := by decide +kernel
theorem dX5_markShifts_23 : decode cX5_markShifts 23 = .ok (.iinc 2 1, 3) := by decide +kernel
theorem dX5_markShifts_26 : decode cX5_markShifts 26 = .ok (.goto (-24), 3) := by decide +kernel
theorem dX5_markShifts_29 : decode cX5_markShifts 29 = .ok (.iconst 0, 1) := by decide +kernel
theorem dX5_markShifts_30 : decode cX5_markShifts 30 = .ok (.istore_n 3, 1) := by decide +kernel
theorem dX5_markShifts_31 : decode cX5_markShifts 31 = .ok (.iload_n 3, 1) := by decide +kernel
theorem dX5_markShifts_32 : decode cX5_markShifts 32 = .ok (.aload_n 0, 1) := by decide +kernel
theorem dX5_markShifts_33 : decode cX5_markShifts 33 = .ok (.getfield 30, 3) := by decide +kernel
theorem dX5_markShifts_36 : decode cX5_markShifts 36 = .ok (.if_icmp .ge 47, 3) := by decide +kernel
theorem dX5_markShifts_39 : decode cX5_markShifts 39 = .ok (.aload_n 0, 1) := by decide +kernel
theorem dX5_markShifts_40 : decode cX5_markShifts 40 = .ok (.iload_n 2, 1) := by decide +kernel
theorem dX5_markShifts_41 : decode cX5_markShifts 41 = .ok (.iload_n 3, 1) := by decide +kernel
theorem dX5_markShifts_42 : decode cX5_markShifts 42 = .ok (.invokevirtual 34, 3) := by decide +kernel
theorem dX5_markShifts_45 : decode cX5_markShifts 45 = .ok (.ifCond .eq 32, 3) := by decide +kernel
theorem dX5_markShifts_48 : decode cX5_markShifts 48 = .ok (.iload_n 1, 1) := by decide +kernel
theorem dX5_markShifts_49 : decode cX5_markShifts 49 = .ok (.iconst 3, 1) := by decide +kernel
theorem dX5_markShifts_50 : decode cX5_markShifts 50 = .ok (.iload_n 3, 1) := by decide +kernel
theorem dX5_markShifts_51 : decode cX5_markShifts 51 = .ok (.imul, 1) := by decide +kernel
theorem dX5_markShifts_52 : decode cX5_markShifts 52 = .ok (.iushr, 1) := by decide +kernel
theorem dX5_markShifts_53 : decode cX5_markShifts 53 = .ok (.bipush 7, 2) := by decide +kernel
theorem dX5_markShifts_55 : decode cX5_markShifts 55 = .ok (.iand, 1) := by decide +kernel
theorem dX5_markShifts_56 : decode cX5_markShifts 56 = .ok (.istore 4, 2) := by decide +kernel
theorem dX5_markShifts_58 : decode cX5_markShifts 58 = .ok (.aload_n 0, 1) := by decide +kernel
theorem dX5_markShifts_59 : decode cX5_markShifts 59 = .ok (.iload_n 1, 1) := by decide +kernel
theorem dX5_markShifts_60 : decode cX5_markShifts 60 = .ok (.iload 4, 2) := by decide +kernel
theorem dX5_markShifts_62 : decode cX5_markShifts 62 = .ok (.iconst 3, 1) := by decide +kernel
theorem dX5_markShifts_63 : decode cX5_markShifts 63 = .ok (.iload_n 3, 1) := by decide +kernel
theorem dX5_markShifts_64 : decode cX5_markShifts 64 = .ok (.imul, 1) := by decide +kernel
theorem dX5_markShifts_65 : decode cX5_markShifts 65 = .ok (.ishl, 1) := by decide +kernel
theorem dX5_markShifts_66 : decode cX5_markShifts 66 = .ok (.ixor, 1) := by decide +kernel
theorem dX5_markShifts_67 : decode cX5_markShifts 67 = .ok (.iload 4, 2) := by decide +kernel
theorem dX5_markShifts_69 : decode cX5_markShifts 69 = .ok (.iconst 3, 1) := by decide +kernel
theorem dX5_markShifts_70 : decode cX5_markShifts 70 = .ok (.iload_n 2, 1) := by decide +kernel
theorem dX5_markShifts_71 : decode cX5_markShifts 71 = .ok (.imul, 1) := by decide +kernel
theorem dX5_markShifts_72 : decode cX5_markShifts 72 = .ok (.ishl, 1) := by decide +kernel
theorem dX5_markShifts_73 : decode cX5_markShifts 73 = .ok (.ixor, 1) := by decide +kernel
theorem dX5_markShifts_74 : decode cX5_markShifts 74 = .ok (.invokevirtual 72, 3) := by decide +kernel
theorem dX5_markShifts_77 : decode cX5_markShifts 77 = .ok (.iinc 3 1, 3) := by decide +kernel
theorem dX5_markShifts_80 : decode cX5_markShifts 80 = .ok (.goto (-49), 3) := by decide +kernel
theorem dX5_markShifts_83 : decode cX5_markShifts 83 = .ok (.return_, 1) := by decide +kernel
theorem dX5_markOf_0 : decode cX5_markOf 0 = .ok (.iload_n 0, 1) := by decide +kernel
theorem dX5_markOf_1 : decode cX5_markOf 1 = .ok (.ldc 79, 2) := by decide +kernel
theorem dX5_markOf_3 : decode cX5_markOf 3 = .ok (.iand, 1) := by decide +kernel
theorem dX5_markOf_4 : decode cX5_markOf 4 = .ok (.bipush 6, 2) := by decide +kernel
theorem dX5_markOf_6 : decode cX5_markOf 6 = .ok (.iushr, 1) := by decide +kernel
theorem dX5_markOf_7 : decode cX5_markOf 7 = .ok (.ireturn, 1) := by decide +kernel
theorem dX5_isMarked_0 : decode cX5_isMarked 0 = .ok (.aload_n 0, 1) := by decide +kernel
theorem dX5_isMarked_1 : decode cX5_isMarked 1 = .ok (.getfield 26, 3) := by decide +kernel
theorem dX5_isMarked_4 : decode cX5_isMarked 4 = .ok (.iload_n 1, 1) := by decide +kernel
theorem dX5_isMarked_5 : decode cX5_isMarked 5 = .ok (.invokestatic 68, 3) := by decide +kernel
theorem dX5_isMarked_8 : decode cX5_isMarked 8 = .ok (.laload, 1) := by decide +kernel
theorem dX5_isMarked_9 : decode cX5_isMarked 9 = .ok (.iload_n 1, 1) := by decide +kernel
theorem dX5_isMarked_10 : decode cX5_isMarked 10 = .ok (.bipush 63, 2) := by decide +kernel
theorem dX5_isMarked_12 : decode cX5_isMarked 12 = .ok (.iand, 1) := by decide +kernel
theorem dX5_isMarked_13 : decode cX5_isMarked 13 = .ok (.lushr, 1) := by decide +kernel
theorem dX5_isMarked_14 : decode cX5_isMarked 14 = .ok (.lconst 1, 1) := by decide +kernel
theorem dX5_isMarked_15 : decode cX5_isMarked 15 = .ok (.land, 1) := by decide +kernel
theorem dX5_isMarked_16 : decode cX5_isMarked 16 = .ok (.lconst 0, 1) := by decide +kernel
theorem dX5_isMarked_17 : decode cX5_isMarked 17 = .ok (.lcmp, 1) := by decide +kernel
theorem dX5_isMarked_18 : decode cX5_isMarked 18 = .ok (.ifCond .eq 7, 3) := by decide +kernel
theorem dX5_isMarked_21 : decode cX5_isMarked 21 = .ok (.iconst 1, 1) := by decide +kernel
theorem dX5_isMarked_22 : decode cX5_isMarked 22 = .ok (.goto 4, 3) := by decide +kernel
theorem dX5_isMarked_25 : decode cX5_isMarked 25 = .ok (.iconst 0, 1) := by decide +kernel
theorem dX5_isMarked_26 : decode cX5_isMarked 26 = .ok (.ireturn, 1) := by decide +kernel
theorem dX5_mark_0 : decode cX5_mark 0 = .ok (.aload_n 0, 1) := by decide +kernel
theorem dX5_mark_1 : decode cX5_mark 1 = .ok (.iload_n 1, 1) := by decide +kernel
theorem dX5_mark_2 : decode cX5_mark 2 = .ok (.invokevirtual 64, 3) := by decide +kernel
theorem dX5_mark_5 : decode cX5_mark 5 = .ok (.ifCond .ne 12, 3) := by decide +kernel
theorem dX5_mark_8 : decode cX5_mark 8 = .ok (.aload_n 0, 1) := by decide +kernel
theorem dX5_mark_9 : decode cX5_mark 9 = .ok (.getfield 61, 3) := by decide +kernel
theorem dX5_mark_12 : decode cX5_mark 12 = .ok (.ldc 21, 2) := by decide +kernel
theorem dX5_mark_14 : decode cX5_mark 14 = .ok (.if_icmp .lt 4, 3) := by decide +kernel
theorem dX5_mark_17 : decode cX5_mark 17 = .ok (.return_, 1) := by decide +kernel
theorem dX5_mark_18 : decode cX5_mark 18 = .ok (.aload_n 0, 1) := by decide +kernel
theorem dX5_mark_19 : decode cX5_mark 19 = .ok (.getfield 26, 3) := by decide +kernel
theorem dX5_mark_22 : decode cX5_mark 22 = .ok (.iload_n 1, 1) := by decide +kernel
theorem dX5_mark_23 : decode cX5_mark 23 = .ok (.invokestatic 68, 3) := by decide +kernel
theorem dX5_mark_26 : decode cX5_mark 26 = .ok (.dup2, 1) := by decide +kernel
theorem dX5_mark_27 : decode cX5_mark 27 = .ok (.laload, 1) := by decide +kernel
theorem dX5_mark_28 : decode cX5_mark 28 = .ok (.lconst 1, 1) := by decide +kernel
theorem dX5_mark_29 : decode cX5_mark 29 = .ok (.iload_n 1, 1) := by decide +kernel
theorem dX5_mark_30 : decode cX5_mark 30 = .ok (.bipush 63, 2) := by decide +kernel
theorem dX5_mark_32 : decode cX5_mark 32 = .ok (.iand, 1) := by decide +kernel
theorem dX5_mark_33 : decode cX5_mark 33 = .ok (.lshl, 1) := by decide +kernel
theorem dX5_mark_34 : decode cX5_mark 34 = .ok (.lor, 1) := by decide +kernel
theorem dX5_mark_35 : decode cX5_mark 35 = .ok (.lastore, 1) := by decide +kernel
theorem dX5_mark_36 : decode cX5_mark 36 = .ok (.aload_n 0, 1) := by decide +kernel
theorem dX5_mark_37 : decode cX5_mark 37 = .ok (.getfield 22, 3) := by decide +kernel
theorem dX5_mark_40 : decode cX5_mark 40 = .ok (.aload_n 0, 1) := by decide +kernel
theorem dX5_mark_41 : decode cX5_mark 41 = .ok (.getfield 61, 3) := by decide +kernel
theorem dX5_mark_44 : decode cX5_mark 44 = .ok (.iload_n 1, 1) := by decide +kernel
theorem dX5_mark_45 : decode cX5_mark 45 = .ok (.iastore, 1) := by decide +kernel
theorem dX5_mark_46 : decode cX5_mark 46 = .ok (.aload_n 0, 1) := by decide +kernel
theorem dX5_mark_47 : decode cX5_mark 47 = .ok (.dup, 1) := by decide +kernel
theorem dX5_mark_48 : decode cX5_mark 48 = .ok (.getfield 61, 3) := by decide +kernel
theorem dX5_mark_51 : decode cX5_mark 51 = .ok (.iconst 1, 1) := by decide +kernel
theorem dX5_mark_52 : decode cX5_mark 52 = .ok (.iadd, 1) := by decide +kernel
theorem dX5_mark_53 : decode cX5_mark 53 = .ok (.putfield 61, 3) := by decide +kernel
theorem dX5_mark_56 : decode cX5_mark 56 = .ok (.return_, 1) := by decide +kernel
theorem dX1_init_0 : decode cX1_init 0 = .ok (.aload_n 0, 1) := by decide +kernel
theorem dX1_init_1 : decode cX1_init 1 = .ok (.invokespecial 3, 3) := by decide +kernel
theorem dX1_init_4 : decode cX1_init 4 = .ok (.aload_n 0, 1) := by decide +kernel
theorem dX1_init_5 : decode cX1_init 5 = .ok (.new 9, 3) := by decide +kernel
theorem dX1_init_8 : decode cX1_init 8 = .ok (.dup, 1) := by decide +kernel
theorem dX1_init_9 : decode cX1_init 9 = .ok (.invokespecial 11, 3) := by decide +kernel
theorem dX1_init_12 : decode cX1_init 12 = .ok (.putfield 12, 3) := by decide +kernel
theorem dX1_init_15 : decode cX1_init 15 = .ok (.aload_n 0, 1) := by decide +kernel
theorem dX1_init_16 : decode cX1_init 16 = .ok (.bipush 8, 2) := by decide +kernel
theorem dX1_init_18 : decode cX1_init 18 = .ok (.newarray .int, 2) := by decide +kernel
theorem dX1_init_20 : decode cX1_init 20 = .ok (.putfield 18, 3) := by decide +kernel
theorem dX1_init_23 : decode cX1_init 23 = .ok (.aload_n 0, 1) := by decide +kernel
theorem dX1_init_24 : decode cX1_init 24 = .ok (.bipush 8, 2) := by decide +kernel
theorem dX1_init_26 : decode cX1_init 26 = .ok (.newarray .int, 2) := by decide +kernel
theorem dX1_init_28 : decode cX1_init 28 = .ok (.putfield 22, 3) := by decide +kernel
theorem dX1_init_31 : decode cX1_init 31 = .ok (.aload_n 0, 1) := by decide +kernel
theorem dX1_init_32 : decode cX1_init 32 = .ok (.bipush 8, 2) := by decide +kernel
theorem dX1_init_34 : decode cX1_init 34 = .ok (.newarray .int, 2) := by decide +kernel
theorem dX1_init_36 : decode cX1_init 36 = .ok (.putfield 25, 3) := by decide +kernel
theorem dX1_init_39 : decode cX1_init 39 = .ok (.aload_n 0, 1) := by decide +kernel
theorem dX1_init_40 : decode cX1_init 40 = .ok (.bipush 8, 2) := by decide +kernel
theorem dX1_init_42 : decode cX1_init 42 = .ok (.newarray .int, 2) := by decide +kernel
theorem dX1_init_44 : decode cX1_init 44 = .ok (.putfield 28, 3) := by decide +kernel
theorem dX1_init_47 : decode cX1_init 47 = .ok (.aload_n 0, 1) := by decide +kernel
theorem dX1_init_48 : decode cX1_init 48 = .ok (.bipush 8, 2) := by decide +kernel
theorem dX1_init_50 : decode cX1_init 50 = .ok (.newarray .int, 2) := by decide +kernel
theorem dX1_init_52 : decode cX1_init 52 = .ok (.putfield 31, 3) := by decide +kernel
theorem dX1_init_55 : decode cX1_init 55 = .ok (.aload_n 0, 1) := by decide +kernel
theorem dX1_init_56 : decode cX1_init 56 = .ok (.aload_n 1, 1) := by decide +kernel
theorem dX1_init_57 : decode cX1_init 57 = .ok (.putfield 34, 3) := by decide +kernel
theorem dX1_init_60 : decode cX1_init 60 = .ok (.aload_n 0, 1) := by decide +kernel
theorem dX1_init_61 : decode cX1_init 61 = .ok (.aload_n 2, 1) := by decide +kernel
theorem dX1_init_62 : decode cX1_init 62 = .ok (.putfield 38, 3) := by decide +kernel
theorem dX1_init_65 : decode cX1_init 65 = .ok (.return_, 1) := by decide +kernel
theorem dX1_presentOpenGoal_0 : decode cX1_presentOpenGoal 0 = .ok (.iconst 0, 1) := by decide +kernel
theorem dX1_presentOpenGoal_1 : decode cX1_presentOpenGoal 1 = .ok (.istore_n 1, 1) := by decide +kernel
theorem dX1_presentOpenGoal_2 : decode cX1_presentOpenGoal 2 = .ok (.iload_n 1, 1) := by decide +kernel
theorem dX1_presentOpenGoal_3 : decode cX1_presentOpenGoal 3 = .ok (.aload_n 0, 1) := by decide +kernel
theorem dX1_presentOpenGoal_4 : decode cX1_presentOpenGoal 4 = .ok (.getfield 34, 3) := by decide +kernel
theorem dX1_presentOpenGoal_7 : decode cX1_presentOpenGoal 7 = .ok (.getfield 42, 3) := by decide +kernel
theorem dX1_presentOpenGoal_10 : decode cX1_presentOpenGoal 10 = .ok (.if_icmp .ge 27, 3) := by decide +kernel
theorem dX1_presentOpenGoal_13 : decode cX1_presentOpenGoal 13 = .ok (.aload_n 0, 1) := by decide +kernel
theorem dX1_presentOpenGoal_14 : decode cX1_presentOpenGoal 14 = .ok (.getfield 25, 3) := by decide +kernel
theorem dX1_presentOpenGoal_17 : decode cX1_presentOpenGoal 17 = .ok (.iload_n 1, 1) := by decide +kernel
theorem dX1_presentOpenGoal_18 : decode cX1_presentOpenGoal 18 = .ok (.aload_n 0, 1) := by decide +kernel
theorem dX1_presentOpenGoal_19 : decode cX1_presentOpenGoal 19 = .ok (.getfield 34, 3) := by decide +kernel
theorem dX1_presentOpenGoal_22 : decode cX1_presentOpenGoal 22 = .ok (.getfield 48, 3) := by decide +kernel
theorem dX1_presentOpenGoal_25 : decode cX1_presentOpenGoal 25 = .ok (.iload_n 1, 1) := by decide +kernel
theorem dX1_presentOpenGoal_26 : decode cX1_presentOpenGoal 26 = .ok (.iaload, 1) := by decide +kernel
theorem dX1_presentOpenGoal_27 : decode cX1_presentOpenGoal 27 = .ok (.invokestatic 49, 3) := by decide +kernel
theorem dX1_presentOpenGoal_30 : decode cX1_presentOpenGoal 30 = .ok (.iastore, 1) := by decide +kernel
theorem dX1_presentOpenGoal_31 : decode cX1_presentOpenGoal 31 = .ok (.iinc 1 1, 3) := by decide +kernel
theorem dX1_presentOpenGoal_34 : decode cX1_presentOpenGoal 34 = .ok (.goto (-32), 3) := by decide +kernel
theorem dX1_presentOpenGoal_37 : decode cX1_presentOpenGoal 37 = .ok (.aload_n 0, 1) := by decide +kernel
theorem dX1_presentOpenGoal_38 : decode cX1_presentOpenGoal 38 = .ok (.getfield 38, 3) := by decide +kernel
theorem dX1_presentOpenGoal_41 : decode cX1_presentOpenGoal 41 = .ok (.aload_n 0, 1) := by decide +kernel
theorem dX1_presentOpenGoal_42 : decode cX1_presentOpenGoal 42 = .ok (.getfield 34, 3) := by decide +kernel
theorem dX1_presentOpenGoal_45 : decode cX1_presentOpenGoal 45 = .ok (.aload_n 0, 1) := by decide +kernel
theorem dX1_presentOpenGoal_46 : decode cX1_presentOpenGoal 46 = .ok (.getfield 25, 3) := by decide +kernel
theorem dX1_presentOpenGoal_49 : decode cX1_presentOpenGoal 49 = .ok (.invokevirtual 53, 3) := by decide +kernel
theorem dX1_presentOpenGoal_52 : decode cX1_presentOpenGoal 52 = .ok (.ireturn, 1) := by decide +kernel
theorem dX1_explore_0 : decode cX1_explore 0 = .ok (.aload_n 0, 1) := by decide +kernel
theorem dX1_explore_1 : decode cX1_explore 1 = .ok (.iload_n 2, 1) := by decide +kernel
theorem dX1_explore_2 : decode cX1_explore 2 = .ok (.putfield 59, 3) := by decide +kernel
theorem dX1_explore_5 : decode cX1_explore 5 = .ok (.aload_n 0, 1) := by decide +kernel
theorem dX1_explore_6 : decode cX1_explore 6 = .ok (.iload_n 1, 1) := by decide +kernel
theorem dX1_explore_7 : decode cX1_explore 7 = .ok (.ifCond .ne 7, 3) := by decide +kernel
theorem dX1_explore_10 : decode cX1_explore 10 = .ok (.iconst 1, 1) := by decide +kernel
theorem dX1_explore_11 : decode cX1_explore 11 = .ok (.goto 4, 3) := by decide +kernel
theorem dX1_explore_14 : decode cX1_explore 14 = .ok (.iconst 5, 1) := by decide +kernel
theorem dX1_explore_15 : decode cX1_explore 15 = .ok (.putfield 62, 3) := by decide +kernel
theorem dX1_explore_18 : decode cX1_explore 18 = .ok (.aload_n 0, 1) := by decide +kernel
theorem dX1_explore_19 : decode cX1_explore 19 = .ok (.iload_n 3, 1) := by decide +kernel
theorem dX1_explore_20 : decode cX1_explore 20 = .ok (.putfield 65, 3) := by decide +kernel
theorem dX1_explore_23 : decode cX1_explore 23 = .ok (.aload_n 0, 1) := by decide +kernel
theorem dX1_explore_24 : decode cX1_explore 24 = .ok (.getfield 12, 3) := by decide +kernel
theorem dX1_explore_27 : decode cX1_explore 27 = .ok (.invokevirtual 69, 3) := by decide +kernel
theorem dX1_explore_30 : decode cX1_explore 30 = .ok (.aload_n 0, 1) := by decide +kernel
theorem dX1_explore_31 : decode cX1_explore 31 = .ok (.invokevirtual 72, 3) := by decide +kernel
theorem dX1_explore_34 : decode cX1_explore 34 = .ok (.aload_n 0, 1) := by decide +kernel
theorem dX1_explore_35 : decode cX1_explore 35 = .ok (.invokevirtual 75, 3) := by decide +kernel
theorem dX1_explore_38 : decode cX1_explore 38 = .ok (.istore 4, 2) := by decide +kernel
theorem dX1_explore_40 : decode cX1_explore 40 = .ok (.iconst 0, 1) := by decide +kernel
theorem dX1_explore_41 : decode cX1_explore 41 = .ok (.istore 5, 2) := by decide +kernel
theorem dX1_explore_43 : decode cX1_explore 43 = .ok (.iload 4, 2) := by decide +kernel
theorem dX1_explore_45 : decode cX1_explore 45 = .ok (.iconst 1, 1) := by decide +kernel
theorem dX1_explore_46 : decode cX1_explore 46 = .ok (.if_icmp .ne 37, 3) := by decide +kernel
theorem dX1_explore_49 : decode cX1_explore 49 = .ok (.iload 5, 2) := by decide +kernel
theorem dX1_explore_51 : decode cX1_explore 51 = .ok (.aload_n 0, 1) := by decide +kernel
theorem dX1_explore_52 : decode cX1_explore 52 = .ok (.getfield 12, 3) := by decide +kernel
theorem dX1_explore_55 : decode cX1_explore 55 = .ok (.getfield 79, 3) := by decide +kernel
theorem dX1_explore_58 : decode cX1_explore 58 = .ok (.if_icmp .ge 25, 3) := by decide +kernel
theorem dX1_explore_61 : decode cX1_explore 61 = .ok (.iload 5, 2) := by decide +kernel
theorem dX1_explore_63 : decode cX1_explore 63 = .ok (.sipush 10000, 3) := by decide +kernel
theorem dX1_explore_66 : decode cX1_explore 66 = .ok (.if_icmp .ge 17, 3) := by decide +kernel
theorem dX1_explore_69 : decode cX1_explore 69 = .ok (.aload_n 0, 1) := by decide +kernel
theorem dX1_explore_70 : decode cX1_explore 70 = .ok (.iload 5, 2) := by decide +kernel
theorem dX1_explore_72 : decode cX1_explore 72 = .ok (.invokevirtual 82, 3) := by decide +kernel
theorem dX1_explore_75 : decode cX1_explore 75 = .ok (.istore 4, 2) := by decide +kernel
theorem dX1_explore_77 : decode cX1_explore 77 = .ok (.iinc 5 1, 3) := by decide +kernel
theorem dX1_explore_80 : decode cX1_explore 80 = .ok (.goto (-37), 3) := by decide +kernel
theorem dX1_explore_83 : decode cX1_explore 83 = .ok (.iload 4, 2) := by decide +kernel
theorem dX1_explore_85 : decode cX1_explore 85 = .ok (.iconst 1, 1) := by decide +kernel
theorem dX1_explore_86 : decode cX1_explore 86 = .ok (.if_icmp .ne 7, 3) := by decide +kernel
theorem dX1_explore_89 : decode cX1_explore 89 = .ok (.iconst (-1), 1) := by decide +kernel
theorem dX1_explore_90 : decode cX1_explore 90 = .ok (.goto 5, 3) := by decide +kernel
theorem dX1_explore_93 : decode cX1_explore 93 = .ok (.iload 4, 2) := by decide +kernel
theorem dX1_explore_95 : decode cX1_explore 95 = .ok (.ireturn, 1) := by decide +kernel
theorem dX1_findAlike_0 : decode cX1_findAlike 0 = .ok (.iconst 0, 1) := by decide +kernel
theorem dX1_findAlike_1 : decode cX1_findAlike 1 = .ok (.istore_n 1, 1) := by decide +kernel
theorem dX1_findAlike_2 : decode cX1_findAlike 2 = .ok (.iload_n 1, 1) := by decide +kernel
theorem dX1_findAlike_3 : decode cX1_findAlike 3 = .ok (.aload_n 0, 1) := by decide +kernel
theorem dX1_findAlike_4 : decode cX1_findAlike 4 = .ok (.getfield 34, 3) := by decide +kernel
theorem dX1_findAlike_7 : decode cX1_findAlike 7 = .ok (.getfield 42, 3) := by decide +kernel
theorem dX1_findAlike_10 : decode cX1_findAlike 10 = .ok (.if_icmp .ge 41, 3) := by decide +kernel
theorem dX1_findAlike_13 : decode cX1_findAlike 13 = .ok (.iconst 0, 1) := by decide +kernel
theorem dX1_findAlike_14 : decode cX1_findAlike 14 = .ok (.istore_n 2, 1) := by decide +kernel
theorem dX1_findAlike_15 : decode cX1_findAlike 15 = .ok (.iload_n 2, 1) := by decide +kernel
theorem dX1_findAlike_16 : decode cX1_findAlike 16 = .ok (.iload_n 1, 1) := by decide +kernel
theorem dX1_findAlike_17 : decode cX1_findAlike 17 = .ok (.if_icmp .ge 21, 3) := by decide +kernel
theorem dX1_findAlike_20 : decode cX1_findAlike 20 = .ok (.aload_n 0, 1) := by decide +kernel
theorem dX1_findAlike_21 : decode cX1_findAlike 21 = .ok (.getfield 34, 3) := by decide +kernel
theorem dX1_findAlike_24 : decode cX1_findAlike 24 = .ok (.iload_n 2, 1) := by decide +kernel
theorem dX1_findAlike_25 : decode cX1_findAlike 25 = .ok (.iload_n 1, 1) := by decide +kernel
theorem dX1_findAlike_26 : decode cX1_findAlike 26 = .ok (.invokevirtual 85, 3) := by decide +kernel
theorem dX1_findAlike_29 : decode cX1_findAlike 29 = .ok (.ifCond .ne 9, 3) := by decide +kernel
theorem dX1_findAlike_32 : decode cX1_findAlike 32 = .ok (.iinc 2 1, 3) := by decide +kernel
theorem dX1_findAlike_35 : decode cX1_findAlike 35 = .ok (.goto (-20), 3) := by decide +kernel
theorem dX1_findAlike_38 : decode cX1_findAlike 38 = .ok (.aload_n 0, 1) := by decide +kernel
theorem dX1_findAlike_39 : decode cX1_findAlike 39 = .ok (.getfield 18, 3) := by decide +kernel
theorem dX1_findAlike_42 : decode cX1_findAlike 42 = .ok (.iload_n 1, 1) := by decide +kernel
theorem dX1_findAlike_43 : decode cX1_findAlike 43 = .ok (.iload_n 2, 1) := by decide +kernel
theorem dX1_findAlike_44 : decode cX1_findAlike 44 = .ok (.iastore, 1) := by decide +kernel
theorem dX1_findAlike_45 : decode cX1_findAlike 45 = .ok (.iinc 1 1, 3) := by decide +kernel
theorem dX1_findAlike_48 : decode cX1_findAlike 48 = .ok (.goto (-46), 3) := by decide +kernel
theorem dX1_findAlike_51 : decode cX1_findAlike 51 = .ok (.return_, 1) := by decide +kernel
theorem dX1_offerPresent_0 : decode cX1_offerPresent 0 = .ok (.iconst 0, 1) := by decide +kernel
theorem dX1_offerPresent_1 : decode cX1_offerPresent 1 = .ok (.istore_n 1, 1) := by decide +kernel
theorem dX1_offerPresent_2 : decode cX1_offerPresent 2 = .ok (.iload_n 1, 1) := by decide +kernel
theorem dX1_offerPresent_3 : decode cX1_offerPresent 3 = .ok (.aload_n 0, 1) := by decide +kernel
theorem dX1_offerPresent_4 : decode cX1_offerPresent 4 = .ok (.getfield 34, 3) := by decide +kernel
theorem dX1_offerPresent_7 : decode cX1_offerPresent 7 = .ok (.getfield 42, 3) := by decide +kernel
theorem dX1_offerPresent_10 : decode cX1_offerPresent 10 = .ok (.if_icmp .ge 39, 3) := by decide +kernel
theorem dX1_offerPresent_13 : decode cX1_offerPresent 13 = .ok (.aload_n 0, 1) := by decide +kernel
theorem dX1_offerPresent_14 : decode cX1_offerPresent 14 = .ok (.getfield 22, 3) := by decide +kernel
theorem dX1_offerPresent_17 : decode cX1_offerPresent 17 = .ok (.iload_n 1, 1) := by decide +kernel
theorem dX1_offerPresent_18 : decode cX1_offerPresent 18 = .ok (.aload_n 0, 1) := by decide +kernel
theorem dX1_offerPresent_19 : decode cX1_offerPresent 19 = .ok (.getfield 34, 3) := by decide +kernel
theorem dX1_offerPresent_22 : decode cX1_offerPresent 22 = .ok (.getfield 48, 3) := by decide +kernel
theorem dX1_offerPresent_25 : decode cX1_offerPresent 25 = .ok (.iload_n 1, 1) := by decide +kernel
theorem dX1_offerPresent_26 : decode cX1_offerPresent 26 = .ok (.iaload, 1) := by decide +kernel
theorem dX1_offerPresent_27 : decode cX1_offerPresent 27 = .ok (.invokestatic 49, 3) := by decide +kernel
theorem dX1_offerPresent_30 : decode cX1_offerPresent 30 = .ok (.iastore, 1) := by decide +kernel
theorem dX1_offerPresent_31 : decode cX1_offerPresent 31 = .ok (.aload_n 0, 1) := by decide +kernel
theorem dX1_offerPresent_32 : decode cX1_offerPresent 32 = .ok (.getfield 25, 3) := by decide +kernel
theorem dX1_offerPresent_35 : decode cX1_offerPresent 35 = .ok (.iload_n 1, 1) := by decide +kernel
theorem dX1_offerPresent_36 : decode cX1_offerPresent 36 = .ok (.aload_n 0, 1) := by decide +kernel
theorem dX1_offerPresent_37 : decode cX1_offerPresent 37 = .ok (.getfield 22, 3) := by decide +kernel
theorem dX1_offerPresent_40 : decode cX1_offerPresent 40 = .ok (.iload_n 1, 1) := by decide +kernel
theorem dX1_offerPresent_41 : decode cX1_offerPresent 41 = .ok (.iaload, 1) := by decide +kernel
theorem dX1_offerPresent_42 : decode cX1_offerPresent 42 = .ok (.iastore, 1) := by decide +kernel
theorem dX1_offerPresent_43 : decode cX1_offerPresent 43 = .ok (.iinc 1 1, 3) := by decide +kernel
theorem dX1_offerPresent_46 : decode cX1_offerPresent 46 = .ok (.goto (-44), 3) := by decide +kernel
theorem dX1_offerPresent_49 : decode cX1_offerPresent 49 = .ok (.aload_n 0, 1) := by decide +kernel
theorem dX1_offerPresent_50 : decode cX1_offerPresent 50 = .ok (.iconst (-1), 1) := by decide +kernel
theorem dX1_offerPresent_51 : decode cX1_offerPresent 51 = .ok (.iconst 0, 1) := by decide +kernel
theorem dX1_offerPresent_52 : decode cX1_offerPresent 52 = .ok (.invokevirtual 89, 3) := by decide +kernel
theorem dX1_offerPresent_55 : decode cX1_offerPresent 55 = .ok (.ireturn, 1) := by decide +kernel
theorem dX1_expand_0 : decode cX1_expand 0 = .ok (.aload_n 0, 1) := by decide +kernel
theorem dX1_expand_1 : decode cX1_expand 1 = .ok (.aload_n 0, 1) := by decide +kernel
theorem dX1_expand_2 : decode cX1_expand 2 = .ok (.getfield 12, 3) := by decide +kernel
theorem dX1_expand_5 : decode cX1_expand 5 = .ok (.getfield 93, 3) := by decide +kernel
theorem dX1_expand_8 : decode cX1_expand 8 = .ok (.iload_n 1, 1) := by decide +kernel
theorem dX1_expand_9 : decode cX1_expand 9 = .ok (.laload, 1) := by decide +kernel
theorem dX1_expand_10 : decode cX1_expand 10 = .ok (.invokevirtual 97, 3) := by decide +kernel
theorem dX1_expand_13 : decode cX1_expand 13 = .ok (.istore_n 2, 1) := by decide +kernel
theorem dX1_expand_14 : decode cX1_expand 14 = .ok (.iconst 0, 1) := by decide +kernel
theorem dX1_expand_15 : decode cX1_expand 15 = .ok (.istore_n 3, 1) := by decide +kernel
theorem dX1_expand_16 : decode cX1_expand 16 = .ok (.iload_n 3, 1) := by decide +kernel
theorem dX1_expand_17 : decode cX1_expand 17 = .ok (.aload_n 0, 1) := by decide +kernel
theorem dX1_expand_18 : decode cX1_expand 18 = .ok (.getfield 34, 3) := by decide +kernel
theorem dX1_expand_21 : decode cX1_expand 21 = .ok (.getfield 42, 3) := by decide +kernel
theorem dX1_expand_24 : decode cX1_expand 24 = .ok (.if_icmp .ge 57, 3) := by decide +kernel
theorem dX1_expand_27 : decode cX1_expand 27 = .ok (.iload_n 2, 1) := by decide +kernel
theorem dX1_expand_28 : decode cX1_expand 28 = .ok (.aload_n 0, 1) := by decide +kernel
theorem dX1_expand_29 : decode cX1_expand 29 = .ok (.getfield 28, 3) := by decide +kernel
theorem dX1_expand_32 : decode cX1_expand 32 = .ok (.iload_n 3, 1) := by decide +kernel
theorem dX1_expand_33 : decode cX1_expand 33 = .ok (.iaload, 1) := by decide +kernel
theorem dX1_expand_34 : decode cX1_expand 34 = .ok (.iconst (-1), 1) := by decide +kernel
theorem dX1_expand_35 : decode cX1_expand 35 = .ok (.ixor, 1) := by decide +kernel
theorem dX1_expand_36 : decode cX1_expand 36 = .ok (.iand, 1) := by decide +kernel
theorem dX1_expand_37 : decode cX1_expand 37 = .ok (.istore 4, 2) := by decide +kernel
theorem dX1_expand_39 : decode cX1_expand 39 = .ok (.iconst 0, 1) := by decide +kernel
theorem dX1_expand_40 : decode cX1_expand 40 = .ok (.istore 5, 2) := by decide +kernel
theorem dX1_expand_42 : decode cX1_expand 42 = .ok (.iload 5, 2) := by decide +kernel
theorem dX1_expand_44 : decode cX1_expand 44 = .ok (.iconst 4, 1) := by decide +kernel
theorem dX1_expand_45 : decode cX1_expand 45 = .ok (.if_icmp .ge 30, 3) := by decide +kernel
theorem dX1_expand_48 : decode cX1_expand 48 = .ok (.aload_n 0, 1) := by decide +kernel
theorem dX1_expand_49 : decode cX1_expand 49 = .ok (.iload_n 1, 1) := by decide +kernel
theorem dX1_expand_50 : decode cX1_expand 50 = .ok (.iload_n 3, 1) := by decide +kernel
theorem dX1_expand_51 : decode cX1_expand 51 = .ok (.iload 5, 2) := by decide +kernel
theorem dX1_expand_53 : decode cX1_expand 53 = .ok (.iload 4, 2) := by decide +kernel
theorem dX1_expand_55 : decode cX1_expand 55 = .ok (.invokevirtual 101, 3) := by decide +kernel
theorem dX1_expand_58 : decode cX1_expand 58 = .ok (.istore 6, 2) := by decide +kernel
theorem dX1_expand_60 : decode cX1_expand 60 = .ok (.iload 6, 2) := by decide +kernel
theorem dX1_expand_62 : decode cX1_expand 62 = .ok (.iconst 1, 1) := by decide +kernel
theorem dX1_expand_63 : decode cX1_expand 63 = .ok (.if_icmp .eq 6, 3) := by decide +kernel
theorem dX1_expand_66 : decode cX1_expand 66 = .ok (.iload 6, 2) := by decide +kernel
theorem dX1_expand_68 : decode cX1_expand 68 = .ok (.ireturn, 1) := by decide +kernel
theorem dX1_expand_69 : decode cX1_expand 69 = .ok (.iinc 5 1, 3) := by decide +kernel
theorem dX1_expand_72 : decode cX1_expand 72 = .ok (.goto (-30), 3) := by decide +kernel
theorem dX1_expand_75 : decode cX1_expand 75 = .ok (.iinc 3 1, 3) := by decide +kernel
theorem dX1_expand_78 : decode cX1_expand 78 = .ok (.goto (-62), 3) := by decide +kernel
theorem dX1_expand_81 : decode cX1_expand 81 = .ok (.iconst 1, 1) := by decide +kernel
theorem dX1_expand_82 : decode cX1_expand 82 = .ok (.ireturn, 1) := by decide +kernel
theorem dX1_tryWay_0 : decode cX1_tryWay 0 = .ok (.aload_n 0, 1) := by decide +kernel
theorem dX1_tryWay_1 : decode cX1_tryWay 1 = .ok (.getfield 25, 3) := by decide +kernel
theorem dX1_tryWay_4 : decode cX1_tryWay 4 = .ok (.iload_n 2, 1) := by decide +kernel
theorem dX1_tryWay_5 : decode cX1_tryWay 5 = .ok (.iaload, 1) := by decide +kernel
theorem dX1_tryWay_6 : decode cX1_tryWay 6 = .ok (.istore 5, 2) := by decide +kernel
theorem dX1_tryWay_8 : decode cX1_tryWay 8 = .ok (.aload_n 0, 1) := by decide +kernel
theorem dX1_tryWay_9 : decode cX1_tryWay 9 = .ok (.getfield 28, 3) := by decide +kernel
theorem dX1_tryWay_12 : decode cX1_tryWay 12 = .ok (.iload_n 2, 1) := by decide +kernel
theorem dX1_tryWay_13 : decode cX1_tryWay 13 = .ok (.iaload, 1) := by decide +kernel
theorem dX1_tryWay_14 : decode cX1_tryWay 14 = .ok (.istore 6, 2) := by decide +kernel
theorem dX1_tryWay_16 : decode cX1_tryWay 16 = .ok (.iconst 1, 1) := by decide +kernel
theorem dX1_tryWay_17 : decode cX1_tryWay 17 = .ok (.istore 7, 2) := by decide +kernel
theorem dX1_tryWay_19 : decode cX1_tryWay 19 = .ok (.iconst 1, 1) := by decide +kernel
theorem dX1_tryWay_20 : decode cX1_tryWay 20 = .ok (.istore 8, 2) := by decide +kernel
theorem dX1_tryWay_22 : decode cX1_tryWay 22 = .ok (.iload 8, 2) := by decide +kernel
theorem dX1_tryWay_24 : decode cX1_tryWay 24 = .ok (.aload_n 0, 1) := by decide +kernel
theorem dX1_tryWay_25 : decode cX1_tryWay 25 = .ok (.getfield 62, 3) := by decide +kernel
theorem dX1_tryWay_28 : decode cX1_tryWay 28 = .ok (.if_icmp .gt 66, 3) := by decide +kernel
theorem dX1_tryWay_31 : decode cX1_tryWay 31 = .ok (.iload 7, 2) := by decide +kernel
theorem dX1_tryWay_33 : decode cX1_tryWay 33 = .ok (.iconst 1, 1) := by decide +kernel
theorem dX1_tryWay_34 : decode cX1_tryWay 34 = .ok (.if_icmp .ne 60, 3) := by decide +kernel
theorem dX1_tryWay_37 : decode cX1_tryWay 37 = .ok (.aload_n 0, 1) := by decide +kernel
theorem dX1_tryWay_38 : decode cX1_tryWay 38 = .ok (.getfield 34, 3) := by decide +kernel
theorem dX1_tryWay_41 : decode cX1_tryWay 41 = .ok (.iload 6, 2) := by decide +kernel
theorem dX1_tryWay_43 : decode cX1_tryWay 43 = .ok (.iload_n 3, 1) := by decide +kernel
theorem dX1_tryWay_44 : decode cX1_tryWay 44 = .ok (.iload 4, 2) := by decide +kernel
theorem dX1_tryWay_46 : decode cX1_tryWay 46 = .ok (.invokevirtual 105, 3) := by decide +kernel
theorem dX1_tryWay_49 : decode cX1_tryWay 49 = .ok (.istore 6, 2) := by decide +kernel
theorem dX1_tryWay_51 : decode cX1_tryWay 51 = .ok (.iload 6, 2) := by decide +kernel
theorem dX1_tryWay_53 : decode cX1_tryWay 53 = .ok (.ifCond .ne 6, 3) := by decide +kernel
theorem dX1_tryWay_56 : decode cX1_tryWay 56 = .ok (.goto 38, 3) := by decide +kernel
theorem dX1_tryWay_59 : decode cX1_tryWay 59 = .ok (.aload_n 0, 1) := by decide +kernel
theorem dX1_tryWay_60 : decode cX1_tryWay 60 = .ok (.getfield 25, 3) := by decide +kernel
theorem dX1_tryWay_63 : decode cX1_tryWay 63 = .ok (.iload_n 2, 1) := by decide +kernel
theorem dX1_tryWay_64 : decode cX1_tryWay 64 = .ok (.iload 6, 2) := by decide +kernel
theorem dX1_tryWay_66 : decode cX1_tryWay 66 = .ok (.invokestatic 49, 3) := by decide +kernel
theorem dX1_tryWay_69 : decode cX1_tryWay 69 = .ok (.iastore, 1) := by decide +kernel
theorem dX1_tryWay_70 : decode cX1_tryWay 70 = .ok (.aload_n 0, 1) := by decide +kernel
theorem dX1_tryWay_71 : decode cX1_tryWay 71 = .ok (.iload_n 1, 1) := by decide +kernel
theorem dX1_tryWay_72 : decode cX1_tryWay 72 = .ok (.bipush 32, 2) := by decide +kernel
theorem dX1_tryWay_74 : decode cX1_tryWay 74 = .ok (.iload 8, 2) := by decide +kernel
theorem dX1_tryWay_76 : decode cX1_tryWay 76 = .ok (.imul, 1) := by decide +kernel
theorem dX1_tryWay_77 : decode cX1_tryWay 77 = .ok (.iconst 4, 1) := by decide +kernel
theorem dX1_tryWay_78 : decode cX1_tryWay 78 = .ok (.iload_n 2, 1) := by decide +kernel
theorem dX1_tryWay_79 : decode cX1_tryWay 79 = .ok (.imul, 1) := by decide +kernel
theorem dX1_tryWay_80 : decode cX1_tryWay 80 = .ok (.iadd, 1) := by decide +kernel
theorem dX1_tryWay_81 : decode cX1_tryWay 81 = .ok (.iload_n 3, 1) := by decide +kernel
theorem dX1_tryWay_82 : decode cX1_tryWay 82 = .ok (.iadd, 1) := by decide +kernel
theorem dX1_tryWay_83 : decode cX1_tryWay 83 = .ok (.invokevirtual 89, 3) := by decide +kernel
theorem dX1_tryWay_86 : decode cX1_tryWay 86 = .ok (.istore 7, 2) := by decide +kernel
theorem dX1_tryWay_88 : decode cX1_tryWay 88 = .ok (.iinc 8 1, 3) := by decide +kernel
theorem dX1_tryWay_91 : decode cX1_tryWay 91 = .ok (.goto (-69), 3) := by decide +kernel
theorem dX1_tryWay_94 : decode cX1_tryWay 94 = .ok (.aload_n 0, 1) := by decide +kernel
theorem dX1_tryWay_95 : decode cX1_tryWay 95 = .ok (.getfield 25, 3) := by decide +kernel
theorem dX1_tryWay_98 : decode cX1_tryWay 98 = .ok (.iload_n 2, 1) := by decide +kernel
theorem dX1_tryWay_99 : decode cX1_tryWay 99 = .ok (.iload 5, 2) := by decide +kernel
theorem dX1_tryWay_101 : decode cX1_tryWay 101 = .ok (.iastore, 1) := by decide +kernel
theorem dX1_tryWay_102 : decode cX1_tryWay 102 = .ok (.iload 7, 2) := by decide +kernel
theorem dX1_tryWay_104 : decode cX1_tryWay 104 = .ok (.ireturn, 1) := by decide +kernel
theorem dX1_offer_0 : decode cX1_offer 0 = .ok (.aload_n 0, 1) := by decide +kernel
theorem dX1_offer_1 : decode cX1_offer 1 = .ok (.invokevirtual 109, 3) := by decide +kernel
theorem dX1_offer_4 : decode cX1_offer 4 = .ok (.lstore_n 3, 1) := by decide +kernel
theorem dX1_offer_5 : decode cX1_offer 5 = .ok (.aload_n 0, 1) := by decide +kernel
theorem dX1_offer_6 : decode cX1_offer 6 = .ok (.getfield 12, 3) := by decide +kernel
theorem dX1_offer_9 : decode cX1_offer 9 = .ok (.lload_n 3, 1) := by decide +kernel
theorem dX1_offer_10 : decode cX1_offer 10 = .ok (.invokevirtual 113, 3) := by decide +kernel
theorem dX1_offer_13 : decode cX1_offer 13 = .ok (.ifCond .eq 5, 3) := by decide +kernel
theorem dX1_offer_16 : decode cX1_offer 16 = .ok (.iconst 1, 1) := by decide +kernel
theorem dX1_offer_17 : decode cX1_offer 17 = .ok (.ireturn, 1) := by decide +kernel
theorem dX1_offer_18 : decode cX1_offer 18 = .ok (.aload_n 0, 1) := by decide +kernel
theorem dX1_offer_19 : decode cX1_offer 19 = .ok (.getfield 12, 3) := by decide +kernel
theorem dX1_offer_22 : decode cX1_offer 22 = .ok (.getfield 79, 3) := by decide +kernel
theorem dX1_offer_25 : decode cX1_offer 25 = .ok (.aload_n 0, 1) := by decide +kernel
theorem dX1_offer_26 : decode cX1_offer 26 = .ok (.getfield 59, 3) := by decide +kernel
theorem dX1_offer_29 : decode cX1_offer 29 = .ok (.if_icmp .lt 6, 3) := by decide +kernel
theorem dX1_offer_32 : decode cX1_offer 32 = .ok (.bipush (-2), 2) := by decide +kernel
theorem dX1_offer_34 : decode cX1_offer 34 = .ok (.ireturn, 1) := by decide +kernel
theorem dX1_offer_35 : decode cX1_offer 35 = .ok (.aload_n 0, 1) := by decide +kernel
theorem dX1_offer_36 : decode cX1_offer 36 = .ok (.getfield 12, 3) := by decide +kernel
theorem dX1_offer_39 : decode cX1_offer 39 = .ok (.lload_n 3, 1) := by decide +kernel
theorem dX1_offer_40 : decode cX1_offer 40 = .ok (.aload_n 0, 1) := by decide +kernel
theorem dX1_offer_41 : decode cX1_offer 41 = .ok (.invokevirtual 117, 3) := by decide +kernel
theorem dX1_offer_44 : decode cX1_offer 44 = .ok (.iload_n 1, 1) := by decide +kernel
theorem dX1_offer_45 : decode cX1_offer 45 = .ok (.iload_n 2, 1) := by decide +kernel
theorem dX1_offer_46 : decode cX1_offer 46 = .ok (.invokevirtual 120, 3) := by decide +kernel
theorem dX1_offer_49 : decode cX1_offer 49 = .ok (.aload_n 0, 1) := by decide +kernel
theorem dX1_offer_50 : decode cX1_offer 50 = .ok (.getfield 65, 3) := by decide +kernel
theorem dX1_offer_53 : decode cX1_offer 53 = .ok (.ifCond .eq 26, 3) := by decide +kernel
theorem dX1_offer_56 : decode cX1_offer 56 = .ok (.aload_n 0, 1) := by decide +kernel
theorem dX1_offer_57 : decode cX1_offer 57 = .ok (.getfield 38, 3) := by decide +kernel
theorem dX1_offer_60 : decode cX1_offer 60 = .ok (.aload_n 0, 1) := by decide +kernel
theorem dX1_offer_61 : decode cX1_offer 61 = .ok (.getfield 34, 3) := by decide +kernel
theorem dX1_offer_64 : decode cX1_offer 64 = .ok (.aload_n 0, 1) := by decide +kernel
theorem dX1_offer_65 : decode cX1_offer 65 = .ok (.getfield 25, 3) := by decide +kernel
theorem dX1_offer_68 : decode cX1_offer 68 = .ok (.invokevirtual 53, 3) := by decide +kernel
theorem dX1_offer_71 : decode cX1_offer 71 = .ok (.iconst (-1), 1) := by decide +kernel
theorem dX1_offer_72 : decode cX1_offer 72 = .ok (.if_icmp .ne 7, 3) := by decide +kernel
theorem dX1_offer_75 : decode cX1_offer 75 = .ok (.iconst 0, 1) := by decide +kernel
theorem dX1_offer_76 : decode cX1_offer 76 = .ok (.goto 4, 3) := by decide +kernel
theorem dX1_offer_79 : decode cX1_offer 79 = .ok (.iconst 1, 1) := by decide +kernel
theorem dX1_offer_80 : decode cX1_offer 80 = .ok (.ireturn, 1) := by decide +kernel
theorem dX1_layoutOfPlaces_0 : decode cX1_layoutOfPlaces 0 = .ok (.lconst 0, 1) := by decide +kernel
theorem dX1_layoutOfPlaces_1 : decode cX1_layoutOfPlaces 1 = .ok (.lstore_n 1, 1) := by decide +kernel
theorem dX1_layoutOfPlaces_2 : decode cX1_layoutOfPlaces 2 = .ok (.aload_n 0, 1) := by decide +kernel
theorem dX1_layoutOfPlaces_3 : decode cX1_layoutOfPlaces 3 = .ok (.getfield 34, 3) := by decide +kernel
theorem dX1_layoutOfPlaces_6 : decode cX1_layoutOfPlaces 6 = .ok (.getfield 42, 3) := by decide +kernel
theorem dX1_layoutOfPlaces_9 : decode cX1_layoutOfPlaces 9 = .ok (.iconst 1, 1) := by decide +kernel
theorem dX1_layoutOfPlaces_10 : decode cX1_layoutOfPlaces 10 = .ok (.isub, 1) := by decide +kernel
theorem dX1_layoutOfPlaces_11 : decode cX1_layoutOfPlaces 11 = .ok (.istore_n 3, 1) := by decide +kernel
theorem dX1_layoutOfPlaces_12 : decode cX1_layoutOfPlaces 12 = .ok (.iload_n 3, 1) := by decide +kernel
theorem dX1_layoutOfPlaces_13 : decode cX1_layoutOfPlaces 13 = .ok (.ifCond .lt 23, 3) := by decide +kernel
theorem dX1_layoutOfPlaces_16 : decode cX1_layoutOfPlaces 16 = .ok (.lload_n 1, 1) := by decide +kernel
theorem dX1_layoutOfPlaces_17 : decode cX1_layoutOfPlaces 17 = .ok (.iconst 5, 1) := by decide +kernel
theorem dX1_layoutOfPlaces_18 : decode cX1_layoutOfPlaces 18 = .ok (.lshl, 1) := by decide +kernel
theorem dX1_layoutOfPlaces_19 : decode cX1_layoutOfPlaces 19 = .ok (.aload_n 0, 1) := by decide +kernel
theorem dX1_layoutOfPlaces_20 : decode cX1_layoutOfPlaces 20 = .ok (.getfield 25, 3) := by decide +kernel
theorem dX1_layoutOfPlaces_23 : decode cX1_layoutOfPlaces 23 = .ok (.iload_n 3, 1) := by decide +kernel
theorem dX1_layoutOfPlaces_24 : decode cX1_layoutOfPlaces 24 = .ok (.iaload, 1) := by decide +kernel
theorem dX1_layoutOfPlaces_25 : decode cX1_layoutOfPlaces 25 = .ok (.iconst 1, 1) := by decide +kernel
theorem dX1_layoutOfPlaces_26 : decode cX1_layoutOfPlaces 26 = .ok (.iadd, 1) := by decide +kernel
theorem dX1_layoutOfPlaces_27 : decode cX1_layoutOfPlaces 27 = .ok (.i2l, 1) := by decide +kernel
theorem dX1_layoutOfPlaces_28 : decode cX1_layoutOfPlaces 28 = .ok (.lor, 1) := by decide +kernel
theorem dX1_layoutOfPlaces_29 : decode cX1_layoutOfPlaces 29 = .ok (.lstore_n 1, 1) := by decide +kernel
theorem dX1_layoutOfPlaces_30 : decode cX1_layoutOfPlaces 30 = .ok (.iinc 3 (-1), 3) := by decide +kernel
theorem dX1_layoutOfPlaces_33 : decode cX1_layoutOfPlaces 33 = .ok (.goto (-21), 3) := by decide +kernel
theorem dX1_layoutOfPlaces_36 : decode cX1_layoutOfPlaces 36 = .ok (.lload_n 1, 1) := by decide +kernel
theorem dX1_layoutOfPlaces_37 : decode cX1_layoutOfPlaces 37 = .ok (.lreturn, 1) := by decide +kernel
theorem dX1_load_0 : decode cX1_load 0 = .ok (.aload_n 0, 1) := by decide +kernel
theorem dX1_load_1 : decode cX1_load 1 = .ok (.getfield 34, 3) := by decide +kernel
theorem dX1_load_4 : decode cX1_load 4 = .ok (.getfield 124, 3) := by decide +kernel
theorem dX1_load_7 : decode cX1_load 7 = .ok (.istore_n 3, 1) := by decide +kernel
theorem dX1_load_8 : decode cX1_load 8 = .ok (.lload_n 1, 1) := by decide +kernel
theorem dX1_load_9 : decode cX1_load 9 = .ok (.lstore 4, 2) := by decide +kernel
theorem dX1_load_11 : decode cX1_load 11 = .ok (.iconst 0, 1) := by decide +kernel
theorem dX1_load_12 : decode cX1_load 12 = .ok (.istore 6, 2) := by decide +kernel
theorem dX1_load_14 : decode cX1_load 14 = .ok (.iload 6, 2) := by decide +kernel
theorem dX1_load_16 : decode cX1_load 16 = .ok (.aload_n 0, 1) := by decide +kernel
theorem dX1_load_17 : decode cX1_load 17 = .ok (.getfield 34, 3) := by decide +kernel
theorem dX1_load_20 : decode cX1_load 20 = .ok (.getfield 42, 3) := by decide +kernel
theorem dX1_load_23 : decode cX1_load 23 = .ok (.if_icmp .ge 100, 3) := by decide +kernel
theorem dX1_load_26 : decode cX1_load 26 = .ok (.aload_n 0, 1) := by decide +kernel
theorem dX1_load_27 : decode cX1_load 27 = .ok (.getfield 25, 3) := by decide +kernel
theorem dX1_load_30 : decode cX1_load 30 = .ok (.iload 6, 2) := by decide +kernel
theorem dX1_load_32 : decode cX1_load 32 = .ok (.lload 4, 2) := by decide +kernel
theorem dX1_load_34 : decode cX1_load 34 = .ok (.ldc2_w 127, 3) := by decide +kernel
theorem dX1_load_37 : decode cX1_load 37 = .ok (.land, 1) := by decide +kernel
theorem dX1_load_38 : decode cX1_load 38 = .ok (.l2i, 1) := by decide +kernel
theorem dX1_load_39 : decode cX1_load 39 = .ok (.iconst 1, 1) := by decide +kernel
theorem dX1_load_40 : decode cX1_load 40 = .ok (.isub, 1) := by decide +kernel
theorem dX1_load_41 : decode cX1_load 41 = .ok (.iastore, 1) := by decide +kernel
theorem dX1_load_42 : decode cX1_load 42 = .ok (.lload 4, 2) := by decide +kernel
theorem dX1_load_44 : decode cX1_load 44 = .ok (.iconst 5, 1) := by decide +kernel
theorem dX1_load_45 : decode cX1_load 45 = .ok (.lushr, 1) := by decide +kernel
theorem dX1_load_46 : decode cX1_load 46 = .ok (.lstore 4, 2) := by decide +kernel
theorem dX1_load_48 : decode cX1_load 48 = .ok (.aload_n 0, 1) := by decide +kernel
theorem dX1_load_49 : decode cX1_load 49 = .ok (.getfield 25, 3) := by decide +kernel
theorem dX1_load_52 : decode cX1_load 52 = .ok (.iload 6, 2) := by decide +kernel
theorem dX1_load_54 : decode cX1_load 54 = .ok (.iaload, 1) := by decide +kernel
theorem dX1_load_55 : decode cX1_load 55 = .ok (.aload_n 0, 1) := by decide +kernel
theorem dX1_load_56 : decode cX1_load 56 = .ok (.getfield 22, 3) := by decide +kernel
theorem dX1_load_59 : decode cX1_load 59 = .ok (.iload 6, 2) := by decide +kernel
theorem dX1_load_61 : decode cX1_load 61 = .ok (.iaload, 1) := by decide +kernel
theorem dX1_load_62 : decode cX1_load 62 = .ok (.isub, 1) := by decide +kernel
theorem dX1_load_63 : decode cX1_load 63 = .ok (.istore 7, 2) := by decide +kernel
theorem dX1_load_65 : decode cX1_load 65 = .ok (.aload_n 0, 1) := by decide +kernel
theorem dX1_load_66 : decode cX1_load 66 = .ok (.getfield 28, 3) := by decide +kernel
theorem dX1_load_69 : decode cX1_load 69 = .ok (.iload 6, 2) := by decide +kernel
theorem dX1_load_71 : decode cX1_load 71 = .ok (.iload 7, 2) := by decide +kernel
theorem dX1_load_73 : decode cX1_load 73 = .ok (.ifCond .lt 19, 3) := by decide +kernel
theorem dX1_load_76 : decode cX1_load 76 = .ok (.aload_n 0, 1) := by decide +kernel
theorem dX1_load_77 : decode cX1_load 77 = .ok (.getfield 34, 3) := by decide +kernel
theorem dX1_load_80 : decode cX1_load 80 = .ok (.getfield 48, 3) := by decide +kernel
theorem dX1_load_83 : decode cX1_load 83 = .ok (.iload 6, 2) := by decide +kernel
theorem dX1_load_85 : decode cX1_load 85 = .ok (.iaload, 1) := by decide +kernel
theorem dX1_load_86 : decode cX1_load 86 = .ok (.iload 7, 2) := by decide +kernel
theorem dX1_load_88 : decode cX1_load 88 = .ok (.ishl, 1) := by decide +kernel
theorem dX1_load_89 : decode cX1_load 89 = .ok (.goto 17, 3) := by decide +kernel
theorem dX1_load_92 : decode cX1_load 92 = .ok (.aload_n 0, 1) := by decide +kernel
theorem dX1_load_93 : decode cX1_load 93 = .ok (.getfield 34, 3) := by decide +kernel
theorem dX1_load_96 : decode cX1_load 96 = .ok (.getfield 48, 3) := by decide +kernel
theorem dX1_load_99 : decode cX1_load 99 = .ok (.iload 6, 2) := by decide +kernel
theorem dX1_load_101 : decode cX1_load 101 = .ok (.iaload, 1) := by decide +kernel
theorem dX1_load_102 : decode cX1_load 102 = .ok (.iload 7, 2) := by decide +kernel
theorem dX1_load_104 : decode cX1_load 104 = .ok (.ineg, 1) := by decide +kernel
theorem dX1_load_105 : decode cX1_load 105 = .ok (.iushr, 1) := by decide +kernel
theorem dX1_load_106 : decode cX1_load 106 = .ok (.iastore, 1) := by decide +kernel
theorem dX1_load_107 : decode cX1_load 107 = .ok (.iload_n 3, 1) := by decide +kernel
theorem dX1_load_108 : decode cX1_load 108 = .ok (.aload_n 0, 1) := by decide +kernel
theorem dX1_load_109 : decode cX1_load 109 = .ok (.getfield 28, 3) := by decide +kernel
theorem dX1_load_112 : decode cX1_load 112 = .ok (.iload 6, 2) := by decide +kernel
theorem dX1_load_114 : decode cX1_load 114 = .ok (.iaload, 1) := by decide +kernel
theorem dX1_load_115 : decode cX1_load 115 = .ok (.ior, 1) := by decide +kernel
theorem dX1_load_116 : decode cX1_load 116 = .ok (.istore_n 3, 1) := by decide +kernel
theorem dX1_load_117 : decode cX1_load 117 = .ok (.iinc 6 1, 3) := by decide +kernel
theorem dX1_load_120 : decode cX1_load 120 = .ok (.goto (-106), 3) := by decide +kernel
theorem dX1_load_123 : decode cX1_load 123 = .ok (.iload_n 3, 1) := by decide +kernel
theorem dX1_load_124 : decode cX1_load 124 = .ok (.ireturn, 1) := by decide +kernel
theorem dX1_keyOfPlaces_0 : decode cX1_keyOfPlaces 0 = .ok (.iconst 0, 1) := by decide +kernel
theorem dX1_keyOfPlaces_1 : decode cX1_keyOfPlaces 1 = .ok (.istore_n 1, 1) := by decide +kernel
theorem dX1_keyOfPlaces_2 : decode cX1_keyOfPlaces 2 = .ok (.iload_n 1, 1) := by decide +kernel
theorem dX1_keyOfPlaces_3 : decode cX1_keyOfPlaces 3 = .ok (.aload_n 0, 1) := by decide +kernel
theorem dX1_keyOfPlaces_4 : decode cX1_keyOfPlaces 4 = .ok (.getfield 34, 3) := by decide +kernel
theorem dX1_keyOfPlaces_7 : decode cX1_keyOfPlaces 7 = .ok (.getfield 42, 3) := by decide +kernel
theorem dX1_keyOfPlaces_10 : decode cX1_keyOfPlaces 10 = .ok (.if_icmp .ge 72, 3) := by decide +kernel
theorem dX1_keyOfPlaces_13 : decode cX1_keyOfPlaces 13 = .ok (.aload_n 0, 1) := by decide +kernel
theorem dX1_keyOfPlaces_14 : decode cX1_keyOfPlaces 14 = .ok (.getfield 18, 3) := by decide +kernel
theorem dX1_keyOfPlaces_17 : decode cX1_keyOfPlaces 17 = .ok (.iload_n 1, 1) := by decide +kernel
theorem dX1_keyOfPlaces_18 : decode cX1_keyOfPlaces 18 = .ok (.iaload, 1) := by decide +kernel
theorem dX1_keyOfPlaces_19 : decode cX1_keyOfPlaces 19 = .ok (.iconst 5, 1) := by decide +kernel
theorem dX1_keyOfPlaces_20 : decode cX1_keyOfPlaces 20 = .ok (.ishl, 1) := by decide +kernel
theorem dX1_keyOfPlaces_21 : decode cX1_keyOfPlaces 21 = .ok (.aload_n 0, 1) := by decide +kernel
theorem dX1_keyOfPlaces_22 : decode cX1_keyOfPlaces 22 = .ok (.getfield 25, 3) := by decide +kernel
theorem dX1_keyOfPlaces_25 : decode cX1_keyOfPlaces 25 = .ok (.iload_n 1, 1) := by decide +kernel
theorem dX1_keyOfPlaces_26 : decode cX1_keyOfPlaces 26 = .ok (.iaload, 1) := by decide +kernel
theorem dX1_keyOfPlaces_27 : decode cX1_keyOfPlaces 27 = .ok (.iadd, 1) := by decide +kernel
theorem dX1_keyOfPlaces_28 : decode cX1_keyOfPlaces 28 = .ok (.iconst 1, 1) := by decide +kernel
theorem dX1_keyOfPlaces_29 : decode cX1_keyOfPlaces 29 = .ok (.iadd, 1) := by decide +kernel
theorem dX1_keyOfPlaces_30 : decode cX1_keyOfPlaces 30 = .ok (.istore_n 2, 1) := by decide +kernel
theorem dX1_keyOfPlaces_31 : decode cX1_keyOfPlaces 31 = .ok (.iload_n 1, 1) := by decide +kernel
theorem dX1_keyOfPlaces_32 : decode cX1_keyOfPlaces 32 = .ok (.istore_n 3, 1) := by decide +kernel
theorem dX1_keyOfPlaces_33 : decode cX1_keyOfPlaces 33 = .ok (.iload_n 3, 1) := by decide +kernel
theorem dX1_keyOfPlaces_34 : decode cX1_keyOfPlaces 34 = .ok (.ifCond .le 35, 3) := by decide +kernel
theorem dX1_keyOfPlaces_37 : decode cX1_keyOfPlaces 37 = .ok (.aload_n 0, 1) := by decide +kernel
theorem dX1_keyOfPlaces_38 : decode cX1_keyOfPlaces 38 = .ok (.getfield 31, 3) := by decide +kernel
theorem dX1_keyOfPlaces_41 : decode cX1_keyOfPlaces 41 = .ok (.iload_n 3, 1) := by decide +kernel
theorem dX1_keyOfPlaces_42 : decode cX1_keyOfPlaces 42 = .ok (.iconst 1, 1) := by decide +kernel
theorem dX1_keyOfPlaces_43 : decode cX1_keyOfPlaces 43 = .ok (.isub, 1) := by decide +kernel
theorem dX1_keyOfPlaces_44 : decode cX1_keyOfPlaces 44 = .ok (.iaload, 1) := by decide +kernel
theorem dX1_keyOfPlaces_45 : decode cX1_keyOfPlaces 45 = .ok (.iload_n 2, 1) := by decide +kernel
theorem dX1_keyOfPlaces_46 : decode cX1_keyOfPlaces 46 = .ok (.if_icmp .le 23, 3) := by decide +kernel
theorem dX1_keyOfPlaces_49 : decode cX1_keyOfPlaces 49 = .ok (.aload_n 0, 1) := by decide +kernel
theorem dX1_keyOfPlaces_50 : decode cX1_keyOfPlaces 50 = .ok (.getfield 31, 3) := by decide +kernel
theorem dX1_keyOfPlaces_53 : decode cX1_keyOfPlaces 53 = .ok (.iload_n 3, 1) := by decide +kernel
theorem dX1_keyOfPlaces_54 : decode cX1_keyOfPlaces 54 = .ok (.aload_n 0, 1) := by decide +kernel
theorem dX1_keyOfPlaces_55 : decode cX1_keyOfPlaces 55 = .ok (.getfield 31, 3) := by decide +kernel
theorem dX1_keyOfPlaces_58 : decode cX1_keyOfPlaces 58 = .ok (.iload_n 3, 1) := by decide +kernel
theorem dX1_keyOfPlaces_59 : decode cX1_keyOfPlaces 59 = .ok (.iconst 1, 1) := by decide +kernel
theorem dX1_keyOfPlaces_60 : decode cX1_keyOfPlaces 60 = .ok (.isub, 1) := by decide +kernel
theorem dX1_keyOfPlaces_61 : decode cX1_keyOfPlaces 61 = .ok (.iaload, 1) := by decide +kernel
theorem dX1_keyOfPlaces_62 : decode cX1_keyOfPlaces 62 = .ok (.iastore, 1) := by decide +kernel
theorem dX1_keyOfPlaces_63 : decode cX1_keyOfPlaces 63 = .ok (.iinc 3 (-1), 3) := by decide +kernel
theorem dX1_keyOfPlaces_66 : decode cX1_keyOfPlaces 66 = .ok (.goto (-33), 3) := by decide +kernel
theorem dX1_keyOfPlaces_69 : decode cX1_keyOfPlaces 69 = .ok (.aload_n 0, 1) := by decide +kernel
theorem dX1_keyOfPlaces_70 : decode cX1_keyOfPlaces 70 = .ok (.getfield 31, 3) := by decide +kernel
theorem dX1_keyOfPlaces_73 : decode cX1_keyOfPlaces 73 = .ok (.iload_n 3, 1) := by decide +kernel
theorem dX1_keyOfPlaces_74 : decode cX1_keyOfPlaces 74 = .ok (.iload_n 2, 1) := by decide +kernel
theorem dX1_keyOfPlaces_75 : decode cX1_keyOfPlaces 75 = .ok (.iastore, 1) := by decide +kernel
theorem dX1_keyOfPlaces_76 : decode cX1_keyOfPlaces 76 = .ok (.iinc 1 1, 3) := by decide +kernel
theorem dX1_keyOfPlaces_79 : decode cX1_keyOfPlaces 79 = .ok (.goto (-77), 3) := by decide +kernel
theorem dX1_keyOfPlaces_82 : decode cX1_keyOfPlaces 82 = .ok (.lconst 0, 1) := by decide +kernel
theorem dX1_keyOfPlaces_83 : decode cX1_keyOfPlaces 83 = .ok (.lstore_n 1, 1) := by decide +kernel
theorem dX1_keyOfPlaces_84 : decode cX1_keyOfPlaces 84 = .ok (.iconst 0, 1) := by decide +kernel
theorem dX1_keyOfPlaces_85 : decode cX1_keyOfPlaces 85 = .ok (.istore_n 3, 1) := by decide +kernel
theorem dX1_keyOfPlaces_86 : decode cX1_keyOfPlaces 86 = .ok (.iload_n 3, 1) := by decide +kernel
theorem dX1_keyOfPlaces_87 : decode cX1_keyOfPlaces 87 = .ok (.aload_n 0, 1) := by decide +kernel
theorem dX1_keyOfPlaces_88 : decode cX1_keyOfPlaces 88 = .ok (.getfield 34, 3) := by decide +kernel
theorem dX1_keyOfPlaces_91 : decode cX1_keyOfPlaces 91 = .ok (.getfield 42, 3) := by decide +kernel
theorem dX1_keyOfPlaces_94 : decode cX1_keyOfPlaces 94 = .ok (.if_icmp .ge 24, 3) := by decide +kernel
theorem dX1_keyOfPlaces_97 : decode cX1_keyOfPlaces 97 = .ok (.lload_n 1, 1) := by decide +kernel
theorem dX1_keyOfPlaces_98 : decode cX1_keyOfPlaces 98 = .ok (.iconst 5, 1) := by decide +kernel
theorem dX1_keyOfPlaces_99 : decode cX1_keyOfPlaces 99 = .ok (.lshl, 1) := by decide +kernel
theorem dX1_keyOfPlaces_100 : decode cX1_keyOfPlaces 100 = .ok (.aload_n 0, 1) := by decide +kernel
theorem dX1_keyOfPlaces_101 : decode cX1_keyOfPlaces 101 = .ok (.getfield 31, 3) := by decide +kernel
theorem dX1_keyOfPlaces_104 : decode cX1_keyOfPlaces 104 = .ok (.iload_n 3, 1) := by decide +kernel
theorem dX1_keyOfPlaces_105 : decode cX1_keyOfPlaces 105 = .ok (.iaload, 1) := by decide +kernel
theorem dX1_keyOfPlaces_106 : decode cX1_keyOfPlaces 106 = .ok (.bipush 31, 2) := by decide +kernel
theorem dX1_keyOfPlaces_108 : decode cX1_keyOfPlaces 108 = .ok (.iand, 1) := by decide +kernel
theorem dX1_keyOfPlaces_109 : decode cX1_keyOfPlaces 109 = .ok (.i2l, 1) := by decide +kernel
theorem dX1_keyOfPlaces_110 : decode cX1_keyOfPlaces 110 = .ok (.lor, 1) := by decide +kernel
theorem dX1_keyOfPlaces_111 : decode cX1_keyOfPlaces 111 = .ok (.lstore_n 1, 1) := by decide +kernel
theorem dX1_keyOfPlaces_112 : decode cX1_keyOfPlaces 112 = .ok (.iinc 3 1, 3) := by decide +kernel
theorem dX1_keyOfPlaces_115 : decode cX1_keyOfPlaces 115 = .ok (.goto (-29), 3) := by decide +kernel
theorem dX1_keyOfPlaces_118 : decode cX1_keyOfPlaces 118 = .ok (.lload_n 1, 1) := by decide +kernel
theorem dX1_keyOfPlaces_119 : decode cX1_keyOfPlaces 119 = .ok (.lreturn, 1) := by decide +kernel
theorem dX6_init_0 : decode cX6_init 0 = .ok (.aload_n 0, 1) := by decide +kernel
theorem dX6_init_1 : decode cX6_init 1 = .ok (.invokespecial 1, 3) := by decide +kernel
theorem dX6_init_4 : decode cX6_init 4 = .ok (.aload_n 0, 1) := by decide +kernel
theorem dX6_init_5 : decode cX6_init 5 = .ok (.new 7, 3) := by decide +kernel
theorem dX6_init_8 : decode cX6_init 8 = .ok (.dup, 1) := by decide +kernel
theorem dX6_init_9 : decode cX6_init 9 = .ok (.iconst 1, 1) := by decide +kernel
theorem dX6_init_10 : decode cX6_init 10 = .ok (.iconst 5, 1) := by decide +kernel
theorem dX6_init_11 : decode cX6_init 11 = .ok (.iload_n 1, 1) := by decide +kernel
theorem dX6_init_12 : decode cX6_init 12 = .ok (.invokestatic 11, 3) := by decide +kernel
theorem dX6_init_15 : decode cX6_init 15 = .ok (.invokestatic 17, 3) := by decide +kernel
theorem dX6_init_18 : decode cX6_init 18 = .ok (.iconst 1, 1) := by decide +kernel
theorem dX6_init_19 : decode cX6_init 19 = .ok (.iconst 5, 1) := by decide +kernel
theorem dX6_init_20 : decode cX6_init 20 = .ok (.iload_n 2, 1) := by decide +kernel
theorem dX6_init_21 : decode cX6_init 21 = .ok (.invokestatic 11, 3) := by decide +kernel
theorem dX6_init_24 : decode cX6_init 24 = .ok (.invokestatic 17, 3) := by decide +kernel
theorem dX6_init_27 : decode cX6_init 27 = .ok (.invokespecial 20, 3) := by decide +kernel
theorem dX6_init_30 : decode cX6_init 30 = .ok (.putfield 23, 3) := by decide +kernel
theorem dX6_init_33 : decode cX6_init 33 = .ok (.aload_n 0, 1) := by decide +kernel
theorem dX6_init_34 : decode cX6_init 34 = .ok (.new 27, 3) := by decide +kernel
theorem dX6_init_37 : decode cX6_init 37 = .ok (.dup, 1) := by decide +kernel
theorem dX6_init_38 : decode cX6_init 38 = .ok (.invokespecial 29, 3) := by decide +kernel
theorem dX6_init_41 : decode cX6_init 41 = .ok (.putfield 30, 3) := by decide +kernel
theorem dX6_init_44 : decode cX6_init 44 = .ok (.aload_n 0, 1) := by decide +kernel
theorem dX6_init_45 : decode cX6_init 45 = .ok (.new 34, 3) := by decide +kernel
theorem dX6_init_48 : decode cX6_init 48 = .ok (.dup, 1) := by decide +kernel
theorem dX6_init_49 : decode cX6_init 49 = .ok (.aload_n 0, 1) := by decide +kernel
theorem dX6_init_50 : decode cX6_init 50 = .ok (.getfield 23, 3) := by decide +kernel
theorem dX6_init_53 : decode cX6_init 53 = .ok (.aload_n 0, 1) := by decide +kernel
theorem dX6_init_54 : decode cX6_init 54 = .ok (.getfield 30, 3) := by decide +kernel
theorem dX6_init_57 : decode cX6_init 57 = .ok (.invokespecial 36, 3) := by decide +kernel
theorem dX6_init_60 : decode cX6_init 60 = .ok (.putfield 39, 3) := by decide +kernel
theorem dX6_init_63 : decode cX6_init 63 = .ok (.aload_n 0, 1) := by decide +kernel
theorem dX6_init_64 : decode cX6_init 64 = .ok (.new 43, 3) := by decide +kernel
theorem dX6_init_67 : decode cX6_init 67 = .ok (.dup, 1) := by decide +kernel
theorem dX6_init_68 : decode cX6_init 68 = .ok (.invokespecial 45, 3) := by decide +kernel
theorem dX6_init_71 : decode cX6_init 71 = .ok (.putfield 46, 3) := by decide +kernel
theorem dX6_init_74 : decode cX6_init 74 = .ok (.aload_n 0, 1) := by decide +kernel
theorem dX6_init_75 : decode cX6_init 75 = .ok (.new 50, 3) := by decide +kernel
theorem dX6_init_78 : decode cX6_init 78 = .ok (.dup, 1) := by decide +kernel
theorem dX6_init_79 : decode cX6_init 79 = .ok (.invokespecial 52, 3) := by decide +kernel
theorem dX6_init_82 : decode cX6_init 82 = .ok (.putfield 53, 3) := by decide +kernel
theorem dX6_init_85 : decode cX6_init 85 = .ok (.return_, 1) := by decide +kernel
theorem dX6_wall_0 : decode cX6_wall 0 = .ok (.aload_n 0, 1) := by decide +kernel
theorem dX6_wall_1 : decode cX6_wall 1 = .ok (.iload_n 1, 1) := by decide +kernel
theorem dX6_wall_2 : decode cX6_wall 2 = .ok (.iload_n 2, 1) := by decide +kernel
theorem dX6_wall_3 : decode cX6_wall 3 = .ok (.invokevirtual 57, 3) := by decide +kernel
theorem dX6_wall_6 : decode cX6_wall 6 = .ok (.aload_n 0, 1) := by decide +kernel
theorem dX6_wall_7 : decode cX6_wall 7 = .ok (.getfield 23, 3) := by decide +kernel
theorem dX6_wall_10 : decode cX6_wall 10 = .ok (.aload_n 0, 1) := by decide +kernel
theorem dX6_wall_11 : decode cX6_wall 11 = .ok (.getfield 23, 3) := by decide +kernel
theorem dX6_wall_14 : decode cX6_wall 14 = .ok (.iload_n 1, 1) := by decide +kernel
theorem dX6_wall_15 : decode cX6_wall 15 = .ok (.iload_n 2, 1) := by decide +kernel
theorem dX6_wall_16 : decode cX6_wall 16 = .ok (.invokevirtual 60, 3) := by decide +kernel
theorem dX6_wall_19 : decode cX6_wall 19 = .ok (.iload_n 3, 1) := by decide +kernel
theorem dX6_wall_20 : decode cX6_wall 20 = .ok (.invokevirtual 63, 3) := by decide +kernel
theorem dX6_wall_23 : decode cX6_wall 23 = .ok (.ireturn, 1) := by decide +kernel
theorem dX6_block_0 : decode cX6_block 0 = .ok (.iload_n 1, 1) := by decide +kernel
theorem dX6_block_1 : decode cX6_block 1 = .ok (.invokestatic 67, 3) := by decide +kernel
theorem dX6_block_4 : decode cX6_block 4 = .ok (.aload_n 0, 1) := by decide +kernel
theorem dX6_block_5 : decode cX6_block 5 = .ok (.getfield 23, 3) := by decide +kernel
theorem dX6_block_8 : decode cX6_block 8 = .ok (.iload_n 1, 1) := by decide +kernel
theorem dX6_block_9 : decode cX6_block 9 = .ok (.invokevirtual 71, 3) := by decide +kernel
theorem dX6_block_12 : decode cX6_block 12 = .ok (.ireturn, 1) := by decide +kernel
theorem dX6_cell_0 : decode cX6_cell 0 = .ok (.aload_n 0, 1) := by decide +kernel
theorem dX6_cell_1 : decode cX6_cell 1 = .ok (.iload_n 1, 1) := by decide +kernel
theorem dX6_cell_2 : decode cX6_cell 2 = .ok (.invokevirtual 75, 3) := by decide +kernel
theorem dX6_cell_5 : decode cX6_cell 5 = .ok (.aload_n 0, 1) := by decide +kernel
theorem dX6_cell_6 : decode cX6_cell 6 = .ok (.iload_n 2, 1) := by decide +kernel
theorem dX6_cell_7 : decode cX6_cell 7 = .ok (.iload_n 3, 1) := by decide +kernel
theorem dX6_cell_8 : decode cX6_cell 8 = .ok (.invokevirtual 57, 3) := by decide +kernel
theorem dX6_cell_11 : decode cX6_cell 11 = .ok (.aload_n 0, 1) := by decide +kernel
theorem dX6_cell_12 : decode cX6_cell 12 = .ok (.getfield 23, 3) := by decide +kernel
theorem dX6_cell_15 : decode cX6_cell 15 = .ok (.iload_n 1, 1) := by decide +kernel
theorem dX6_cell_16 : decode cX6_cell 16 = .ok (.aload_n 0, 1) := by decide +kernel
theorem dX6_cell_17 : decode cX6_cell 17 = .ok (.getfield 23, 3) := by decide +kernel
theorem dX6_cell_20 : decode cX6_cell 20 = .ok (.iload_n 2, 1) := by decide +kernel
theorem dX6_cell_21 : decode cX6_cell 21 = .ok (.iload_n 3, 1) := by decide +kernel
theorem dX6_cell_22 : decode cX6_cell 22 = .ok (.invokevirtual 60, 3) := by decide +kernel
theorem dX6_cell_25 : decode cX6_cell 25 = .ok (.invokevirtual 78, 3) := by decide +kernel
theorem dX6_cell_28 : decode cX6_cell 28 = .ok (.ireturn, 1) := by decide +kernel
theorem dX6_place_0 : decode cX6_place 0 = .ok (.aload_n 0, 1) := by decide +kernel
theorem dX6_place_1 : decode cX6_place 1 = .ok (.iload_n 1, 1) := by decide +kernel
theorem dX6_place_2 : decode cX6_place 2 = .ok (.invokevirtual 75, 3) := by decide +kernel
theorem dX6_place_5 : decode cX6_place 5 = .ok (.aload_n 0, 1) := by decide +kernel
theorem dX6_place_6 : decode cX6_place 6 = .ok (.getfield 23, 3) := by decide +kernel
theorem dX6_place_9 : decode cX6_place 9 = .ok (.getfield 82, 3) := by decide +kernel
theorem dX6_place_12 : decode cX6_place 12 = .ok (.iload_n 1, 1) := by decide +kernel
theorem dX6_place_13 : decode cX6_place 13 = .ok (.iaload, 1) := by decide +kernel
theorem dX6_place_14 : decode cX6_place 14 = .ok (.invokestatic 86, 3) := by decide +kernel
theorem dX6_place_17 : decode cX6_place 17 = .ok (.ireturn, 1) := by decide +kernel
theorem dX6_slide_0 : decode cX6_slide 0 = .ok (.aload_n 0, 1) := by decide +kernel
theorem dX6_slide_1 : decode cX6_slide 1 = .ok (.iload_n 1, 1) := by decide +kernel
theorem dX6_slide_2 : decode cX6_slide 2 = .ok (.invokevirtual 75, 3) := by decide +kernel
theorem dX6_slide_5 : decode cX6_slide 5 = .ok (.iload_n 2, 1) := by decide +kernel
theorem dX6_slide_6 : decode cX6_slide 6 = .ok (.invokestatic 89, 3) := by decide +kernel
theorem dX6_slide_9 : decode cX6_slide 9 = .ok (.aload_n 0, 1) := by decide +kernel
theorem dX6_slide_10 : decode cX6_slide 10 = .ok (.getfield 23, 3) := by decide +kernel
theorem dX6_slide_13 : decode cX6_slide 13 = .ok (.iload_n 1, 1) := by decide +kernel
theorem dX6_slide_14 : decode cX6_slide 14 = .ok (.iload_n 2, 1) := by decide +kernel
theorem dX6_slide_15 : decode cX6_slide 15 = .ok (.iload_n 3, 1) := by decide +kernel
theorem dX6_slide_16 : decode cX6_slide 16 = .ok (.invokevirtual 92, 3) := by decide +kernel
theorem dX6_slide_19 : decode cX6_slide 19 = .ok (.ireturn, 1) := by decide +kernel
theorem dX6_goal_0 : decode cX6_goal 0 = .ok (.aload_n 0, 1) := by decide +kernel
theorem dX6_goal_1 : decode cX6_goal 1 = .ok (.iload_n 1, 1) := by decide +kernel
theorem dX6_goal_2 : decode cX6_goal 2 = .ok (.invokevirtual 75, 3) := by decide +kernel
theorem dX6_goal_5 : decode cX6_goal 5 = .ok (.aload_n 0, 1) := by decide +kernel
theorem dX6_goal_6 : decode cX6_goal 6 = .ok (.iload_n 2, 1) := by decide +kernel
theorem dX6_goal_7 : decode cX6_goal 7 = .ok (.iload_n 3, 1) := by decide +kernel
theorem dX6_goal_8 : decode cX6_goal 8 = .ok (.invokevirtual 57, 3) := by decide +kernel
theorem dX6_goal_11 : decode cX6_goal 11 = .ok (.aload_n 0, 1) := by decide +kernel
theorem dX6_goal_12 : decode cX6_goal 12 = .ok (.getfield 30, 3) := by decide +kernel
theorem dX6_goal_15 : decode cX6_goal 15 = .ok (.iconst 0, 1) := by decide +kernel
theorem dX6_goal_16 : decode cX6_goal 16 = .ok (.iload_n 1, 1) := by decide +kernel
theorem dX6_goal_17 : decode cX6_goal 17 = .ok (.aload_n 0, 1) := by decide +kernel
theorem dX6_goal_18 : decode cX6_goal 18 = .ok (.getfield 23, 3) := by decide +kernel
theorem dX6_goal_21 : decode cX6_goal 21 = .ok (.iload_n 2, 1) := by decide +kernel
theorem dX6_goal_22 : decode cX6_goal 22 = .ok (.iload_n 3, 1) := by decide +kernel
theorem dX6_goal_23 : decode cX6_goal 23 = .ok (.invokevirtual 96, 3) := by decide +kernel
theorem dX6_goal_26 : decode cX6_goal 26 = .ok (.invokevirtual 99, 3) := by decide +kernel
theorem dX6_goal_29 : decode cX6_goal 29 = .ok (.ireturn, 1) := by decide +kernel
theorem dX6_kindGoal_0 : decode cX6_kindGoal 0 = .ok (.aload_n 0, 1) := by decide +kernel
theorem dX6_kindGoal_1 : decode cX6_kindGoal 1 = .ok (.iload_n 2, 1) := by decide +kernel
theorem dX6_kindGoal_2 : decode cX6_kindGoal 2 = .ok (.iload_n 3, 1) := by decide +kernel
theorem dX6_kindGoal_3 : decode cX6_kindGoal 3 = .ok (.invokevirtual 57, 3) := by decide +kernel
theorem dX6_kindGoal_6 : decode cX6_kindGoal 6 = .ok (.iload_n 1, 1) := by decide +kernel
theorem dX6_kindGoal_7 : decode cX6_kindGoal 7 = .ok (.invokestatic 67, 3) := by decide +kernel
theorem dX6_kindGoal_10 : decode cX6_kindGoal 10 = .ok (.aload_n 0, 1) := by decide +kernel
theorem dX6_kindGoal_11 : decode cX6_kindGoal 11 = .ok (.getfield 30, 3) := by decide +kernel
theorem dX6_kindGoal_14 : decode cX6_kindGoal 14 = .ok (.iconst 1, 1) := by decide +kernel
theorem dX6_kindGoal_15 : decode cX6_kindGoal 15 = .ok (.iload_n 1, 1) := by decide +kernel
theorem dX6_kindGoal_16 : decode cX6_kindGoal 16 = .ok (.aload_n 0, 1) := by decide +kernel
theorem dX6_kindGoal_17 : decode cX6_kindGoal 17 = .ok (.getfield 23, 3) := by decide +kernel
theorem dX6_kindGoal_20 : decode cX6_kindGoal 20 = .ok (.iload_n 2, 1) := by decide +kernel
theorem dX6_kindGoal_21 : decode cX6_kindGoal 21 = .ok (.iload_n 3, 1) := by decide +kernel
theorem dX6_kindGoal_22 : decode cX6_kindGoal 22 = .ok (.invokevirtual 96, 3) := by decide +kernel
theorem dX6_kindGoal_25 : decode cX6_kindGoal 25 = .ok (.invokevirtual 99, 3) := by decide +kernel
theorem dX6_kindGoal_28 : decode cX6_kindGoal 28 = .ok (.ireturn, 1) := by decide +kernel
theorem dX6_noGoals_0 : decode cX6_noGoals 0 = .ok (.aload_n 0, 1) := by decide +kernel
theorem dX6_noGoals_1 : decode cX6_noGoals 1 = .ok (.getfield 30, 3) := by decide +kernel
theorem dX6_noGoals_4 : decode cX6_noGoals 4 = .ok (.invokevirtual 103, 3) := by decide +kernel
theorem dX6_noGoals_7 : decode cX6_noGoals 7 = .ok (.ireturn, 1) := by decide +kernel
theorem dX6_open_0 : decode cX6_open 0 = .ok (.aload_n 0, 1) := by decide +kernel
theorem dX6_open_1 : decode cX6_open 1 = .ok (.getfield 39, 3) := by decide +kernel
theorem dX6_open_4 : decode cX6_open 4 = .ok (.invokevirtual 107, 3) := by decide +kernel
theorem dX6_open_7 : decode cX6_open 7 = .ok (.ireturn, 1) := by decide +kernel
theorem dX6_search_0 : decode cX6_search 0 = .ok (.iload_n 1, 1) := by decide +kernel
theorem dX6_search_1 : decode cX6_search 1 = .ok (.ifCond .lt 20, 3) := by decide +kernel
theorem dX6_search_4 : decode cX6_search 4 = .ok (.iload_n 1, 1) := by decide +kernel
theorem dX6_search_5 : decode cX6_search 5 = .ok (.iconst 1, 1) := by decide +kernel
theorem dX6_search_6 : decode cX6_search 6 = .ok (.if_icmp .gt 15, 3) := by decide +kernel
theorem dX6_search_9 : decode cX6_search 9 = .ok (.iload_n 2, 1) := by decide +kernel
theorem dX6_search_10 : decode cX6_search 10 = .ok (.iconst 1, 1) := by decide +kernel
theorem dX6_search_11 : decode cX6_search 11 = .ok (.if_icmp .lt 10, 3) := by decide +kernel
theorem dX6_search_14 : decode cX6_search 14 = .ok (.iload_n 2, 1) := by decide +kernel
theorem dX6_search_15 : decode cX6_search 15 = .ok (.sipush 10000, 3) := by decide +kernel
theorem dX6_search_18 : decode cX6_search 18 = .ok (.if_icmp .le 6, 3) := by decide +kernel
theorem dX6_search_21 : decode cX6_search 21 = .ok (.bipush (-3), 2) := by decide +kernel
theorem dX6_search_23 : decode cX6_search 23 = .ok (.ireturn, 1) := by decide +kernel
theorem dX6_search_24 : decode cX6_search 24 = .ok (.aload_n 0, 1) := by decide +kernel
theorem dX6_search_25 : decode cX6_search 25 = .ok (.getfield 39, 3) := by decide +kernel
theorem dX6_search_28 : decode cX6_search 28 = .ok (.iload_n 1, 1) := by decide +kernel
theorem dX6_search_29 : decode cX6_search 29 = .ok (.iload_n 2, 1) := by decide +kernel
theorem dX6_search_30 : decode cX6_search 30 = .ok (.iconst 1, 1) := by decide +kernel
theorem dX6_search_31 : decode cX6_search 31 = .ok (.invokevirtual 110, 3) := by decide +kernel
theorem dX6_search_34 : decode cX6_search 34 = .ok (.istore_n 3, 1) := by decide +kernel
theorem dX6_search_35 : decode cX6_search 35 = .ok (.aload_n 0, 1) := by decide +kernel
theorem dX6_search_36 : decode cX6_search 36 = .ok (.getfield 46, 3) := by decide +kernel
theorem dX6_search_39 : decode cX6_search 39 = .ok (.aload_n 0, 1) := by decide +kernel
theorem dX6_search_40 : decode cX6_search 40 = .ok (.getfield 39, 3) := by decide +kernel
theorem dX6_search_43 : decode cX6_search 43 = .ok (.getfield 114, 3) := by decide +kernel
theorem dX6_search_46 : decode cX6_search 46 = .ok (.iload_n 3, 1) := by decide +kernel
theorem dX6_search_47 : decode cX6_search 47 = .ok (.ifCond .ne 7, 3) := by decide +kernel
theorem dX6_search_50 : decode cX6_search 50 = .ok (.iconst 1, 1) := by decide +kernel
theorem dX6_search_51 : decode cX6_search 51 = .ok (.goto 4, 3) := by decide +kernel
theorem dX6_search_54 : decode cX6_search 54 = .ok (.iconst 0, 1) := by decide +kernel
theorem dX6_search_55 : decode cX6_search 55 = .ok (.invokevirtual 118, 3) := by decide +kernel
theorem dX6_search_58 : decode cX6_search 58 = .ok (.iload_n 3, 1) := by decide +kernel
theorem dX6_search_59 : decode cX6_search 59 = .ok (.ifCond .ne 13, 3) := by decide +kernel
theorem dX6_search_62 : decode cX6_search 62 = .ok (.aload_n 0, 1) := by decide +kernel
theorem dX6_search_63 : decode cX6_search 63 = .ok (.getfield 46, 3) := by decide +kernel
theorem dX6_search_66 : decode cX6_search 66 = .ok (.getfield 122, 3) := by decide +kernel
theorem dX6_search_69 : decode cX6_search 69 = .ok (.goto 4, 3) := by decide +kernel
theorem dX6_search_72 : decode cX6_search 72 = .ok (.iload_n 3, 1) := by decide +kernel
theorem dX6_search_73 : decode cX6_search 73 = .ok (.ireturn, 1) := by decide +kernel
theorem dX6_step_0 : decode cX6_step 0 = .ok (.iload_n 1, 1) := by decide +kernel
theorem dX6_step_1 : decode cX6_step 1 = .ok (.ifCond .lt 26, 3) := by decide +kernel
theorem dX6_step_4 : decode cX6_step 4 = .ok (.iload_n 1, 1) := by decide +kernel
theorem dX6_step_5 : decode cX6_step 5 = .ok (.aload_n 0, 1) := by decide +kernel
theorem dX6_step_6 : decode cX6_step 6 = .ok (.getfield 46, 3) := by decide +kernel
theorem dX6_step_9 : decode cX6_step 9 = .ok (.getfield 122, 3) := by decide +kernel
theorem dX6_step_12 : decode cX6_step 12 = .ok (.if_icmp .ge 15, 3) := by decide +kernel
theorem dX6_step_15 : decode cX6_step 15 = .ok (.aload_n 0, 1) := by decide +kernel
theorem dX6_step_16 : decode cX6_step 16 = .ok (.getfield 46, 3) := by decide +kernel
theorem dX6_step_19 : decode cX6_step 19 = .ok (.getfield 126, 3) := by decide +kernel
theorem dX6_step_22 : decode cX6_step 22 = .ok (.iload_n 1, 1) := by decide +kernel
theorem dX6_step_23 : decode cX6_step 23 = .ok (.iaload, 1) := by decide +kernel
theorem dX6_step_24 : decode cX6_step 24 = .ok (.goto 4, 3) := by decide +kernel
theorem dX6_step_27 : decode cX6_step 27 = .ok (.iconst (-1), 1) := by decide +kernel
theorem dX6_step_28 : decode cX6_step 28 = .ok (.ireturn, 1) := by decide +kernel
theorem dX6_states_0 : decode cX6_states 0 = .ok (.aload_n 0, 1) := by decide +kernel
theorem dX6_states_1 : decode cX6_states 1 = .ok (.getfield 46, 3) := by decide +kernel
theorem dX6_states_4 : decode cX6_states 4 = .ok (.getfield 129, 3) := by decide +kernel
theorem dX6_states_7 : decode cX6_states 7 = .ok (.ireturn, 1) := by decide +kernel
theorem dX6_reach_0 : decode cX6_reach 0 = .ok (.aload_n 0, 1) := by decide +kernel
theorem dX6_reach_1 : decode cX6_reach 1 = .ok (.getfield 39, 3) := by decide +kernel
theorem dX6_reach_4 : decode cX6_reach 4 = .ok (.iconst 0, 1) := by decide +kernel
theorem dX6_reach_5 : decode cX6_reach 5 = .ok (.sipush 10000, 3) := by decide +kernel
theorem dX6_reach_8 : decode cX6_reach 8 = .ok (.iconst 0, 1) := by decide +kernel
theorem dX6_reach_9 : decode cX6_reach 9 = .ok (.invokevirtual 110, 3) := by decide +kernel
theorem dX6_reach_12 : decode cX6_reach 12 = .ok (.istore_n 1, 1) := by decide +kernel
theorem dX6_reach_13 : decode cX6_reach 13 = .ok (.iload_n 1, 1) := by decide +kernel
theorem dX6_reach_14 : decode cX6_reach 14 = .ok (.bipush (-2), 2) := by decide +kernel
theorem dX6_reach_16 : decode cX6_reach 16 = .ok (.if_icmp .ne 7, 3) := by decide +kernel
theorem dX6_reach_19 : decode cX6_reach 19 = .ok (.iload_n 1, 1) := by decide +kernel
theorem dX6_reach_20 : decode cX6_reach 20 = .ok (.goto 13, 3) := by decide +kernel
theorem dX6_reach_23 : decode cX6_reach 23 = .ok (.aload_n 0, 1) := by decide +kernel
theorem dX6_reach_24 : decode cX6_reach 24 = .ok (.getfield 39, 3) := by decide +kernel
theorem dX6_reach_27 : decode cX6_reach 27 = .ok (.getfield 114, 3) := by decide +kernel
theorem dX6_reach_30 : decode cX6_reach 30 = .ok (.getfield 132, 3) := by decide +kernel
theorem dX6_reach_33 : decode cX6_reach 33 = .ok (.ireturn, 1) := by decide +kernel
theorem dX6_picture_0 : decode cX6_picture 0 = .ok (.iload_n 1, 1) := by decide +kernel
theorem dX6_picture_1 : decode cX6_picture 1 = .ok (.ifCond .ge 7, 3) := by decide +kernel
theorem dX6_picture_4 : decode cX6_picture 4 = .ok (.iconst (-1), 1) := by decide +kernel
theorem dX6_picture_5 : decode cX6_picture 5 = .ok (.goto 11, 3) := by decide +kernel
theorem dX6_picture_8 : decode cX6_picture 8 = .ok (.aload_n 0, 1) := by decide +kernel
theorem dX6_picture_9 : decode cX6_picture 9 = .ok (.getfield 23, 3) := by decide +kernel
theorem dX6_picture_12 : decode cX6_picture 12 = .ok (.iload_n 1, 1) := by decide +kernel
theorem dX6_picture_13 : decode cX6_picture 13 = .ok (.invokevirtual 137, 3) := by decide +kernel
theorem dX6_picture_16 : decode cX6_picture 16 = .ok (.ireturn, 1) := by decide +kernel
theorem dX6_node_0 : decode cX6_node 0 = .ok (.aload_n 0, 1) := by decide +kernel
theorem dX6_node_1 : decode cX6_node 1 = .ok (.getfield 53, 3) := by decide +kernel
theorem dX6_node_4 : decode cX6_node 4 = .ok (.invokevirtual 140, 3) := by decide +kernel
theorem dX6_node_7 : decode cX6_node 7 = .ok (.ireturn, 1) := by decide +kernel
theorem dX6_join_0 : decode cX6_join 0 = .ok (.aload_n 0, 1) := by decide +kernel
theorem dX6_join_1 : decode cX6_join 1 = .ok (.iload_n 1, 1) := by decide +kernel
theorem dX6_join_2 : decode cX6_join 2 = .ok (.invokevirtual 143, 3) := by decide +kernel
theorem dX6_join_5 : decode cX6_join 5 = .ok (.aload_n 0, 1) := by decide +kernel
theorem dX6_join_6 : decode cX6_join 6 = .ok (.iload_n 2, 1) := by decide +kernel
theorem dX6_join_7 : decode cX6_join 7 = .ok (.invokevirtual 143, 3) := by decide +kernel
theorem dX6_join_10 : decode cX6_join 10 = .ok (.aload_n 0, 1) := by decide +kernel
theorem dX6_join_11 : decode cX6_join 11 = .ok (.getfield 53, 3) := by decide +kernel
theorem dX6_join_14 : decode cX6_join 14 = .ok (.iload_n 1, 1) := by decide +kernel
theorem dX6_join_15 : decode cX6_join 15 = .ok (.iload_n 2, 1) := by decide +kernel
theorem dX6_join_16 : decode cX6_join 16 = .ok (.invokevirtual 146, 3) := by decide +kernel
theorem dX6_join_19 : decode cX6_join 19 = .ok (.ireturn, 1) := by decide +kernel
theorem dX6_tile_0 : decode cX6_tile 0 = .ok (.aload_n 0, 1) := by decide +kernel
theorem dX6_tile_1 : decode cX6_tile 1 = .ok (.iload_n 1, 1) := by decide +kernel
theorem dX6_tile_2 : decode cX6_tile 2 = .ok (.invokevirtual 143, 3) := by decide +kernel
theorem dX6_tile_5 : decode cX6_tile 5 = .ok (.aload_n 0, 1) := by decide +kernel
theorem dX6_tile_6 : decode cX6_tile 6 = .ok (.getfield 53, 3) := by decide +kernel
theorem dX6_tile_9 : decode cX6_tile 9 = .ok (.getfield 149, 3) := by decide +kernel
theorem dX6_tile_12 : decode cX6_tile 12 = .ok (.iload_n 1, 1) := by decide +kernel
theorem dX6_tile_13 : decode cX6_tile 13 = .ok (.iaload, 1) := by decide +kernel
theorem dX6_tile_14 : decode cX6_tile 14 = .ok (.ireturn, 1) := by decide +kernel
theorem dX6_shift_0 : decode cX6_shift 0 = .ok (.aload_n 0, 1) := by decide +kernel
theorem dX6_shift_1 : decode cX6_shift 1 = .ok (.iload_n 1, 1) := by decide +kernel
theorem dX6_shift_2 : decode cX6_shift 2 = .ok (.invokevirtual 143, 3) := by decide +kernel
theorem dX6_shift_5 : decode cX6_shift 5 = .ok (.aload_n 0, 1) := by decide +kernel
theorem dX6_shift_6 : decode cX6_shift 6 = .ok (.getfield 53, 3) := by decide +kernel
theorem dX6_shift_9 : decode cX6_shift 9 = .ok (.iload_n 1, 1) := by decide +kernel
theorem dX6_shift_10 : decode cX6_shift 10 = .ok (.invokevirtual 152, 3) := by decide +kernel
theorem dX6_shift_13 : decode cX6_shift 13 = .ok (.ireturn, 1) := by decide +kernel
theorem dX6_swap_0 : decode cX6_swap 0 = .ok (.aload_n 0, 1) := by decide +kernel
theorem dX6_swap_1 : decode cX6_swap 1 = .ok (.iload_n 1, 1) := by decide +kernel
theorem dX6_swap_2 : decode cX6_swap 2 = .ok (.invokevirtual 143, 3) := by decide +kernel
theorem dX6_swap_5 : decode cX6_swap 5 = .ok (.aload_n 0, 1) := by decide +kernel
theorem dX6_swap_6 : decode cX6_swap 6 = .ok (.iload_n 2, 1) := by decide +kernel
theorem dX6_swap_7 : decode cX6_swap 7 = .ok (.invokevirtual 143, 3) := by decide +kernel
theorem dX6_swap_10 : decode cX6_swap 10 = .ok (.aload_n 0, 1) := by decide +kernel
theorem dX6_swap_11 : decode cX6_swap 11 = .ok (.getfield 53, 3) := by decide +kernel
theorem dX6_swap_14 : decode cX6_swap 14 = .ok (.iload_n 1, 1) := by decide +kernel
theorem dX6_swap_15 : decode cX6_swap 15 = .ok (.iload_n 2, 1) := by decide +kernel
theorem dX6_swap_16 : decode cX6_swap 16 = .ok (.invokevirtual 156, 3) := by decide +kernel
theorem dX6_swap_19 : decode cX6_swap 19 = .ok (.ireturn, 1) := by decide +kernel
theorem dX6_even_0 : decode cX6_even 0 = .ok (.aload_n 0, 1) := by decide +kernel
theorem dX6_even_1 : decode cX6_even 1 = .ok (.getfield 53, 3) := by decide +kernel
theorem dX6_even_4 : decode cX6_even 4 = .ok (.invokevirtual 159, 3) := by decide +kernel
theorem dX6_even_7 : decode cX6_even 7 = .ok (.ireturn, 1) := by decide +kernel
theorem dX6_parity_0 : decode cX6_parity 0 = .ok (.aload_n 0, 1) := by decide +kernel
theorem dX6_parity_1 : decode cX6_parity 1 = .ok (.getfield 53, 3) := by decide +kernel
theorem dX6_parity_4 : decode cX6_parity 4 = .ok (.invokevirtual 163, 3) := by decide +kernel
theorem dX6_parity_7 : decode cX6_parity 7 = .ok (.ireturn, 1) := by decide +kernel
theorem dX6_ways_0 : decode cX6_ways 0 = .ok (.aload_n 0, 1) := by decide +kernel
theorem dX6_ways_1 : decode cX6_ways 1 = .ok (.getfield 53, 3) := by decide +kernel
theorem dX6_ways_4 : decode cX6_ways 4 = .ok (.invokevirtual 166, 3) := by decide +kernel
theorem dX6_ways_7 : decode cX6_ways 7 = .ok (.ireturn, 1) := by decide +kernel
theorem dX6_home_0 : decode cX6_home 0 = .ok (.aload_n 0, 1) := by decide +kernel
theorem dX6_home_1 : decode cX6_home 1 = .ok (.getfield 53, 3) := by decide +kernel
theorem dX6_home_4 : decode cX6_home 4 = .ok (.invokevirtual 169, 3) := by decide +kernel
theorem dX6_home_7 : decode cX6_home 7 = .ok (.ireturn, 1) := by decide +kernel
theorem dX6_needCell_0 : decode cX6_needCell 0 = .ok (.aload_n 0, 1) := by decide +kernel
theorem dX6_needCell_1 : decode cX6_needCell 1 = .ok (.getfield 23, 3) := by decide +kernel
theorem dX6_needCell_4 : decode cX6_needCell 4 = .ok (.iload_n 1, 1) := by decide +kernel
theorem dX6_needCell_5 : decode cX6_needCell 5 = .ok (.iload_n 2, 1) := by decide +kernel
theorem dX6_needCell_6 : decode cX6_needCell 6 = .ok (.invokevirtual 172, 3) := by decide +kernel
theorem dX6_needCell_9 : decode cX6_needCell 9 = .ok (.ifCond .ne 13, 3) := by decide +kernel
theorem dX6_needCell_12 : decode cX6_needCell 12 = .ok (.new 175, 3) := by decide +kernel
theorem dX6_needCell_15 : decode cX6_needCell 15 = .ok (.dup, 1) := by decide +kernel
theorem dX6_needCell_16 : decode cX6_needCell 16 = .ok (.ldc 177, 2) := by decide +kernel
theorem dX6_needCell_18 : decode cX6_needCell 18 = .ok (.invokespecial 179, 3) := by decide +kernel
theorem dX6_needCell_21 : decode cX6_needCell 21 = .ok (.athrow, 1) := by decide +kernel
theorem dX6_needCell_22 : decode cX6_needCell 22 = .ok (.return_, 1) := by decide +kernel
theorem dX6_needBlock_0 : decode cX6_needBlock 0 = .ok (.iload_n 1, 1) := by decide +kernel
theorem dX6_needBlock_1 : decode cX6_needBlock 1 = .ok (.ifCond .lt 14, 3) := by decide +kernel
theorem dX6_needBlock_4 : decode cX6_needBlock 4 = .ok (.iload_n 1, 1) := by decide +kernel
theorem dX6_needBlock_5 : decode cX6_needBlock 5 = .ok (.aload_n 0, 1) := by decide +kernel
theorem dX6_needBlock_6 : decode cX6_needBlock 6 = .ok (.getfield 23, 3) := by decide +kernel
theorem dX6_needBlock_9 : decode cX6_needBlock 9 = .ok (.getfield 182, 3) := by decide +kernel
theorem dX6_needBlock_12 : decode cX6_needBlock 12 = .ok (.if_icmp .lt 13, 3) := by decide +kernel
theorem dX6_needBlock_15 : decode cX6_needBlock 15 = .ok (.new 175, 3) := by decide +kernel
theorem dX6_needBlock_18 : decode cX6_needBlock 18 = .ok (.dup, 1) := by decide +kernel
theorem dX6_needBlock_19 : decode cX6_needBlock 19 = .ok (.ldc 185, 2) := by decide +kernel
theorem dX6_needBlock_21 : decode cX6_needBlock 21 = .ok (.invokespecial 179, 3) := by decide +kernel
theorem dX6_needBlock_24 : decode cX6_needBlock 24 = .ok (.athrow, 1) := by decide +kernel
theorem dX6_needBlock_25 : decode cX6_needBlock 25 = .ok (.return_, 1) := by decide +kernel
theorem dX6_needWay_0 : decode cX6_needWay 0 = .ok (.iload_n 0, 1) := by decide +kernel
theorem dX6_needWay_1 : decode cX6_needWay 1 = .ok (.ifCond .lt 8, 3) := by decide +kernel
theorem dX6_needWay_4 : decode cX6_needWay 4 = .ok (.iload_n 0, 1) := by decide +kernel
theorem dX6_needWay_5 : decode cX6_needWay 5 = .ok (.iconst 4, 1) := by decide +kernel
theorem dX6_needWay_6 : decode cX6_needWay 6 = .ok (.if_icmp .lt 13, 3) := by decide +kernel
theorem dX6_needWay_9 : decode cX6_needWay 9 = .ok (.new 175, 3) := by decide +kernel
theorem dX6_needWay_12 : decode cX6_needWay 12 = .ok (.dup, 1) := by decide +kernel
theorem dX6_needWay_13 : decode cX6_needWay 13 = .ok (.ldc 187, 2) := by decide +kernel
theorem dX6_needWay_15 : decode cX6_needWay 15 = .ok (.invokespecial 179, 3) := by decide +kernel
theorem dX6_needWay_18 : decode cX6_needWay 18 = .ok (.athrow, 1) := by decide +kernel
theorem dX6_needWay_19 : decode cX6_needWay 19 = .ok (.return_, 1) := by decide +kernel
theorem dX6_needKind_0 : decode cX6_needKind 0 = .ok (.iload_n 0, 1) := by decide +kernel
theorem dX6_needKind_1 : decode cX6_needKind 1 = .ok (.ifCond .lt 9, 3) := by decide +kernel
theorem dX6_needKind_4 : decode cX6_needKind 4 = .ok (.iload_n 0, 1) := by decide +kernel
theorem dX6_needKind_5 : decode cX6_needKind 5 = .ok (.bipush 26, 2) := by decide +kernel
theorem dX6_needKind_7 : decode cX6_needKind 7 = .ok (.if_icmp .lt 13, 3) := by decide +kernel
theorem dX6_needKind_10 : decode cX6_needKind 10 = .ok (.new 189, 3) := by decide +kernel
theorem dX6_needKind_13 : decode cX6_needKind 13 = .ok (.dup, 1) := by decide +kernel
theorem dX6_needKind_14 : decode cX6_needKind 14 = .ok (.ldc 191, 2) := by decide +kernel
theorem dX6_needKind_16 : decode cX6_needKind 16 = .ok (.invokespecial 193, 3) := by decide +kernel
theorem dX6_needKind_19 : decode cX6_needKind 19 = .ok (.athrow, 1) := by decide +kernel
theorem dX6_needKind_20 : decode cX6_needKind 20 = .ok (.return_, 1) := by decide +kernel
theorem dX6_needNode_0 : decode cX6_needNode 0 = .ok (.iload_n 1, 1) := by decide +kernel
theorem dX6_needNode_1 : decode cX6_needNode 1 = .ok (.ifCond .lt 14, 3) := by decide +kernel
theorem dX6_needNode_4 : decode cX6_needNode 4 = .ok (.iload_n 1, 1) := by decide +kernel
theorem dX6_needNode_5 : decode cX6_needNode 5 = .ok (.aload_n 0, 1) := by decide +kernel
theorem dX6_needNode_6 : decode cX6_needNode 6 = .ok (.getfield 53, 3) := by decide +kernel
theorem dX6_needNode_9 : decode cX6_needNode 9 = .ok (.getfield 194, 3) := by decide +kernel
theorem dX6_needNode_12 : decode cX6_needNode 12 = .ok (.if_icmp .lt 13, 3) := by decide +kernel
theorem dX6_needNode_15 : decode cX6_needNode 15 = .ok (.new 175, 3) := by decide +kernel
theorem dX6_needNode_18 : decode cX6_needNode 18 = .ok (.dup, 1) := by decide +kernel
theorem dX6_needNode_19 : decode cX6_needNode 19 = .ok (.ldc 197, 2) := by decide +kernel
theorem dX6_needNode_21 : decode cX6_needNode 21 = .ok (.invokespecial 179, 3) := by decide +kernel
theorem dX6_needNode_24 : decode cX6_needNode 24 = .ok (.athrow, 1) := by decide +kernel
theorem dX6_needNode_25 : decode cX6_needNode 25 = .ok (.return_, 1) := by decide +kernel
end
section
theorem dX7_init_0 : decode cX7_init 0 = .ok (.aload_n 0, 1) := by decide +kernel
theorem dX7_init_1 : decode cX7_init 1 = .ok (.invokespecial 1, 3) := by decide +kernel
theorem dX7_init_4 : decode cX7_init 4 = .ok (.aload_n 0, 1) := by decide +kernel
theorem dX7_init_5 : decode cX7_init 5 = .ok (.bipush 8, 2) := by decide +kernel
theorem dX7_init_7 : decode cX7_init 7 = .ok (.newarray .int, 2) := by decide +kernel
theorem dX7_init_9 : decode cX7_init 9 = .ok (.putfield 7, 3) := by decide +kernel
theorem dX7_init_12 : decode cX7_init 12 = .ok (.aload_n 0, 1) := by decide +kernel
theorem dX7_init_13 : decode cX7_init 13 = .ok (.bipush 8, 2) := by decide +kernel
theorem dX7_init_15 : decode cX7_init 15 = .ok (.newarray .int, 2) := by decide +kernel
theorem dX7_init_17 : decode cX7_init 17 = .ok (.putfield 13, 3) := by decide +kernel
theorem dX7_init_20 : decode cX7_init 20 = .ok (.aload_n 0, 1) := by decide +kernel
theorem dX7_init_21 : decode cX7_init 21 = .ok (.bipush 6, 2) := by decide +kernel
theorem dX7_init_23 : decode cX7_init 23 = .ok (.newarray .int, 2) := by decide +kernel
theorem dX7_init_25 : decode cX7_init 25 = .ok (.putfield 16, 3) := by decide +kernel
theorem dX7_init_28 : decode cX7_init 28 = .ok (.aload_n 0, 1) := by decide +kernel
theorem dX7_init_29 : decode cX7_init 29 = .ok (.bipush 6, 2) := by decide +kernel
theorem dX7_init_31 : decode cX7_init 31 = .ok (.newarray .int, 2) := by decide +kernel
theorem dX7_init_33 : decode cX7_init 33 = .ok (.putfield 19, 3) := by decide +kernel
theorem dX7_init_36 : decode cX7_init 36 = .ok (.aload_n 0, 1) := by decide +kernel
theorem dX7_init_37 : decode cX7_init 37 = .ok (.ldc 22, 2) := by decide +kernel
theorem dX7_init_39 : decode cX7_init 39 = .ok (.newarray .int, 2) := by decide +kernel
theorem dX7_init_41 : decode cX7_init 41 = .ok (.putfield 23, 3) := by decide +kernel
theorem dX7_init_44 : decode cX7_init 44 = .ok (.aload_n 0, 1) := by decide +kernel
theorem dX7_init_45 : decode cX7_init 45 = .ok (.ldc 22, 2) := by decide +kernel
theorem dX7_init_47 : decode cX7_init 47 = .ok (.newarray .int, 2) := by decide +kernel
theorem dX7_init_49 : decode cX7_init 49 = .ok (.putfield 26, 3) := by decide +kernel
theorem dX7_init_52 : decode cX7_init 52 = .ok (.aload_n 0, 1) := by decide +kernel
theorem dX7_init_53 : decode cX7_init 53 = .ok (.sipush 10001, 3) := by decide +kernel
theorem dX7_init_56 : decode cX7_init 56 = .ok (.newarray .int, 2) := by decide +kernel
theorem dX7_init_58 : decode cX7_init 58 = .ok (.putfield 29, 3) := by decide +kernel
theorem dX7_init_61 : decode cX7_init 61 = .ok (.aload_n 0, 1) := by decide +kernel
theorem dX7_init_62 : decode cX7_init 62 = .ok (.sipush 10001, 3) := by decide +kernel
theorem dX7_init_65 : decode cX7_init 65 = .ok (.newarray .int, 2) := by decide +kernel
theorem dX7_init_67 : decode cX7_init 67 = .ok (.putfield 32, 3) := by decide +kernel
theorem dX7_init_70 : decode cX7_init 70 = .ok (.aload_n 0, 1) := by decide +kernel
theorem dX7_init_71 : decode cX7_init 71 = .ok (.ldc 35, 2) := by decide +kernel
theorem dX7_init_73 : decode cX7_init 73 = .ok (.newarray .int, 2) := by decide +kernel
theorem dX7_init_75 : decode cX7_init 75 = .ok (.putfield 36, 3) := by decide +kernel
theorem dX7_init_78 : decode cX7_init 78 = .ok (.aload_n 0, 1) := by decide +kernel
theorem dX7_init_79 : decode cX7_init 79 = .ok (.bipush 8, 2) := by decide +kernel
theorem dX7_init_81 : decode cX7_init 81 = .ok (.newarray .int, 2) := by decide +kernel
theorem dX7_init_83 : decode cX7_init 83 = .ok (.putfield 39, 3) := by decide +kernel
theorem dX7_init_86 : decode cX7_init 86 = .ok (.aload_n 0, 1) := by decide +kernel
theorem dX7_init_87 : decode cX7_init 87 = .ok (.bipush 8, 2) := by decide +kernel
theorem dX7_init_89 : decode cX7_init 89 = .ok (.newarray .int, 2) := by decide +kernel
theorem dX7_init_91 : decode cX7_init 91 = .ok (.putfield 42, 3) := by decide +kernel
theorem dX7_init_94 : decode cX7_init 94 = .ok (.aload_n 0, 1) := by decide +kernel
theorem dX7_init_95 : decode cX7_init 95 = .ok (.bipush 8, 2) := by decide +kernel
theorem dX7_init_97 : decode cX7_init 97 = .ok (.newarray .int, 2) := by decide +kernel
theorem dX7_init_99 : decode cX7_init 99 = .ok (.putfield 45, 3) := by decide +kernel
theorem dX7_init_102 : decode cX7_init 102 = .ok (.aload_n 0, 1) := by decide +kernel
theorem dX7_init_103 : decode cX7_init 103 = .ok (.sipush 10001, 3) := by decide +kernel
theorem dX7_init_106 : decode cX7_init 106 = .ok (.newarray .int, 2) := by decide +kernel
theorem dX7_init_108 : decode cX7_init 108 = .ok (.putfield 48, 3) := by decide +kernel
theorem dX7_init_111 : decode cX7_init 111 = .ok (.aload_n 0, 1) := by decide +kernel
theorem dX7_init_112 : decode cX7_init 112 = .ok (.bipush 64, 2) := by decide +kernel
theorem dX7_init_114 : decode cX7_init 114 = .ok (.newarray .boolean, 2) := by decide +kernel
theorem dX7_init_116 : decode cX7_init 116 = .ok (.putfield 51, 3) := by decide +kernel
theorem dX7_init_119 : decode cX7_init 119 = .ok (.aload_n 0, 1) := by decide +kernel
theorem dX7_init_120 : decode cX7_init 120 = .ok (.bipush 8, 2) := by decide +kernel
theorem dX7_init_122 : decode cX7_init 122 = .ok (.newarray .int, 2) := by decide +kernel
theorem dX7_init_124 : decode cX7_init 124 = .ok (.putfield 55, 3) := by decide +kernel
theorem dX7_init_127 : decode cX7_init 127 = .ok (.aload_n 0, 1) := by decide +kernel
theorem dX7_init_128 : decode cX7_init 128 = .ok (.bipush 8, 2) := by decide +kernel
theorem dX7_init_130 : decode cX7_init 130 = .ok (.newarray .int, 2) := by decide +kernel
theorem dX7_init_132 : decode cX7_init 132 = .ok (.putfield 58, 3) := by decide +kernel
theorem dX7_init_135 : decode cX7_init 135 = .ok (.aload_n 0, 1) := by decide +kernel
theorem dX7_init_136 : decode cX7_init 136 = .ok (.ldc 61, 2) := by decide +kernel
theorem dX7_init_138 : decode cX7_init 138 = .ok (.newarray .boolean, 2) := by decide +kernel
theorem dX7_init_140 : decode cX7_init 140 = .ok (.putfield 62, 3) := by decide +kernel
theorem dX7_init_143 : decode cX7_init 143 = .ok (.aload_n 0, 1) := by decide +kernel
theorem dX7_init_144 : decode cX7_init 144 = .ok (.ldc 61, 2) := by decide +kernel
theorem dX7_init_146 : decode cX7_init 146 = .ok (.newarray .int, 2) := by decide +kernel
theorem dX7_init_148 : decode cX7_init 148 = .ok (.putfield 65, 3) := by decide +kernel
theorem dX7_init_151 : decode cX7_init 151 = .ok (.aload_n 0, 1) := by decide +kernel
theorem dX7_init_152 : decode cX7_init 152 = .ok (.bipush 8, 2) := by decide +kernel
theorem dX7_init_154 : decode cX7_init 154 = .ok (.newarray .int, 2) := by decide +kernel
theorem dX7_init_156 : decode cX7_init 156 = .ok (.putfield 68, 3) := by decide +kernel
theorem dX7_init_159 : decode cX7_init 159 = .ok (.aload_n 0, 1) := by decide +kernel
theorem dX7_init_160 : decode cX7_init 160 = .ok (.bipush 8, 2) := by decide +kernel
theorem dX7_init_162 : decode cX7_init 162 = .ok (.newarray .int, 2) := by decide +kernel
theorem dX7_init_164 : decode cX7_init 164 = .ok (.putfield 71, 3) := by decide +kernel
theorem dX7_init_167 : decode cX7_init 167 = .ok (.aload_n 0, 1) := by decide +kernel
theorem dX7_init_168 : decode cX7_init 168 = .ok (.iload_n 1, 1) := by decide +kernel
theorem dX7_init_169 : decode cX7_init 169 = .ok (.iconst 1, 1) := by decide +kernel
theorem dX7_init_170 : decode cX7_init 170 = .ok (.if_icmp .ge 7, 3) := by decide +kernel
theorem dX7_init_173 : decode cX7_init 173 = .ok (.iconst 1, 1) := by decide +kernel
theorem dX7_init_174 : decode cX7_init 174 = .ok (.goto 13, 3) := by decide +kernel
theorem dX7_init_177 : decode cX7_init 177 = .ok (.iload_n 1, 1) := by decide +kernel
theorem dX7_init_178 : decode cX7_init 178 = .ok (.iconst 5, 1) := by decide +kernel
theorem dX7_init_179 : decode cX7_init 179 = .ok (.if_icmp .le 7, 3) := by decide +kernel
theorem dX7_init_182 : decode cX7_init 182 = .ok (.iconst 5, 1) := by decide +kernel
theorem dX7_init_183 : decode cX7_init 183 = .ok (.goto 4, 3) := by decide +kernel
theorem dX7_init_186 : decode cX7_init 186 = .ok (.iload_n 1, 1) := by decide +kernel
theorem dX7_init_187 : decode cX7_init 187 = .ok (.putfield 74, 3) := by decide +kernel
theorem dX7_init_190 : decode cX7_init 190 = .ok (.aload_n 0, 1) := by decide +kernel
theorem dX7_init_191 : decode cX7_init 191 = .ok (.iload_n 2, 1) := by decide +kernel
theorem dX7_init_192 : decode cX7_init 192 = .ok (.iconst 1, 1) := by decide +kernel
theorem dX7_init_193 : decode cX7_init 193 = .ok (.if_icmp .ge 7, 3) := by decide +kernel
theorem dX7_init_196 : decode cX7_init 196 = .ok (.iconst 1, 1) := by decide +kernel
theorem dX7_init_197 : decode cX7_init 197 = .ok (.goto 13, 3) := by decide +kernel
theorem dX7_init_200 : decode cX7_init 200 = .ok (.iload_n 2, 1) := by decide +kernel
theorem dX7_init_201 : decode cX7_init 201 = .ok (.iconst 5, 1) := by decide +kernel
theorem dX7_init_202 : decode cX7_init 202 = .ok (.if_icmp .le 7, 3) := by decide +kernel
theorem dX7_init_205 : decode cX7_init 205 = .ok (.iconst 5, 1) := by decide +kernel
theorem dX7_init_206 : decode cX7_init 206 = .ok (.goto 4, 3) := by decide +kernel
theorem dX7_init_209 : decode cX7_init 209 = .ok (.iload_n 2, 1) := by decide +kernel
theorem dX7_init_210 : decode cX7_init 210 = .ok (.putfield 78, 3) := by decide +kernel
theorem dX7_init_213 : decode cX7_init 213 = .ok (.return_, 1) := by decide +kernel
theorem dX7_thrown_0 : decode cX7_thrown 0 = .ok (.aload_n 0, 1) := by decide +kernel
theorem dX7_thrown_1 : decode cX7_thrown 1 = .ok (.getfield 81, 3) := by decide +kernel
theorem dX7_thrown_4 : decode cX7_thrown 4 = .ok (.ireturn, 1) := by decide +kernel
theorem dX7_throwsIf_0 : decode cX7_throwsIf 0 = .ok (.aload_n 0, 1) := by decide +kernel
theorem dX7_throwsIf_1 : decode cX7_throwsIf 1 = .ok (.iload_n 2, 1) := by decide +kernel
theorem dX7_throwsIf_2 : decode cX7_throwsIf 2 = .ok (.ifCond .eq 7, 3) := by decide +kernel
theorem dX7_throwsIf_5 : decode cX7_throwsIf 5 = .ok (.iload_n 1, 1) := by decide +kernel
theorem dX7_throwsIf_6 : decode cX7_throwsIf 6 = .ok (.goto 4, 3) := by decide +kernel
theorem dX7_throwsIf_9 : decode cX7_throwsIf 9 = .ok (.iconst 0, 1) := by decide +kernel
theorem dX7_throwsIf_10 : decode cX7_throwsIf 10 = .ok (.putfield 81, 3) := by decide +kernel
theorem dX7_throwsIf_13 : decode cX7_throwsIf 13 = .ok (.iload_n 2, 1) := by decide +kernel
theorem dX7_throwsIf_14 : decode cX7_throwsIf 14 = .ok (.ireturn, 1) := by decide +kernel
theorem dX7_isCell_0 : decode cX7_isCell 0 = .ok (.iload_n 1, 1) := by decide +kernel
theorem dX7_isCell_1 : decode cX7_isCell 1 = .ok (.ifCond .lt 27, 3) := by decide +kernel
theorem dX7_isCell_4 : decode cX7_isCell 4 = .ok (.iload_n 1, 1) := by decide +kernel
theorem dX7_isCell_5 : decode cX7_isCell 5 = .ok (.aload_n 0, 1) := by decide +kernel
theorem dX7_isCell_6 : decode cX7_isCell 6 = .ok (.getfield 74, 3) := by decide +kernel
theorem dX7_isCell_9 : decode cX7_isCell 9 = .ok (.if_icmp .ge 19, 3) := by decide +kernel
theorem dX7_isCell_12 : decode cX7_isCell 12 = .ok (.iload_n 2, 1) := by decide +kernel
theorem dX7_isCell_13 : decode cX7_isCell 13 = .ok (.ifCond .lt 15, 3) := by decide +kernel
theorem dX7_isCell_16 : decode cX7_isCell 16 = .ok (.iload_n 2, 1) := by decide +kernel
theorem dX7_isCell_17 : decode cX7_isCell 17 = .ok (.aload_n 0, 1) := by decide +kernel
theorem dX7_isCell_18 : decode cX7_isCell 18 = .ok (.getfield 78, 3) := by decide +kernel
theorem dX7_isCell_21 : decode cX7_isCell 21 = .ok (.if_icmp .ge 7, 3) := by decide +kernel
theorem dX7_isCell_24 : decode cX7_isCell 24 = .ok (.iconst 1, 1) := by decide +kernel
theorem dX7_isCell_25 : decode cX7_isCell 25 = .ok (.goto 4, 3) := by decide +kernel
theorem dX7_isCell_28 : decode cX7_isCell 28 = .ok (.iconst 0, 1) := by decide +kernel
theorem dX7_isCell_29 : decode cX7_isCell 29 = .ok (.ireturn, 1) := by decide +kernel
theorem dX7_isBlock_0 : decode cX7_isBlock 0 = .ok (.iload_n 1, 1) := by decide +kernel
theorem dX7_isBlock_1 : decode cX7_isBlock 1 = .ok (.ifCond .lt 15, 3) := by decide +kernel
theorem dX7_isBlock_4 : decode cX7_isBlock 4 = .ok (.iload_n 1, 1) := by decide +kernel
theorem dX7_isBlock_5 : decode cX7_isBlock 5 = .ok (.aload_n 0, 1) := by decide +kernel
theorem dX7_isBlock_6 : decode cX7_isBlock 6 = .ok (.getfield 84, 3) := by decide +kernel
theorem dX7_isBlock_9 : decode cX7_isBlock 9 = .ok (.if_icmp .ge 7, 3) := by decide +kernel
theorem dX7_isBlock_12 : decode cX7_isBlock 12 = .ok (.iconst 1, 1) := by decide +kernel
theorem dX7_isBlock_13 : decode cX7_isBlock 13 = .ok (.goto 4, 3) := by decide +kernel
theorem dX7_isBlock_16 : decode cX7_isBlock 16 = .ok (.iconst 0, 1) := by decide +kernel
theorem dX7_isBlock_17 : decode cX7_isBlock 17 = .ok (.ireturn, 1) := by decide +kernel
theorem dX7_blocked_0 : decode cX7_blocked 0 = .ok (.aload_n 0, 1) := by decide +kernel
theorem dX7_blocked_1 : decode cX7_blocked 1 = .ok (.getfield 87, 3) := by decide +kernel
theorem dX7_blocked_4 : decode cX7_blocked 4 = .ok (.istore_n 1, 1) := by decide +kernel
theorem dX7_blocked_5 : decode cX7_blocked 5 = .ok (.iconst 0, 1) := by decide +kernel
theorem dX7_blocked_6 : decode cX7_blocked 6 = .ok (.istore_n 2, 1) := by decide +kernel
theorem dX7_blocked_7 : decode cX7_blocked 7 = .ok (.iload_n 2, 1) := by decide +kernel
theorem dX7_blocked_8 : decode cX7_blocked 8 = .ok (.aload_n 0, 1) := by decide +kernel
theorem dX7_blocked_9 : decode cX7_blocked 9 = .ok (.getfield 84, 3) := by decide +kernel
theorem dX7_blocked_12 : decode cX7_blocked 12 = .ok (.if_icmp .ge 18, 3) := by decide +kernel
theorem dX7_blocked_15 : decode cX7_blocked 15 = .ok (.iload_n 1, 1) := by decide +kernel
theorem dX7_blocked_16 : decode cX7_blocked 16 = .ok (.aload_n 0, 1) := by decide +kernel
theorem dX7_blocked_17 : decode cX7_blocked 17 = .ok (.getfield 13, 3) := by decide +kernel
theorem dX7_blocked_20 : decode cX7_blocked 20 = .ok (.iload_n 2, 1) := by decide +kernel
theorem dX7_blocked_21 : decode cX7_blocked 21 = .ok (.iaload, 1) := by decide +kernel
theorem dX7_blocked_22 : decode cX7_blocked 22 = .ok (.ior, 1) := by decide +kernel
theorem dX7_blocked_23 : decode cX7_blocked 23 = .ok (.istore_n 1, 1) := by decide +kernel
theorem dX7_blocked_24 : decode cX7_blocked 24 = .ok (.iinc 2 1, 3) := by decide +kernel
theorem dX7_blocked_27 : decode cX7_blocked 27 = .ok (.goto (-20), 3) := by decide +kernel
theorem dX7_blocked_30 : decode cX7_blocked 30 = .ok (.iload_n 1, 1) := by decide +kernel
theorem dX7_blocked_31 : decode cX7_blocked 31 = .ok (.ireturn, 1) := by decide +kernel
theorem dX7_wall_0 : decode cX7_wall 0 = .ok (.aload_n 0, 1) := by decide +kernel
theorem dX7_wall_1 : decode cX7_wall 1 = .ok (.iconst 1, 1) := by decide +kernel
theorem dX7_wall_2 : decode cX7_wall 2 = .ok (.aload_n 0, 1) := by decide +kernel
theorem dX7_wall_3 : decode cX7_wall 3 = .ok (.iload_n 1, 1) := by decide +kernel
theorem dX7_wall_4 : decode cX7_wall 4 = .ok (.iload_n 2, 1) := by decide +kernel
theorem dX7_wall_5 : decode cX7_wall 5 = .ok (.invokevirtual 90, 3) := by decide +kernel
theorem dX7_wall_8 : decode cX7_wall 8 = .ok (.ifCond .ne 7, 3) := by decide +kernel
theorem dX7_wall_11 : decode cX7_wall 11 = .ok (.iconst 1, 1) := by decide +kernel
theorem dX7_wall_12 : decode cX7_wall 12 = .ok (.goto 4, 3) := by decide +kernel
theorem dX7_wall_15 : decode cX7_wall 15 = .ok (.iconst 0, 1) := by decide +kernel
theorem dX7_wall_16 : decode cX7_wall 16 = .ok (.invokevirtual 94, 3) := by decide +kernel
theorem dX7_wall_19 : decode cX7_wall 19 = .ok (.ifCond .eq 5, 3) := by decide +kernel
theorem dX7_wall_22 : decode cX7_wall 22 = .ok (.iconst 0, 1) := by decide +kernel
theorem dX7_wall_23 : decode cX7_wall 23 = .ok (.ireturn, 1) := by decide +kernel
theorem dX7_wall_24 : decode cX7_wall 24 = .ok (.iconst 1, 1) := by decide +kernel
theorem dX7_wall_25 : decode cX7_wall 25 = .ok (.aload_n 0, 1) := by decide +kernel
theorem dX7_wall_26 : decode cX7_wall 26 = .ok (.getfield 74, 3) := by decide +kernel
theorem dX7_wall_29 : decode cX7_wall 29 = .ok (.iload_n 2, 1) := by decide +kernel
theorem dX7_wall_30 : decode cX7_wall 30 = .ok (.imul, 1) := by decide +kernel
theorem dX7_wall_31 : decode cX7_wall 31 = .ok (.iload_n 1, 1) := by decide +kernel
theorem dX7_wall_32 : decode cX7_wall 32 = .ok (.iadd, 1) := by decide +kernel
theorem dX7_wall_33 : decode cX7_wall 33 = .ok (.ishl, 1) := by decide +kernel
theorem dX7_wall_34 : decode cX7_wall 34 = .ok (.istore 4, 2) := by decide +kernel
theorem dX7_wall_36 : decode cX7_wall 36 = .ok (.aload_n 0, 1) := by decide +kernel
theorem dX7_wall_37 : decode cX7_wall 37 = .ok (.getfield 87, 3) := by decide +kernel
theorem dX7_wall_40 : decode cX7_wall 40 = .ok (.iload 4, 2) := by decide +kernel
theorem dX7_wall_42 : decode cX7_wall 42 = .ok (.iand, 1) := by decide +kernel
theorem dX7_wall_43 : decode cX7_wall 43 = .ok (.ifCond .eq 7, 3) := by decide +kernel
theorem dX7_wall_46 : decode cX7_wall 46 = .ok (.iconst 1, 1) := by decide +kernel
theorem dX7_wall_47 : decode cX7_wall 47 = .ok (.goto 4, 3) := by decide +kernel
theorem dX7_wall_50 : decode cX7_wall 50 = .ok (.iconst 0, 1) := by decide +kernel
theorem dX7_wall_51 : decode cX7_wall 51 = .ok (.iload_n 3, 1) := by decide +kernel
theorem dX7_wall_52 : decode cX7_wall 52 = .ok (.if_icmp .eq 17, 3) := by decide +kernel
theorem dX7_wall_55 : decode cX7_wall 55 = .ok (.iload_n 3, 1) := by decide +kernel
theorem dX7_wall_56 : decode cX7_wall 56 = .ok (.ifCond .eq 15, 3) := by decide +kernel
theorem dX7_wall_59 : decode cX7_wall 59 = .ok (.aload_n 0, 1) := by decide +kernel
theorem dX7_wall_60 : decode cX7_wall 60 = .ok (.invokevirtual 98, 3) := by decide +kernel
theorem dX7_wall_63 : decode cX7_wall 63 = .ok (.iload 4, 2) := by decide +kernel
theorem dX7_wall_65 : decode cX7_wall 65 = .ok (.iand, 1) := by decide +kernel
theorem dX7_wall_66 : decode cX7_wall 66 = .ok (.ifCond .eq 5, 3) := by decide +kernel
theorem dX7_wall_69 : decode cX7_wall 69 = .ok (.iconst 0, 1) := by decide +kernel
theorem dX7_wall_70 : decode cX7_wall 70 = .ok (.ireturn, 1) := by decide +kernel
theorem dX7_wall_71 : decode cX7_wall 71 = .ok (.aload_n 0, 1) := by decide +kernel
theorem dX7_wall_72 : decode cX7_wall 72 = .ok (.aload_n 0, 1) := by decide +kernel
theorem dX7_wall_73 : decode cX7_wall 73 = .ok (.getfield 87, 3) := by decide +kernel
theorem dX7_wall_76 : decode cX7_wall 76 = .ok (.iload 4, 2) := by decide +kernel
theorem dX7_wall_78 : decode cX7_wall 78 = .ok (.ixor, 1) := by decide +kernel
theorem dX7_wall_79 : decode cX7_wall 79 = .ok (.putfield 87, 3) := by decide +kernel
theorem dX7_wall_82 : decode cX7_wall 82 = .ok (.iconst 1, 1) := by decide +kernel
theorem dX7_wall_83 : decode cX7_wall 83 = .ok (.ireturn, 1) := by decide +kernel
theorem dX7_block_0 : decode cX7_block 0 = .ok (.aload_n 0, 1) := by decide +kernel
theorem dX7_block_1 : decode cX7_block 1 = .ok (.iconst 1, 1) := by decide +kernel
theorem dX7_block_2 : decode cX7_block 2 = .ok (.iload_n 1, 1) := by decide +kernel
theorem dX7_block_3 : decode cX7_block 3 = .ok (.ifCond .lt 9, 3) := by decide +kernel
theorem dX7_block_6 : decode cX7_block 6 = .ok (.iload_n 1, 1) := by decide +kernel
theorem dX7_block_7 : decode cX7_block 7 = .ok (.bipush 25, 2) := by decide +kernel
theorem dX7_block_9 : decode cX7_block 9 = .ok (.if_icmp .le 7, 3) := by decide +kernel
theorem dX7_block_12 : decode cX7_block 12 = .ok (.iconst 1, 1) := by decide +kernel
theorem dX7_block_13 : decode cX7_block 13 = .ok (.goto 4, 3) := by decide +kernel
theorem dX7_block_16 : decode cX7_block 16 = .ok (.iconst 0, 1) := by decide +kernel
theorem dX7_block_17 : decode cX7_block 17 = .ok (.invokevirtual 94, 3) := by decide +kernel
theorem dX7_block_20 : decode cX7_block 20 = .ok (.ifCond .eq 5, 3) := by decide +kernel
theorem dX7_block_23 : decode cX7_block 23 = .ok (.iconst 0, 1) := by decide +kernel
theorem dX7_block_24 : decode cX7_block 24 = .ok (.ireturn, 1) := by decide +kernel
theorem dX7_block_25 : decode cX7_block 25 = .ok (.aload_n 0, 1) := by decide +kernel
theorem dX7_block_26 : decode cX7_block 26 = .ok (.getfield 84, 3) := by decide +kernel
theorem dX7_block_29 : decode cX7_block 29 = .ok (.bipush 8, 2) := by decide +kernel
theorem dX7_block_31 : decode cX7_block 31 = .ok (.if_icmp .ne 5, 3) := by decide +kernel
theorem dX7_block_34 : decode cX7_block 34 = .ok (.iconst (-1), 1) := by decide +kernel
theorem dX7_block_35 : decode cX7_block 35 = .ok (.ireturn, 1) := by decide +kernel
theorem dX7_block_36 : decode cX7_block 36 = .ok (.aload_n 0, 1) := by decide +kernel
theorem dX7_block_37 : decode cX7_block 37 = .ok (.getfield 7, 3) := by decide +kernel
theorem dX7_block_40 : decode cX7_block 40 = .ok (.aload_n 0, 1) := by decide +kernel
theorem dX7_block_41 : decode cX7_block 41 = .ok (.getfield 84, 3) := by decide +kernel
theorem dX7_block_44 : decode cX7_block 44 = .ok (.iload_n 1, 1) := by decide +kernel
theorem dX7_block_45 : decode cX7_block 45 = .ok (.iastore, 1) := by decide +kernel
theorem dX7_block_46 : decode cX7_block 46 = .ok (.aload_n 0, 1) := by decide +kernel
theorem dX7_block_47 : decode cX7_block 47 = .ok (.getfield 13, 3) := by decide +kernel
theorem dX7_block_50 : decode cX7_block 50 = .ok (.aload_n 0, 1) := by decide +kernel
theorem dX7_block_51 : decode cX7_block 51 = .ok (.getfield 84, 3) := by decide +kernel
theorem dX7_block_54 : decode cX7_block 54 = .ok (.iconst 0, 1) := by decide +kernel
theorem dX7_block_55 : decode cX7_block 55 = .ok (.iastore, 1) := by decide +kernel
theorem dX7_block_56 : decode cX7_block 56 = .ok (.aload_n 0, 1) := by decide +kernel
theorem dX7_block_57 : decode cX7_block 57 = .ok (.dup, 1) := by decide +kernel
theorem dX7_block_58 : decode cX7_block 58 = .ok (.getfield 84, 3) := by decide +kernel
theorem dX7_block_61 : decode cX7_block 61 = .ok (.iconst 1, 1) := by decide +kernel
theorem dX7_block_62 : decode cX7_block 62 = .ok (.iadd, 1) := by decide +kernel
theorem dX7_block_63 : decode cX7_block 63 = .ok (.putfield 84, 3) := by decide +kernel
theorem dX7_block_66 : decode cX7_block 66 = .ok (.aload_n 0, 1) := by decide +kernel
theorem dX7_block_67 : decode cX7_block 67 = .ok (.getfield 84, 3) := by decide +kernel
theorem dX7_block_70 : decode cX7_block 70 = .ok (.iconst 1, 1) := by decide +kernel
theorem dX7_block_71 : decode cX7_block 71 = .ok (.isub, 1) := by decide +kernel
theorem dX7_block_72 : decode cX7_block 72 = .ok (.ireturn, 1) := by decide +kernel
theorem dX7_cell_0 : decode cX7_cell 0 = .ok (.aload_n 0, 1) := by decide +kernel
theorem dX7_cell_1 : decode cX7_cell 1 = .ok (.iconst 1, 1) := by decide +kernel
theorem dX7_cell_2 : decode cX7_cell 2 = .ok (.aload_n 0, 1) := by decide +kernel
theorem dX7_cell_3 : decode cX7_cell 3 = .ok (.iload_n 1, 1) := by decide +kernel
theorem dX7_cell_4 : decode cX7_cell 4 = .ok (.invokevirtual 102, 3) := by decide +kernel
theorem dX7_cell_7 : decode cX7_cell 7 = .ok (.ifCond .eq 12, 3) := by decide +kernel
theorem dX7_cell_10 : decode cX7_cell 10 = .ok (.aload_n 0, 1) := by decide +kernel
theorem dX7_cell_11 : decode cX7_cell 11 = .ok (.iload_n 2, 1) := by decide +kernel
theorem dX7_cell_12 : decode cX7_cell 12 = .ok (.iload_n 3, 1) := by decide +kernel
theorem dX7_cell_13 : decode cX7_cell 13 = .ok (.invokevirtual 90, 3) := by decide +kernel
theorem dX7_cell_16 : decode cX7_cell 16 = .ok (.ifCond .ne 7, 3) := by decide +kernel
theorem dX7_cell_19 : decode cX7_cell 19 = .ok (.iconst 1, 1) := by decide +kernel
theorem dX7_cell_20 : decode cX7_cell 20 = .ok (.goto 4, 3) := by decide +kernel
theorem dX7_cell_23 : decode cX7_cell 23 = .ok (.iconst 0, 1) := by decide +kernel
theorem dX7_cell_24 : decode cX7_cell 24 = .ok (.invokevirtual 94, 3) := by decide +kernel
theorem dX7_cell_27 : decode cX7_cell 27 = .ok (.ifCond .eq 5, 3) := by decide +kernel
theorem dX7_cell_30 : decode cX7_cell 30 = .ok (.iconst 0, 1) := by decide +kernel
theorem dX7_cell_31 : decode cX7_cell 31 = .ok (.ireturn, 1) := by decide +kernel
theorem dX7_cell_32 : decode cX7_cell 32 = .ok (.iconst 1, 1) := by decide +kernel
theorem dX7_cell_33 : decode cX7_cell 33 = .ok (.aload_n 0, 1) := by decide +kernel
theorem dX7_cell_34 : decode cX7_cell 34 = .ok (.getfield 74, 3) := by decide +kernel
theorem dX7_cell_37 : decode cX7_cell 37 = .ok (.iload_n 3, 1) := by decide +kernel
theorem dX7_cell_38 : decode cX7_cell 38 = .ok (.imul, 1) := by decide +kernel
theorem dX7_cell_39 : decode cX7_cell 39 = .ok (.iload_n 2, 1) := by decide +kernel
theorem dX7_cell_40 : decode cX7_cell 40 = .ok (.iadd, 1) := by decide +kernel
theorem dX7_cell_41 : decode cX7_cell 41 = .ok (.ishl, 1) := by decide +kernel
theorem dX7_cell_42 : decode cX7_cell 42 = .ok (.istore 4, 2) := by decide +kernel
theorem dX7_cell_44 : decode cX7_cell 44 = .ok (.aload_n 0, 1) := by decide +kernel
theorem dX7_cell_45 : decode cX7_cell 45 = .ok (.invokevirtual 98, 3) := by decide +kernel
theorem dX7_cell_48 : decode cX7_cell 48 = .ok (.iload 4, 2) := by decide +kernel
theorem dX7_cell_50 : decode cX7_cell 50 = .ok (.iand, 1) := by decide +kernel
theorem dX7_cell_51 : decode cX7_cell 51 = .ok (.ifCond .eq 5, 3) := by decide +kernel
theorem dX7_cell_54 : decode cX7_cell 54 = .ok (.iconst 0, 1) := by decide +kernel
theorem dX7_cell_55 : decode cX7_cell 55 = .ok (.ireturn, 1) := by decide +kernel
theorem dX7_cell_56 : decode cX7_cell 56 = .ok (.aload_n 0, 1) := by decide +kernel
theorem dX7_cell_57 : decode cX7_cell 57 = .ok (.getfield 13, 3) := by decide +kernel
theorem dX7_cell_60 : decode cX7_cell 60 = .ok (.iload_n 1, 1) := by decide +kernel
theorem dX7_cell_61 : decode cX7_cell 61 = .ok (.aload_n 0, 1) := by decide +kernel
theorem dX7_cell_62 : decode cX7_cell 62 = .ok (.getfield 13, 3) := by decide +kernel
theorem dX7_cell_65 : decode cX7_cell 65 = .ok (.iload_n 1, 1) := by decide +kernel
theorem dX7_cell_66 : decode cX7_cell 66 = .ok (.iaload, 1) := by decide +kernel
theorem dX7_cell_67 : decode cX7_cell 67 = .ok (.iload 4, 2) := by decide +kernel
theorem dX7_cell_69 : decode cX7_cell 69 = .ok (.ior, 1) := by decide +kernel
theorem dX7_cell_70 : decode cX7_cell 70 = .ok (.iastore, 1) := by decide +kernel
theorem dX7_cell_71 : decode cX7_cell 71 = .ok (.iconst 1, 1) := by decide +kernel
theorem dX7_cell_72 : decode cX7_cell 72 = .ok (.ireturn, 1) := by decide +kernel
theorem dX7_placeOf_0 : decode cX7_placeOf 0 = .ok (.iconst 0, 1) := by decide +kernel
theorem dX7_placeOf_1 : decode cX7_placeOf 1 = .ok (.istore_n 1, 1) := by decide +kernel
theorem dX7_placeOf_2 : decode cX7_placeOf 2 = .ok (.iload_n 1, 1) := by decide +kernel
theorem dX7_placeOf_3 : decode cX7_placeOf 3 = .ok (.bipush 25, 2) := by decide +kernel
theorem dX7_placeOf_5 : decode cX7_placeOf 5 = .ok (.if_icmp .ge 20, 3) := by decide +kernel
theorem dX7_placeOf_8 : decode cX7_placeOf 8 = .ok (.iload_n 0, 1) := by decide +kernel
theorem dX7_placeOf_9 : decode cX7_placeOf 9 = .ok (.iload_n 1, 1) := by decide +kernel
theorem dX7_placeOf_10 : decode cX7_placeOf 10 = .ok (.ishr, 1) := by decide +kernel
theorem dX7_placeOf_11 : decode cX7_placeOf 11 = .ok (.iconst 1, 1) := by decide +kernel
theorem dX7_placeOf_12 : decode cX7_placeOf 12 = .ok (.iand, 1) := by decide +kernel
theorem dX7_placeOf_13 : decode cX7_placeOf 13 = .ok (.iconst 1, 1) := by decide +kernel
theorem dX7_placeOf_14 : decode cX7_placeOf 14 = .ok (.if_icmp .ne 5, 3) := by decide +kernel
theorem dX7_placeOf_17 : decode cX7_placeOf 17 = .ok (.iload_n 1, 1) := by decide +kernel
theorem dX7_placeOf_18 : decode cX7_placeOf 18 = .ok (.ireturn, 1) := by decide +kernel
theorem dX7_placeOf_19 : decode cX7_placeOf 19 = .ok (.iinc 1 1, 3) := by decide +kernel
theorem dX7_placeOf_22 : decode cX7_placeOf 22 = .ok (.goto (-20), 3) := by decide +kernel
theorem dX7_placeOf_25 : decode cX7_placeOf 25 = .ok (.iconst (-1), 1) := by decide +kernel
theorem dX7_placeOf_26 : decode cX7_placeOf 26 = .ok (.ireturn, 1) := by decide +kernel
theorem dX7_place_0 : decode cX7_place 0 = .ok (.aload_n 0, 1) := by decide +kernel
theorem dX7_place_1 : decode cX7_place 1 = .ok (.iconst 1, 1) := by decide +kernel
theorem dX7_place_2 : decode cX7_place 2 = .ok (.aload_n 0, 1) := by decide +kernel
theorem dX7_place_3 : decode cX7_place 3 = .ok (.iload_n 1, 1) := by decide +kernel
theorem dX7_place_4 : decode cX7_place 4 = .ok (.invokevirtual 102, 3) := by decide +kernel
theorem dX7_place_7 : decode cX7_place 7 = .ok (.ifCond .ne 7, 3) := by decide +kernel
theorem dX7_place_10 : decode cX7_place 10 = .ok (.iconst 1, 1) := by decide +kernel
theorem dX7_place_11 : decode cX7_place 11 = .ok (.goto 4, 3) := by decide +kernel
theorem dX7_place_14 : decode cX7_place 14 = .ok (.iconst 0, 1) := by decide +kernel
theorem dX7_place_15 : decode cX7_place 15 = .ok (.invokevirtual 94, 3) := by decide +kernel
theorem dX7_place_18 : decode cX7_place 18 = .ok (.ifCond .eq 7, 3) := by decide +kernel
theorem dX7_place_21 : decode cX7_place 21 = .ok (.iconst 0, 1) := by decide +kernel
theorem dX7_place_22 : decode cX7_place 22 = .ok (.goto 12, 3) := by decide +kernel
theorem dX7_place_25 : decode cX7_place 25 = .ok (.aload_n 0, 1) := by decide +kernel
theorem dX7_place_26 : decode cX7_place 26 = .ok (.getfield 13, 3) := by decide +kernel
theorem dX7_place_29 : decode cX7_place 29 = .ok (.iload_n 1, 1) := by decide +kernel
theorem dX7_place_30 : decode cX7_place 30 = .ok (.iaload, 1) := by decide +kernel
theorem dX7_place_31 : decode cX7_place 31 = .ok (.invokestatic 106, 3) := by decide +kernel
theorem dX7_place_34 : decode cX7_place 34 = .ok (.ireturn, 1) := by decide +kernel
theorem dX7_moved_0 : decode cX7_moved 0 = .ok (.iconst 0, 1) := by decide +kernel
theorem dX7_moved_1 : decode cX7_moved 1 = .ok (.istore_n 3, 1) := by decide +kernel
theorem dX7_moved_2 : decode cX7_moved 2 = .ok (.iload_n 3, 1) := by decide +kernel
theorem dX7_moved_3 : decode cX7_moved 3 = .ok (.aload_n 0, 1) := by decide +kernel
theorem dX7_moved_4 : decode cX7_moved 4 = .ok (.getfield 74, 3) := by decide +kernel
theorem dX7_moved_7 : decode cX7_moved 7 = .ok (.aload_n 0, 1) := by decide +kernel
theorem dX7_moved_8 : decode cX7_moved 8 = .ok (.getfield 78, 3) := by decide +kernel
theorem dX7_moved_11 : decode cX7_moved 11 = .ok (.imul, 1) := by decide +kernel
theorem dX7_moved_12 : decode cX7_moved 12 = .ok (.if_icmp .ge 88, 3) := by decide +kernel
theorem dX7_moved_15 : decode cX7_moved 15 = .ok (.iload_n 1, 1) := by decide +kernel
theorem dX7_moved_16 : decode cX7_moved 16 = .ok (.iload_n 3, 1) := by decide +kernel
theorem dX7_moved_17 : decode cX7_moved 17 = .ok (.ishr, 1) := by decide +kernel
theorem dX7_moved_18 : decode cX7_moved 18 = .ok (.iconst 1, 1) := by decide +kernel
theorem dX7_moved_19 : decode cX7_moved 19 = .ok (.iand, 1) := by decide +kernel
theorem dX7_moved_20 : decode cX7_moved 20 = .ok (.ifCond .ne 6, 3) := by decide +kernel
theorem dX7_moved_23 : decode cX7_moved 23 = .ok (.goto 71, 3) := by decide +kernel
theorem dX7_moved_26 : decode cX7_moved 26 = .ok (.iload_n 3, 1) := by decide +kernel
theorem dX7_moved_27 : decode cX7_moved 27 = .ok (.aload_n 0, 1) := by decide +kernel
theorem dX7_moved_28 : decode cX7_moved 28 = .ok (.getfield 74, 3) := by decide +kernel
theorem dX7_moved_31 : decode cX7_moved 31 = .ok (.irem, 1) := by decide +kernel
theorem dX7_moved_32 : decode cX7_moved 32 = .ok (.iload_n 2, 1) := by decide +kernel
theorem dX7_moved_33 : decode cX7_moved 33 = .ok (.ifCond .ne 7, 3) := by decide +kernel
theorem dX7_moved_36 : decode cX7_moved 36 = .ok (.iconst 1, 1) := by decide +kernel
theorem dX7_moved_37 : decode cX7_moved 37 = .ok (.goto 13, 3) := by decide +kernel
theorem dX7_moved_40 : decode cX7_moved 40 = .ok (.iload_n 2, 1) := by decide +kernel
theorem dX7_moved_41 : decode cX7_moved 41 = .ok (.iconst 2, 1) := by decide +kernel
theorem dX7_moved_42 : decode cX7_moved 42 = .ok (.if_icmp .ne 7, 3) := by decide +kernel
theorem dX7_moved_45 : decode cX7_moved 45 = .ok (.iconst (-1), 1) := by decide +kernel
theorem dX7_moved_46 : decode cX7_moved 46 = .ok (.goto 4, 3) := by decide +kernel
theorem dX7_moved_49 : decode cX7_moved 49 = .ok (.iconst 0, 1) := by decide +kernel
theorem dX7_moved_50 : decode cX7_moved 50 = .ok (.iadd, 1) := by decide +kernel
theorem dX7_moved_51 : decode cX7_moved 51 = .ok (.istore 4, 2) := by decide +kernel
theorem dX7_moved_53 : decode cX7_moved 53 = .ok (.iload_n 3, 1) := by decide +kernel
theorem dX7_moved_54 : decode cX7_moved 54 = .ok (.aload_n 0, 1) := by decide +kernel
theorem dX7_moved_55 : decode cX7_moved 55 = .ok (.getfield 74, 3) := by decide +kernel
theorem dX7_moved_58 : decode cX7_moved 58 = .ok (.idiv, 1) := by decide +kernel
theorem dX7_moved_59 : decode cX7_moved 59 = .ok (.iload_n 2, 1) := by decide +kernel
theorem dX7_moved_60 : decode cX7_moved 60 = .ok (.iconst 1, 1) := by decide +kernel
theorem dX7_moved_61 : decode cX7_moved 61 = .ok (.if_icmp .ne 7, 3) := by decide +kernel
theorem dX7_moved_64 : decode cX7_moved 64 = .ok (.iconst 1, 1) := by decide +kernel
theorem dX7_moved_65 : decode cX7_moved 65 = .ok (.goto 13, 3) := by decide +kernel
theorem dX7_moved_68 : decode cX7_moved 68 = .ok (.iload_n 2, 1) := by decide +kernel
theorem dX7_moved_69 : decode cX7_moved 69 = .ok (.iconst 3, 1) := by decide +kernel
theorem dX7_moved_70 : decode cX7_moved 70 = .ok (.if_icmp .ne 7, 3) := by decide +kernel
theorem dX7_moved_73 : decode cX7_moved 73 = .ok (.iconst (-1), 1) := by decide +kernel
theorem dX7_moved_74 : decode cX7_moved 74 = .ok (.goto 4, 3) := by decide +kernel
theorem dX7_moved_77 : decode cX7_moved 77 = .ok (.iconst 0, 1) := by decide +kernel
theorem dX7_moved_78 : decode cX7_moved 78 = .ok (.iadd, 1) := by decide +kernel
theorem dX7_moved_79 : decode cX7_moved 79 = .ok (.istore 5, 2) := by decide +kernel
theorem dX7_moved_81 : decode cX7_moved 81 = .ok (.aload_n 0, 1) := by decide +kernel
theorem dX7_moved_82 : decode cX7_moved 82 = .ok (.iload 4, 2) := by decide +kernel
theorem dX7_moved_84 : decode cX7_moved 84 = .ok (.iload 5, 2) := by decide +kernel
theorem dX7_moved_86 : decode cX7_moved 86 = .ok (.invokevirtual 90, 3) := by decide +kernel
theorem dX7_moved_89 : decode cX7_moved 89 = .ok (.ifCond .ne 5, 3) := by decide +kernel
theorem dX7_moved_92 : decode cX7_moved 92 = .ok (.iconst 0, 1) := by decide +kernel
theorem dX7_moved_93 : decode cX7_moved 93 = .ok (.ireturn, 1) := by decide +kernel
theorem dX7_moved_94 : decode cX7_moved 94 = .ok (.iinc 3 1, 3) := by decide +kernel
theorem dX7_moved_97 : decode cX7_moved 97 = .ok (.goto (-95), 3) := by decide +kernel
theorem dX7_moved_100 : decode cX7_moved 100 = .ok (.iload_n 2, 1) := by decide +kernel
theorem dX7_moved_101 : decode cX7_moved 101 = .ok (.iconst 2, 1) := by decide +kernel
theorem dX7_moved_102 : decode cX7_moved 102 = .ok (.irem, 1) := by decide +kernel
theorem dX7_moved_103 : decode cX7_moved 103 = .ok (.ifCond .ne 7, 3) := by decide +kernel
theorem dX7_moved_106 : decode cX7_moved 106 = .ok (.iconst 1, 1) := by decide +kernel
theorem dX7_moved_107 : decode cX7_moved 107 = .ok (.goto 7, 3) := by decide +kernel
theorem dX7_moved_110 : decode cX7_moved 110 = .ok (.aload_n 0, 1) := by decide +kernel
theorem dX7_moved_111 : decode cX7_moved 111 = .ok (.getfield 74, 3) := by decide +kernel
theorem dX7_moved_114 : decode cX7_moved 114 = .ok (.istore_n 3, 1) := by decide +kernel
theorem dX7_moved_115 : decode cX7_moved 115 = .ok (.iload_n 2, 1) := by decide +kernel
theorem dX7_moved_116 : decode cX7_moved 116 = .ok (.iconst 2, 1) := by decide +kernel
theorem dX7_moved_117 : decode cX7_moved 117 = .ok (.if_icmp .ge 9, 3) := by decide +kernel
theorem dX7_moved_120 : decode cX7_moved 120 = .ok (.iload_n 1, 1) := by decide +kernel
theorem dX7_moved_121 : decode cX7_moved 121 = .ok (.iload_n 3, 1) := by decide +kernel
theorem dX7_moved_122 : decode cX7_moved 122 = .ok (.ishl, 1) := by decide +kernel
theorem dX7_moved_123 : decode cX7_moved 123 = .ok (.goto 6, 3) := by decide +kernel
theorem dX7_moved_126 : decode cX7_moved 126 = .ok (.iload_n 1, 1) := by decide +kernel
theorem dX7_moved_127 : decode cX7_moved 127 = .ok (.iload_n 3, 1) := by decide +kernel
theorem dX7_moved_128 : decode cX7_moved 128 = .ok (.ishr, 1) := by decide +kernel
theorem dX7_moved_129 : decode cX7_moved 129 = .ok (.ireturn, 1) := by decide +kernel
theorem dX7_stepped_0 : decode cX7_stepped 0 = .ok (.aload_n 0, 1) := by decide +kernel
theorem dX7_stepped_1 : decode cX7_stepped 1 = .ok (.aload_n 1, 1) := by decide +kernel
theorem dX7_stepped_2 : decode cX7_stepped 2 = .ok (.iload_n 2, 1) := by decide +kernel
theorem dX7_stepped_3 : decode cX7_stepped 3 = .ok (.iaload, 1) := by decide +kernel
theorem dX7_stepped_4 : decode cX7_stepped 4 = .ok (.iload_n 3, 1) := by decide +kernel
theorem dX7_stepped_5 : decode cX7_stepped 5 = .ok (.invokevirtual 110, 3) := by decide +kernel
theorem dX7_stepped_8 : decode cX7_stepped 8 = .ok (.istore 4, 2) := by decide +kernel
theorem dX7_stepped_10 : decode cX7_stepped 10 = .ok (.aload_n 0, 1) := by decide +kernel
theorem dX7_stepped_11 : decode cX7_stepped 11 = .ok (.getfield 87, 3) := by decide +kernel
theorem dX7_stepped_14 : decode cX7_stepped 14 = .ok (.istore 5, 2) := by decide +kernel
theorem dX7_stepped_16 : decode cX7_stepped 16 = .ok (.iconst 0, 1) := by decide +kernel
theorem dX7_stepped_17 : decode cX7_stepped 17 = .ok (.istore 6, 2) := by decide +kernel
theorem dX7_stepped_19 : decode cX7_stepped 19 = .ok (.iload 6, 2) := by decide +kernel
theorem dX7_stepped_21 : decode cX7_stepped 21 = .ok (.aload_n 0, 1) := by decide +kernel
theorem dX7_stepped_22 : decode cX7_stepped 22 = .ok (.getfield 84, 3) := by decide +kernel
theorem dX7_stepped_25 : decode cX7_stepped 25 = .ok (.if_icmp .ge 28, 3) := by decide +kernel
theorem dX7_stepped_28 : decode cX7_stepped 28 = .ok (.iload 5, 2) := by decide +kernel
theorem dX7_stepped_30 : decode cX7_stepped 30 = .ok (.iload 6, 2) := by decide +kernel
theorem dX7_stepped_32 : decode cX7_stepped 32 = .ok (.iload_n 2, 1) := by decide +kernel
theorem dX7_stepped_33 : decode cX7_stepped 33 = .ok (.if_icmp .ne 7, 3) := by decide +kernel
theorem dX7_stepped_36 : decode cX7_stepped 36 = .ok (.iconst 0, 1) := by decide +kernel
theorem dX7_stepped_37 : decode cX7_stepped 37 = .ok (.goto 7, 3) := by decide +kernel
theorem dX7_stepped_40 : decode cX7_stepped 40 = .ok (.aload_n 1, 1) := by decide +kernel
theorem dX7_stepped_41 : decode cX7_stepped 41 = .ok (.iload 6, 2) := by decide +kernel
theorem dX7_stepped_43 : decode cX7_stepped 43 = .ok (.iaload, 1) := by decide +kernel
theorem dX7_stepped_44 : decode cX7_stepped 44 = .ok (.ior, 1) := by decide +kernel
theorem dX7_stepped_45 : decode cX7_stepped 45 = .ok (.istore 5, 2) := by decide +kernel
theorem dX7_stepped_47 : decode cX7_stepped 47 = .ok (.iinc 6 1, 3) := by decide +kernel
theorem dX7_stepped_50 : decode cX7_stepped 50 = .ok (.goto (-31), 3) := by decide +kernel
theorem dX7_stepped_53 : decode cX7_stepped 53 = .ok (.iload 4, 2) := by decide +kernel
theorem dX7_stepped_55 : decode cX7_stepped 55 = .ok (.iload 5, 2) := by decide +kernel
theorem dX7_stepped_57 : decode cX7_stepped 57 = .ok (.iand, 1) := by decide +kernel
theorem dX7_stepped_58 : decode cX7_stepped 58 = .ok (.ifCond .eq 7, 3) := by decide +kernel
theorem dX7_stepped_61 : decode cX7_stepped 61 = .ok (.iconst 0, 1) := by decide +kernel
theorem dX7_stepped_62 : decode cX7_stepped 62 = .ok (.goto 5, 3) := by decide +kernel
theorem dX7_stepped_65 : decode cX7_stepped 65 = .ok (.iload 4, 2) := by decide +kernel
theorem dX7_stepped_67 : decode cX7_stepped 67 = .ok (.ireturn, 1) := by decide +kernel
theorem dX7_slide_0 : decode cX7_slide 0 = .ok (.aload_n 0, 1) := by decide +kernel
theorem dX7_slide_1 : decode cX7_slide 1 = .ok (.iconst 1, 1) := by decide +kernel
theorem dX7_slide_2 : decode cX7_slide 2 = .ok (.aload_n 0, 1) := by decide +kernel
theorem dX7_slide_3 : decode cX7_slide 3 = .ok (.iload_n 1, 1) := by decide +kernel
theorem dX7_slide_4 : decode cX7_slide 4 = .ok (.invokevirtual 102, 3) := by decide +kernel
theorem dX7_slide_7 : decode cX7_slide 7 = .ok (.ifCond .eq 12, 3) := by decide +kernel
theorem dX7_slide_10 : decode cX7_slide 10 = .ok (.iload_n 2, 1) := by decide +kernel
theorem dX7_slide_11 : decode cX7_slide 11 = .ok (.ifCond .lt 8, 3) := by decide +kernel
theorem dX7_slide_14 : decode cX7_slide 14 = .ok (.iload_n 2, 1) := by decide +kernel
theorem dX7_slide_15 : decode cX7_slide 15 = .ok (.iconst 3, 1) := by decide +kernel
theorem dX7_slide_16 : decode cX7_slide 16 = .ok (.if_icmp .le 7, 3) := by decide +kernel
theorem dX7_slide_19 : decode cX7_slide 19 = .ok (.iconst 1, 1) := by decide +kernel
theorem dX7_slide_20 : decode cX7_slide 20 = .ok (.goto 4, 3) := by decide +kernel
theorem dX7_slide_23 : decode cX7_slide 23 = .ok (.iconst 0, 1) := by decide +kernel
theorem dX7_slide_24 : decode cX7_slide 24 = .ok (.invokevirtual 94, 3) := by decide +kernel
theorem dX7_slide_27 : decode cX7_slide 27 = .ok (.ifCond .eq 5, 3) := by decide +kernel
theorem dX7_slide_30 : decode cX7_slide 30 = .ok (.iconst 0, 1) := by decide +kernel
theorem dX7_slide_31 : decode cX7_slide 31 = .ok (.ireturn, 1) := by decide +kernel
theorem dX7_slide_32 : decode cX7_slide 32 = .ok (.iconst 0, 1) := by decide +kernel
theorem dX7_slide_33 : decode cX7_slide 33 = .ok (.istore 4, 2) := by decide +kernel
theorem dX7_slide_35 : decode cX7_slide 35 = .ok (.iload 4, 2) := by decide +kernel
theorem dX7_slide_37 : decode cX7_slide 37 = .ok (.iload_n 3, 1) := by decide +kernel
theorem dX7_slide_38 : decode cX7_slide 38 = .ok (.if_icmp .ge 7, 3) := by decide +kernel
theorem dX7_slide_41 : decode cX7_slide 41 = .ok (.iconst 1, 1) := by decide +kernel
theorem dX7_slide_42 : decode cX7_slide 42 = .ok (.goto 4, 3) := by decide +kernel
theorem dX7_slide_45 : decode cX7_slide 45 = .ok (.iconst 0, 1) := by decide +kernel
theorem dX7_slide_46 : decode cX7_slide 46 = .ok (.istore 5, 2) := by decide +kernel
theorem dX7_slide_48 : decode cX7_slide 48 = .ok (.iload 5, 2) := by decide +kernel
theorem dX7_slide_50 : decode cX7_slide 50 = .ok (.ifCond .eq 62, 3) := by decide +kernel
theorem dX7_slide_53 : decode cX7_slide 53 = .ok (.aload_n 0, 1) := by decide +kernel
theorem dX7_slide_54 : decode cX7_slide 54 = .ok (.aload_n 0, 1) := by decide +kernel
theorem dX7_slide_55 : decode cX7_slide 55 = .ok (.getfield 13, 3) := by decide +kernel
theorem dX7_slide_58 : decode cX7_slide 58 = .ok (.iload_n 1, 1) := by decide +kernel
theorem dX7_slide_59 : decode cX7_slide 59 = .ok (.iload_n 2, 1) := by decide +kernel
theorem dX7_slide_60 : decode cX7_slide 60 = .ok (.invokevirtual 114, 3) := by decide +kernel
theorem dX7_slide_63 : decode cX7_slide 63 = .ok (.istore 6, 2) := by decide +kernel
theorem dX7_slide_65 : decode cX7_slide 65 = .ok (.iload 6, 2) := by decide +kernel
theorem dX7_slide_67 : decode cX7_slide 67 = .ok (.ifCond .eq 7, 3) := by decide +kernel
theorem dX7_slide_70 : decode cX7_slide 70 = .ok (.iconst 1, 1) := by decide +kernel
theorem dX7_slide_71 : decode cX7_slide 71 = .ok (.goto 4, 3) := by decide +kernel
theorem dX7_slide_74 : decode cX7_slide 74 = .ok (.iconst 0, 1) := by decide +kernel
theorem dX7_slide_75 : decode cX7_slide 75 = .ok (.istore 5, 2) := by decide +kernel
theorem dX7_slide_77 : decode cX7_slide 77 = .ok (.iload 5, 2) := by decide +kernel
theorem dX7_slide_79 : decode cX7_slide 79 = .ok (.ifCond .ne 6, 3) := by decide +kernel
theorem dX7_slide_82 : decode cX7_slide 82 = .ok (.goto (-34), 3) := by decide +kernel
theorem dX7_slide_85 : decode cX7_slide 85 = .ok (.aload_n 0, 1) := by decide +kernel
theorem dX7_slide_86 : decode cX7_slide 86 = .ok (.getfield 13, 3) := by decide +kernel
theorem dX7_slide_89 : decode cX7_slide 89 = .ok (.iload_n 1, 1) := by decide +kernel
theorem dX7_slide_90 : decode cX7_slide 90 = .ok (.iload 6, 2) := by decide +kernel
theorem dX7_slide_92 : decode cX7_slide 92 = .ok (.iastore, 1) := by decide +kernel
theorem dX7_slide_93 : decode cX7_slide 93 = .ok (.iinc 4 1, 3) := by decide +kernel
theorem dX7_slide_96 : decode cX7_slide 96 = .ok (.iload 4, 2) := by decide +kernel
theorem dX7_slide_98 : decode cX7_slide 98 = .ok (.iload_n 3, 1) := by decide +kernel
theorem dX7_slide_99 : decode cX7_slide 99 = .ok (.if_icmp .ge 7, 3) := by decide +kernel
theorem dX7_slide_102 : decode cX7_slide 102 = .ok (.iconst 1, 1) := by decide +kernel
theorem dX7_slide_103 : decode cX7_slide 103 = .ok (.goto 4, 3) := by decide +kernel
theorem dX7_slide_106 : decode cX7_slide 106 = .ok (.iconst 0, 1) := by decide +kernel
theorem dX7_slide_107 : decode cX7_slide 107 = .ok (.istore 5, 2) := by decide +kernel
theorem dX7_slide_109 : decode cX7_slide 109 = .ok (.goto (-61), 3) := by decide +kernel
theorem dX7_slide_112 : decode cX7_slide 112 = .ok (.iload 4, 2) := by decide +kernel
theorem dX7_slide_114 : decode cX7_slide 114 = .ok (.ireturn, 1) := by decide +kernel
theorem dX7_goal_0 : decode cX7_goal 0 = .ok (.aload_n 0, 1) := by decide +kernel
theorem dX7_goal_1 : decode cX7_goal 1 = .ok (.iconst 1, 1) := by decide +kernel
theorem dX7_goal_2 : decode cX7_goal 2 = .ok (.aload_n 0, 1) := by decide +kernel
theorem dX7_goal_3 : decode cX7_goal 3 = .ok (.iload_n 1, 1) := by decide +kernel
theorem dX7_goal_4 : decode cX7_goal 4 = .ok (.invokevirtual 102, 3) := by decide +kernel
theorem dX7_goal_7 : decode cX7_goal 7 = .ok (.ifCond .eq 12, 3) := by decide +kernel
theorem dX7_goal_10 : decode cX7_goal 10 = .ok (.aload_n 0, 1) := by decide +kernel
theorem dX7_goal_11 : decode cX7_goal 11 = .ok (.iload_n 2, 1) := by decide +kernel
theorem dX7_goal_12 : decode cX7_goal 12 = .ok (.iload_n 3, 1) := by decide +kernel
theorem dX7_goal_13 : decode cX7_goal 13 = .ok (.invokevirtual 90, 3) := by decide +kernel
theorem dX7_goal_16 : decode cX7_goal 16 = .ok (.ifCond .ne 7, 3) := by decide +kernel
theorem dX7_goal_19 : decode cX7_goal 19 = .ok (.iconst 1, 1) := by decide +kernel
theorem dX7_goal_20 : decode cX7_goal 20 = .ok (.goto 4, 3) := by decide +kernel
theorem dX7_goal_23 : decode cX7_goal 23 = .ok (.iconst 0, 1) := by decide +kernel
theorem dX7_goal_24 : decode cX7_goal 24 = .ok (.invokevirtual 94, 3) := by decide +kernel
theorem dX7_goal_27 : decode cX7_goal 27 = .ok (.ifCond .eq 5, 3) := by decide +kernel
theorem dX7_goal_30 : decode cX7_goal 30 = .ok (.iconst 0, 1) := by decide +kernel
theorem dX7_goal_31 : decode cX7_goal 31 = .ok (.ireturn, 1) := by decide +kernel
theorem dX7_goal_32 : decode cX7_goal 32 = .ok (.aload_n 0, 1) := by decide +kernel
theorem dX7_goal_33 : decode cX7_goal 33 = .ok (.iload_n 1, 1) := by decide +kernel
theorem dX7_goal_34 : decode cX7_goal 34 = .ok (.iload_n 2, 1) := by decide +kernel
theorem dX7_goal_35 : decode cX7_goal 35 = .ok (.iload_n 3, 1) := by decide +kernel
theorem dX7_goal_36 : decode cX7_goal 36 = .ok (.invokevirtual 118, 3) := by decide +kernel
theorem dX7_goal_39 : decode cX7_goal 39 = .ok (.ireturn, 1) := by decide +kernel
theorem dX7_kindGoal_0 : decode cX7_kindGoal 0 = .ok (.aload_n 0, 1) := by decide +kernel
theorem dX7_kindGoal_1 : decode cX7_kindGoal 1 = .ok (.iconst 1, 1) := by decide +kernel
theorem dX7_kindGoal_2 : decode cX7_kindGoal 2 = .ok (.aload_n 0, 1) := by decide +kernel
theorem dX7_kindGoal_3 : decode cX7_kindGoal 3 = .ok (.iload_n 2, 1) := by decide +kernel
theorem dX7_kindGoal_4 : decode cX7_kindGoal 4 = .ok (.iload_n 3, 1) := by decide +kernel
theorem dX7_kindGoal_5 : decode cX7_kindGoal 5 = .ok (.invokevirtual 90, 3) := by decide +kernel
theorem dX7_kindGoal_8 : decode cX7_kindGoal 8 = .ok (.ifCond .ne 7, 3) := by decide +kernel
theorem dX7_kindGoal_11 : decode cX7_kindGoal 11 = .ok (.iconst 1, 1) := by decide +kernel
theorem dX7_kindGoal_12 : decode cX7_kindGoal 12 = .ok (.goto 4, 3) := by decide +kernel
theorem dX7_kindGoal_15 : decode cX7_kindGoal 15 = .ok (.iconst 0, 1) := by decide +kernel
theorem dX7_kindGoal_16 : decode cX7_kindGoal 16 = .ok (.invokevirtual 94, 3) := by decide +kernel
theorem dX7_kindGoal_19 : decode cX7_kindGoal 19 = .ok (.ifCond .ne 26, 3) := by decide +kernel
theorem dX7_kindGoal_22 : decode cX7_kindGoal 22 = .ok (.aload_n 0, 1) := by decide +kernel
theorem dX7_kindGoal_23 : decode cX7_kindGoal 23 = .ok (.iconst 2, 1) := by decide +kernel
theorem dX7_kindGoal_24 : decode cX7_kindGoal 24 = .ok (.iload_n 1, 1) := by decide +kernel
theorem dX7_kindGoal_25 : decode cX7_kindGoal 25 = .ok (.ifCond .lt 9, 3) := by decide +kernel
theorem dX7_kindGoal_28 : decode cX7_kindGoal 28 = .ok (.iload_n 1, 1) := by decide +kernel
theorem dX7_kindGoal_29 : decode cX7_kindGoal 29 = .ok (.bipush 25, 2) := by decide +kernel
theorem dX7_kindGoal_31 : decode cX7_kindGoal 31 = .ok (.if_icmp .le 7, 3) := by decide +kernel
theorem dX7_kindGoal_34 : decode cX7_kindGoal 34 = .ok (.iconst 1, 1) := by decide +kernel
theorem dX7_kindGoal_35 : decode cX7_kindGoal 35 = .ok (.goto 4, 3) := by decide +kernel
theorem dX7_kindGoal_38 : decode cX7_kindGoal 38 = .ok (.iconst 0, 1) := by decide +kernel
theorem dX7_kindGoal_39 : decode cX7_kindGoal 39 = .ok (.invokevirtual 94, 3) := by decide +kernel
theorem dX7_kindGoal_42 : decode cX7_kindGoal 42 = .ok (.ifCond .eq 5, 3) := by decide +kernel
theorem dX7_kindGoal_45 : decode cX7_kindGoal 45 = .ok (.iconst 0, 1) := by decide +kernel
theorem dX7_kindGoal_46 : decode cX7_kindGoal 46 = .ok (.ireturn, 1) := by decide +kernel
theorem dX7_kindGoal_47 : decode cX7_kindGoal 47 = .ok (.aload_n 0, 1) := by decide +kernel
theorem dX7_kindGoal_48 : decode cX7_kindGoal 48 = .ok (.bipush 100, 2) := by decide +kernel
theorem dX7_kindGoal_50 : decode cX7_kindGoal 50 = .ok (.iload_n 1, 1) := by decide +kernel
theorem dX7_kindGoal_51 : decode cX7_kindGoal 51 = .ok (.iadd, 1) := by decide +kernel
theorem dX7_kindGoal_52 : decode cX7_kindGoal 52 = .ok (.iload_n 2, 1) := by decide +kernel
theorem dX7_kindGoal_53 : decode cX7_kindGoal 53 = .ok (.iload_n 3, 1) := by decide +kernel
theorem dX7_kindGoal_54 : decode cX7_kindGoal 54 = .ok (.invokevirtual 118, 3) := by decide +kernel
theorem dX7_kindGoal_57 : decode cX7_kindGoal 57 = .ok (.ireturn, 1) := by decide +kernel
theorem dX7_addGoal_0 : decode cX7_addGoal 0 = .ok (.aload_n 0, 1) := by decide +kernel
theorem dX7_addGoal_1 : decode cX7_addGoal 1 = .ok (.getfield 122, 3) := by decide +kernel
theorem dX7_addGoal_4 : decode cX7_addGoal 4 = .ok (.bipush 6, 2) := by decide +kernel
theorem dX7_addGoal_6 : decode cX7_addGoal 6 = .ok (.if_icmp .ne 5, 3) := by decide +kernel
theorem dX7_addGoal_9 : decode cX7_addGoal 9 = .ok (.iconst (-1), 1) := by decide +kernel
theorem dX7_addGoal_10 : decode cX7_addGoal 10 = .ok (.ireturn, 1) := by decide +kernel
theorem dX7_addGoal_11 : decode cX7_addGoal 11 = .ok (.aload_n 0, 1) := by decide +kernel
theorem dX7_addGoal_12 : decode cX7_addGoal 12 = .ok (.getfield 16, 3) := by decide +kernel
theorem dX7_addGoal_15 : decode cX7_addGoal 15 = .ok (.aload_n 0, 1) := by decide +kernel
theorem dX7_addGoal_16 : decode cX7_addGoal 16 = .ok (.getfield 122, 3) := by decide +kernel
theorem dX7_addGoal_19 : decode cX7_addGoal 19 = .ok (.iload_n 1, 1) := by decide +kernel
theorem dX7_addGoal_20 : decode cX7_addGoal 20 = .ok (.iastore, 1) := by decide +kernel
theorem dX7_addGoal_21 : decode cX7_addGoal 21 = .ok (.aload_n 0, 1) := by decide +kernel
theorem dX7_addGoal_22 : decode cX7_addGoal 22 = .ok (.getfield 19, 3) := by decide +kernel
theorem dX7_addGoal_25 : decode cX7_addGoal 25 = .ok (.aload_n 0, 1) := by decide +kernel
theorem dX7_addGoal_26 : decode cX7_addGoal 26 = .ok (.getfield 122, 3) := by decide +kernel
theorem dX7_addGoal_29 : decode cX7_addGoal 29 = .ok (.aload_n 0, 1) := by decide +kernel
theorem dX7_addGoal_30 : decode cX7_addGoal 30 = .ok (.getfield 74, 3) := by decide +kernel
theorem dX7_addGoal_33 : decode cX7_addGoal 33 = .ok (.iload_n 3, 1) := by decide +kernel
theorem dX7_addGoal_34 : decode cX7_addGoal 34 = .ok (.imul, 1) := by decide +kernel
theorem dX7_addGoal_35 : decode cX7_addGoal 35 = .ok (.iload_n 2, 1) := by decide +kernel
theorem dX7_addGoal_36 : decode cX7_addGoal 36 = .ok (.iadd, 1) := by decide +kernel
theorem dX7_addGoal_37 : decode cX7_addGoal 37 = .ok (.iastore, 1) := by decide +kernel
theorem dX7_addGoal_38 : decode cX7_addGoal 38 = .ok (.aload_n 0, 1) := by decide +kernel
theorem dX7_addGoal_39 : decode cX7_addGoal 39 = .ok (.dup, 1) := by decide +kernel
theorem dX7_addGoal_40 : decode cX7_addGoal 40 = .ok (.getfield 122, 3) := by decide +kernel
theorem dX7_addGoal_43 : decode cX7_addGoal 43 = .ok (.iconst 1, 1) := by decide +kernel
theorem dX7_addGoal_44 : decode cX7_addGoal 44 = .ok (.iadd, 1) := by decide +kernel
theorem dX7_addGoal_45 : decode cX7_addGoal 45 = .ok (.putfield 122, 3) := by decide +kernel
theorem dX7_addGoal_48 : decode cX7_addGoal 48 = .ok (.aload_n 0, 1) := by decide +kernel
theorem dX7_addGoal_49 : decode cX7_addGoal 49 = .ok (.getfield 122, 3) := by decide +kernel
theorem dX7_addGoal_52 : decode cX7_addGoal 52 = .ok (.iconst 1, 1) := by decide +kernel
theorem dX7_addGoal_53 : decode cX7_addGoal 53 = .ok (.isub, 1) := by decide +kernel
theorem dX7_addGoal_54 : decode cX7_addGoal 54 = .ok (.ireturn, 1) := by decide +kernel
theorem dX7_noGoals_0 : decode cX7_noGoals 0 = .ok (.aload_n 0, 1) := by decide +kernel
theorem dX7_noGoals_1 : decode cX7_noGoals 1 = .ok (.iconst 0, 1) := by decide +kernel
theorem dX7_noGoals_2 : decode cX7_noGoals 2 = .ok (.putfield 81, 3) := by decide +kernel
theorem dX7_noGoals_5 : decode cX7_noGoals 5 = .ok (.aload_n 0, 1) := by decide +kernel
theorem dX7_noGoals_6 : decode cX7_noGoals 6 = .ok (.getfield 122, 3) := by decide +kernel
theorem dX7_noGoals_9 : decode cX7_noGoals 9 = .ok (.istore_n 1, 1) := by decide +kernel
theorem dX7_noGoals_10 : decode cX7_noGoals 10 = .ok (.aload_n 0, 1) := by decide +kernel
theorem dX7_noGoals_11 : decode cX7_noGoals 11 = .ok (.iconst 0, 1) := by decide +kernel
theorem dX7_noGoals_12 : decode cX7_noGoals 12 = .ok (.putfield 122, 3) := by decide +kernel
theorem dX7_noGoals_15 : decode cX7_noGoals 15 = .ok (.iload_n 1, 1) := by decide +kernel
theorem dX7_noGoals_16 : decode cX7_noGoals 16 = .ok (.ireturn, 1) := by decide +kernel
theorem dX7_isMet_0 : decode cX7_isMet 0 = .ok (.iconst 0, 1) := by decide +kernel
theorem dX7_isMet_1 : decode cX7_isMet 1 = .ok (.istore_n 3, 1) := by decide +kernel
theorem dX7_isMet_2 : decode cX7_isMet 2 = .ok (.iload_n 3, 1) := by decide +kernel
theorem dX7_isMet_3 : decode cX7_isMet 3 = .ok (.aload_n 0, 1) := by decide +kernel
theorem dX7_isMet_4 : decode cX7_isMet 4 = .ok (.getfield 84, 3) := by decide +kernel
theorem dX7_isMet_7 : decode cX7_isMet 7 = .ok (.if_icmp .ge 54, 3) := by decide +kernel
theorem dX7_isMet_10 : decode cX7_isMet 10 = .ok (.aload_n 0, 1) := by decide +kernel
theorem dX7_isMet_11 : decode cX7_isMet 11 = .ok (.getfield 16, 3) := by decide +kernel
theorem dX7_isMet_14 : decode cX7_isMet 14 = .ok (.iload_n 1, 1) := by decide +kernel
theorem dX7_isMet_15 : decode cX7_isMet 15 = .ok (.iaload, 1) := by decide +kernel
theorem dX7_isMet_16 : decode cX7_isMet 16 = .ok (.iload_n 3, 1) := by decide +kernel
theorem dX7_isMet_17 : decode cX7_isMet 17 = .ok (.if_icmp .eq 21, 3) := by decide +kernel
theorem dX7_isMet_20 : decode cX7_isMet 20 = .ok (.aload_n 0, 1) := by decide +kernel
theorem dX7_isMet_21 : decode cX7_isMet 21 = .ok (.getfield 16, 3) := by decide +kernel
theorem dX7_isMet_24 : decode cX7_isMet 24 = .ok (.iload_n 1, 1) := by decide +kernel
theorem dX7_isMet_25 : decode cX7_isMet 25 = .ok (.iaload, 1) := by decide +kernel
theorem dX7_isMet_26 : decode cX7_isMet 26 = .ok (.bipush 100, 2) := by decide +kernel
theorem dX7_isMet_28 : decode cX7_isMet 28 = .ok (.aload_n 0, 1) := by decide +kernel
theorem dX7_isMet_29 : decode cX7_isMet 29 = .ok (.getfield 7, 3) := by decide +kernel
theorem dX7_isMet_32 : decode cX7_isMet 32 = .ok (.iload_n 3, 1) := by decide +kernel
theorem dX7_isMet_33 : decode cX7_isMet 33 = .ok (.iaload, 1) := by decide +kernel
theorem dX7_isMet_34 : decode cX7_isMet 34 = .ok (.iadd, 1) := by decide +kernel
theorem dX7_isMet_35 : decode cX7_isMet 35 = .ok (.if_icmp .ne 20, 3) := by decide +kernel
theorem dX7_isMet_38 : decode cX7_isMet 38 = .ok (.aload_n 2, 1) := by decide +kernel
theorem dX7_isMet_39 : decode cX7_isMet 39 = .ok (.iload_n 3, 1) := by decide +kernel
theorem dX7_isMet_40 : decode cX7_isMet 40 = .ok (.iaload, 1) := by decide +kernel
theorem dX7_isMet_41 : decode cX7_isMet 41 = .ok (.invokestatic 106, 3) := by decide +kernel
theorem dX7_isMet_44 : decode cX7_isMet 44 = .ok (.aload_n 0, 1) := by decide +kernel
theorem dX7_isMet_45 : decode cX7_isMet 45 = .ok (.getfield 19, 3) := by decide +kernel
theorem dX7_isMet_48 : decode cX7_isMet 48 = .ok (.iload_n 1, 1) := by decide +kernel
theorem dX7_isMet_49 : decode cX7_isMet 49 = .ok (.iaload, 1) := by decide +kernel
theorem dX7_isMet_50 : decode cX7_isMet 50 = .ok (.if_icmp .ne 5, 3) := by decide +kernel
theorem dX7_isMet_53 : decode cX7_isMet 53 = .ok (.iconst 1, 1) := by decide +kernel
theorem dX7_isMet_54 : decode cX7_isMet 54 = .ok (.ireturn, 1) := by decide +kernel
theorem dX7_isMet_55 : decode cX7_isMet 55 = .ok (.iinc 3 1, 3) := by decide +kernel
theorem dX7_isMet_58 : decode cX7_isMet 58 = .ok (.goto (-56), 3) := by decide +kernel
theorem dX7_isMet_61 : decode cX7_isMet 61 = .ok (.iconst 0, 1) := by decide +kernel
theorem dX7_isMet_62 : decode cX7_isMet 62 = .ok (.ireturn, 1) := by decide +kernel
theorem dX7_openIn_0 : decode cX7_openIn 0 = .ok (.iconst 0, 1) := by decide +kernel
theorem dX7_openIn_1 : decode cX7_openIn 1 = .ok (.istore_n 2, 1) := by decide +kernel
theorem dX7_openIn_2 : decode cX7_openIn 2 = .ok (.iload_n 2, 1) := by decide +kernel
theorem dX7_openIn_3 : decode cX7_openIn 3 = .ok (.aload_n 0, 1) := by decide +kernel
theorem dX7_openIn_4 : decode cX7_openIn 4 = .ok (.getfield 122, 3) := by decide +kernel
theorem dX7_openIn_7 : decode cX7_openIn 7 = .ok (.if_icmp .ge 20, 3) := by decide +kernel
theorem dX7_openIn_10 : decode cX7_openIn 10 = .ok (.aload_n 0, 1) := by decide +kernel
theorem dX7_openIn_11 : decode cX7_openIn 11 = .ok (.iload_n 2, 1) := by decide +kernel
theorem dX7_openIn_12 : decode cX7_openIn 12 = .ok (.aload_n 1, 1) := by decide +kernel
theorem dX7_openIn_13 : decode cX7_openIn 13 = .ok (.invokevirtual 125, 3) := by decide +kernel
theorem dX7_openIn_16 : decode cX7_openIn 16 = .ok (.ifCond .ne 5, 3) := by decide +kernel
theorem dX7_openIn_19 : decode cX7_openIn 19 = .ok (.iload_n 2, 1) := by decide +kernel
theorem dX7_openIn_20 : decode cX7_openIn 20 = .ok (.ireturn, 1) := by decide +kernel
theorem dX7_openIn_21 : decode cX7_openIn 21 = .ok (.iinc 2 1, 3) := by decide +kernel
theorem dX7_openIn_24 : decode cX7_openIn 24 = .ok (.goto (-22), 3) := by decide +kernel
theorem dX7_openIn_27 : decode cX7_openIn 27 = .ok (.iconst (-1), 1) := by decide +kernel
theorem dX7_openIn_28 : decode cX7_openIn 28 = .ok (.ireturn, 1) := by decide +kernel
theorem dX7_open_0 : decode cX7_open 0 = .ok (.aload_n 0, 1) := by decide +kernel
theorem dX7_open_1 : decode cX7_open 1 = .ok (.iconst 0, 1) := by decide +kernel
theorem dX7_open_2 : decode cX7_open 2 = .ok (.putfield 81, 3) := by decide +kernel
theorem dX7_open_5 : decode cX7_open 5 = .ok (.aload_n 0, 1) := by decide +kernel
theorem dX7_open_6 : decode cX7_open 6 = .ok (.aload_n 0, 1) := by decide +kernel
theorem dX7_open_7 : decode cX7_open 7 = .ok (.getfield 13, 3) := by decide +kernel
theorem dX7_open_10 : decode cX7_open 10 = .ok (.invokevirtual 129, 3) := by decide +kernel
theorem dX7_open_13 : decode cX7_open 13 = .ok (.ireturn, 1) := by decide +kernel
theorem dX7_isShape_0 : decode cX7_isShape 0 = .ok (.iload_n 1, 1) := by decide +kernel
theorem dX7_isShape_1 : decode cX7_isShape 1 = .ok (.ifCond .eq 7, 3) := by decide +kernel
theorem dX7_isShape_4 : decode cX7_isShape 4 = .ok (.iload_n 2, 1) := by decide +kernel
theorem dX7_isShape_5 : decode cX7_isShape 5 = .ok (.ifCond .ne 14, 3) := by decide +kernel
theorem dX7_isShape_8 : decode cX7_isShape 8 = .ok (.iload_n 1, 1) := by decide +kernel
theorem dX7_isShape_9 : decode cX7_isShape 9 = .ok (.iload_n 2, 1) := by decide +kernel
theorem dX7_isShape_10 : decode cX7_isShape 10 = .ok (.if_icmp .ne 7, 3) := by decide +kernel
theorem dX7_isShape_13 : decode cX7_isShape 13 = .ok (.iconst 1, 1) := by decide +kernel
theorem dX7_isShape_14 : decode cX7_isShape 14 = .ok (.goto 4, 3) := by decide +kernel
theorem dX7_isShape_17 : decode cX7_isShape 17 = .ok (.iconst 0, 1) := by decide +kernel
theorem dX7_isShape_18 : decode cX7_isShape 18 = .ok (.ireturn, 1) := by decide +kernel
theorem dX7_isShape_19 : decode cX7_isShape 19 = .ok (.iload_n 1, 1) := by decide +kernel
theorem dX7_isShape_20 : decode cX7_isShape 20 = .ok (.invokestatic 106, 3) := by decide +kernel
theorem dX7_isShape_23 : decode cX7_isShape 23 = .ok (.istore_n 3, 1) := by decide +kernel
theorem dX7_isShape_24 : decode cX7_isShape 24 = .ok (.iload_n 2, 1) := by decide +kernel
theorem dX7_isShape_25 : decode cX7_isShape 25 = .ok (.invokestatic 106, 3) := by decide +kernel
theorem dX7_isShape_28 : decode cX7_isShape 28 = .ok (.istore 4, 2) := by decide +kernel
theorem dX7_isShape_30 : decode cX7_isShape 30 = .ok (.aload_n 0, 1) := by decide +kernel
theorem dX7_isShape_31 : decode cX7_isShape 31 = .ok (.getfield 78, 3) := by decide +kernel
theorem dX7_isShape_34 : decode cX7_isShape 34 = .ok (.ineg, 1) := by decide +kernel
theorem dX7_isShape_35 : decode cX7_isShape 35 = .ok (.istore 5, 2) := by decide +kernel
theorem dX7_isShape_37 : decode cX7_isShape 37 = .ok (.iload 5, 2) := by decide +kernel
theorem dX7_isShape_39 : decode cX7_isShape 39 = .ok (.aload_n 0, 1) := by decide +kernel
theorem dX7_isShape_40 : decode cX7_isShape 40 = .ok (.getfield 78, 3) := by decide +kernel
theorem dX7_isShape_43 : decode cX7_isShape 43 = .ok (.if_icmp .gt 57, 3) := by decide +kernel
theorem dX7_isShape_46 : decode cX7_isShape 46 = .ok (.aload_n 0, 1) := by decide +kernel
theorem dX7_isShape_47 : decode cX7_isShape 47 = .ok (.getfield 74, 3) := by decide +kernel
theorem dX7_isShape_50 : decode cX7_isShape 50 = .ok (.ineg, 1) := by decide +kernel
theorem dX7_isShape_51 : decode cX7_isShape 51 = .ok (.istore 6, 2) := by decide +kernel
theorem dX7_isShape_53 : decode cX7_isShape 53 = .ok (.iload 6, 2) := by decide +kernel
theorem dX7_isShape_55 : decode cX7_isShape 55 = .ok (.aload_n 0, 1) := by decide +kernel
theorem dX7_isShape_56 : decode cX7_isShape 56 = .ok (.getfield 74, 3) := by decide +kernel
theorem dX7_isShape_59 : decode cX7_isShape 59 = .ok (.if_icmp .gt 35, 3) := by decide +kernel
theorem dX7_isShape_62 : decode cX7_isShape 62 = .ok (.aload_n 0, 1) := by decide +kernel
theorem dX7_isShape_63 : decode cX7_isShape 63 = .ok (.iload_n 1, 1) := by decide +kernel
theorem dX7_isShape_64 : decode cX7_isShape 64 = .ok (.iload_n 3, 1) := by decide +kernel
theorem dX7_isShape_65 : decode cX7_isShape 65 = .ok (.iload 6, 2) := by decide +kernel
theorem dX7_isShape_67 : decode cX7_isShape 67 = .ok (.iload 5, 2) := by decide +kernel
theorem dX7_isShape_69 : decode cX7_isShape 69 = .ok (.invokevirtual 133, 3) := by decide +kernel
theorem dX7_isShape_72 : decode cX7_isShape 72 = .ok (.aload_n 0, 1) := by decide +kernel
theorem dX7_isShape_73 : decode cX7_isShape 73 = .ok (.iload_n 2, 1) := by decide +kernel
theorem dX7_isShape_74 : decode cX7_isShape 74 = .ok (.iload 4, 2) := by decide +kernel
theorem dX7_isShape_76 : decode cX7_isShape 76 = .ok (.iload 6, 2) := by decide +kernel
theorem dX7_isShape_78 : decode cX7_isShape 78 = .ok (.iload 5, 2) := by decide +kernel
theorem dX7_isShape_80 : decode cX7_isShape 80 = .ok (.invokevirtual 133, 3) := by decide +kernel
theorem dX7_isShape_83 : decode cX7_isShape 83 = .ok (.if_icmp .eq 5, 3) := by decide +kernel
theorem dX7_isShape_86 : decode cX7_isShape 86 = .ok (.iconst 0, 1) := by decide +kernel
theorem dX7_isShape_87 : decode cX7_isShape 87 = .ok (.ireturn, 1) := by decide +kernel
theorem dX7_isShape_88 : decode cX7_isShape 88 = .ok (.iinc 6 1, 3) := by decide +kernel
theorem dX7_isShape_91 : decode cX7_isShape 91 = .ok (.goto (-38), 3) := by decide +kernel
theorem dX7_isShape_94 : decode cX7_isShape 94 = .ok (.iinc 5 1, 3) := by decide +kernel
theorem dX7_isShape_97 : decode cX7_isShape 97 = .ok (.goto (-60), 3) := by decide +kernel
theorem dX7_isShape_100 : decode cX7_isShape 100 = .ok (.iconst 1, 1) := by decide +kernel
theorem dX7_isShape_101 : decode cX7_isShape 101 = .ok (.ireturn, 1) := by decide +kernel
theorem dX7_isIn_0 : decode cX7_isIn 0 = .ok (.iload_n 2, 1) := by decide +kernel
theorem dX7_isIn_1 : decode cX7_isIn 1 = .ok (.aload_n 0, 1) := by decide +kernel
theorem dX7_isIn_2 : decode cX7_isIn 2 = .ok (.getfield 74, 3) := by decide +kernel
theorem dX7_isIn_5 : decode cX7_isIn 5 = .ok (.irem, 1) := by decide +kernel
theorem dX7_isIn_6 : decode cX7_isIn 6 = .ok (.iload_n 3, 1) := by decide +kernel
theorem dX7_isIn_7 : decode cX7_isIn 7 = .ok (.iadd, 1) := by decide +kernel
theorem dX7_isIn_8 : decode cX7_isIn 8 = .ok (.istore 5, 2) := by decide +kernel
theorem dX7_isIn_10 : decode cX7_isIn 10 = .ok (.iload_n 2, 1) := by decide +kernel
theorem dX7_isIn_11 : decode cX7_isIn 11 = .ok (.aload_n 0, 1) := by decide +kernel
theorem dX7_isIn_12 : decode cX7_isIn 12 = .ok (.getfield 74, 3) := by decide +kernel
theorem dX7_isIn_15 : decode cX7_isIn 15 = .ok (.idiv, 1) := by decide +kernel
theorem dX7_isIn_16 : decode cX7_isIn 16 = .ok (.iload 4, 2) := by decide +kernel
theorem dX7_isIn_18 : decode cX7_isIn 18 = .ok (.iadd, 1) := by decide +kernel
theorem dX7_isIn_19 : decode cX7_isIn 19 = .ok (.istore 6, 2) := by decide +kernel
theorem dX7_isIn_21 : decode cX7_isIn 21 = .ok (.aload_n 0, 1) := by decide +kernel
theorem dX7_isIn_22 : decode cX7_isIn 22 = .ok (.iload 5, 2) := by decide +kernel
theorem dX7_isIn_24 : decode cX7_isIn 24 = .ok (.iload 6, 2) := by decide +kernel
theorem dX7_isIn_26 : decode cX7_isIn 26 = .ok (.invokevirtual 90, 3) := by decide +kernel
theorem dX7_isIn_29 : decode cX7_isIn 29 = .ok (.ifCond .eq 25, 3) := by decide +kernel
theorem dX7_isIn_32 : decode cX7_isIn 32 = .ok (.iload_n 1, 1) := by decide +kernel
theorem dX7_isIn_33 : decode cX7_isIn 33 = .ok (.aload_n 0, 1) := by decide +kernel
theorem dX7_isIn_34 : decode cX7_isIn 34 = .ok (.getfield 74, 3) := by decide +kernel
theorem dX7_isIn_37 : decode cX7_isIn 37 = .ok (.iload 6, 2) := by decide +kernel
theorem dX7_isIn_39 : decode cX7_isIn 39 = .ok (.imul, 1) := by decide +kernel
theorem dX7_isIn_40 : decode cX7_isIn 40 = .ok (.iload 5, 2) := by decide +kernel
theorem dX7_isIn_42 : decode cX7_isIn 42 = .ok (.iadd, 1) := by decide +kernel
theorem dX7_isIn_43 : decode cX7_isIn 43 = .ok (.ishr, 1) := by decide +kernel
theorem dX7_isIn_44 : decode cX7_isIn 44 = .ok (.iconst 1, 1) := by decide +kernel
theorem dX7_isIn_45 : decode cX7_isIn 45 = .ok (.iand, 1) := by decide +kernel
theorem dX7_isIn_46 : decode cX7_isIn 46 = .ok (.iconst 1, 1) := by decide +kernel
theorem dX7_isIn_47 : decode cX7_isIn 47 = .ok (.if_icmp .ne 7, 3) := by decide +kernel
theorem dX7_isIn_50 : decode cX7_isIn 50 = .ok (.iconst 1, 1) := by decide +kernel
theorem dX7_isIn_51 : decode cX7_isIn 51 = .ok (.goto 4, 3) := by decide +kernel
theorem dX7_isIn_54 : decode cX7_isIn 54 = .ok (.iconst 0, 1) := by decide +kernel
theorem dX7_isIn_55 : decode cX7_isIn 55 = .ok (.ireturn, 1) := by decide +kernel
theorem dX7_liken_0 : decode cX7_liken 0 = .ok (.iconst 0, 1) := by decide +kernel
theorem dX7_liken_1 : decode cX7_liken 1 = .ok (.istore_n 1, 1) := by decide +kernel
theorem dX7_liken_2 : decode cX7_liken 2 = .ok (.iload_n 1, 1) := by decide +kernel
theorem dX7_liken_3 : decode cX7_liken 3 = .ok (.aload_n 0, 1) := by decide +kernel
theorem dX7_liken_4 : decode cX7_liken 4 = .ok (.getfield 84, 3) := by decide +kernel
theorem dX7_liken_7 : decode cX7_liken 7 = .ok (.if_icmp .ge 71, 3) := by decide +kernel
theorem dX7_liken_10 : decode cX7_liken 10 = .ok (.aload_n 0, 1) := by decide +kernel
theorem dX7_liken_11 : decode cX7_liken 11 = .ok (.getfield 39, 3) := by decide +kernel
theorem dX7_liken_14 : decode cX7_liken 14 = .ok (.iload_n 1, 1) := by decide +kernel
theorem dX7_liken_15 : decode cX7_liken 15 = .ok (.iload_n 1, 1) := by decide +kernel
theorem dX7_liken_16 : decode cX7_liken 16 = .ok (.iastore, 1) := by decide +kernel
theorem dX7_liken_17 : decode cX7_liken 17 = .ok (.iload_n 1, 1) := by decide +kernel
theorem dX7_liken_18 : decode cX7_liken 18 = .ok (.iconst 1, 1) := by decide +kernel
theorem dX7_liken_19 : decode cX7_liken 19 = .ok (.isub, 1) := by decide +kernel
theorem dX7_liken_20 : decode cX7_liken 20 = .ok (.istore_n 2, 1) := by decide +kernel
theorem dX7_liken_21 : decode cX7_liken 21 = .ok (.iload_n 2, 1) := by decide +kernel
theorem dX7_liken_22 : decode cX7_liken 22 = .ok (.ifCond .lt 50, 3) := by decide +kernel
theorem dX7_liken_25 : decode cX7_liken 25 = .ok (.aload_n 0, 1) := by decide +kernel
theorem dX7_liken_26 : decode cX7_liken 26 = .ok (.getfield 7, 3) := by decide +kernel
theorem dX7_liken_29 : decode cX7_liken 29 = .ok (.iload_n 2, 1) := by decide +kernel
theorem dX7_liken_30 : decode cX7_liken 30 = .ok (.iaload, 1) := by decide +kernel
theorem dX7_liken_31 : decode cX7_liken 31 = .ok (.aload_n 0, 1) := by decide +kernel
theorem dX7_liken_32 : decode cX7_liken 32 = .ok (.getfield 7, 3) := by decide +kernel
theorem dX7_liken_35 : decode cX7_liken 35 = .ok (.iload_n 1, 1) := by decide +kernel
theorem dX7_liken_36 : decode cX7_liken 36 = .ok (.iaload, 1) := by decide +kernel
theorem dX7_liken_37 : decode cX7_liken 37 = .ok (.if_icmp .ne 29, 3) := by decide +kernel
theorem dX7_liken_40 : decode cX7_liken 40 = .ok (.aload_n 0, 1) := by decide +kernel
theorem dX7_liken_41 : decode cX7_liken 41 = .ok (.aload_n 0, 1) := by decide +kernel
theorem dX7_liken_42 : decode cX7_liken 42 = .ok (.getfield 13, 3) := by decide +kernel
theorem dX7_liken_45 : decode cX7_liken 45 = .ok (.iload_n 2, 1) := by decide +kernel
theorem dX7_liken_46 : decode cX7_liken 46 = .ok (.iaload, 1) := by decide +kernel
theorem dX7_liken_47 : decode cX7_liken 47 = .ok (.aload_n 0, 1) := by decide +kernel
theorem dX7_liken_48 : decode cX7_liken 48 = .ok (.getfield 13, 3) := by decide +kernel
theorem dX7_liken_51 : decode cX7_liken 51 = .ok (.iload_n 1, 1) := by decide +kernel
theorem dX7_liken_52 : decode cX7_liken 52 = .ok (.iaload, 1) := by decide +kernel
theorem dX7_liken_53 : decode cX7_liken 53 = .ok (.invokevirtual 137, 3) := by decide +kernel
theorem dX7_liken_56 : decode cX7_liken 56 = .ok (.ifCond .eq 10, 3) := by decide +kernel
theorem dX7_liken_59 : decode cX7_liken 59 = .ok (.aload_n 0, 1) := by decide +kernel
theorem dX7_liken_60 : decode cX7_liken 60 = .ok (.getfield 39, 3) := by decide +kernel
theorem dX7_liken_63 : decode cX7_liken 63 = .ok (.iload_n 1, 1) := by decide +kernel
theorem dX7_liken_64 : decode cX7_liken 64 = .ok (.iload_n 2, 1) := by decide +kernel
theorem dX7_liken_65 : decode cX7_liken 65 = .ok (.iastore, 1) := by decide +kernel
theorem dX7_liken_66 : decode cX7_liken 66 = .ok (.iinc 2 (-1), 3) := by decide +kernel
theorem dX7_liken_69 : decode cX7_liken 69 = .ok (.goto (-48), 3) := by decide +kernel
theorem dX7_liken_72 : decode cX7_liken 72 = .ok (.iinc 1 1, 3) := by decide +kernel
theorem dX7_liken_75 : decode cX7_liken 75 = .ok (.goto (-73), 3) := by decide +kernel
theorem dX7_liken_78 : decode cX7_liken 78 = .ok (.return_, 1) := by decide +kernel
theorem dX7_order_0 : decode cX7_order 0 = .ok (.iconst 0, 1) := by decide +kernel
theorem dX7_order_1 : decode cX7_order 1 = .ok (.istore_n 1, 1) := by decide +kernel
theorem dX7_order_2 : decode cX7_order 2 = .ok (.iload_n 1, 1) := by decide +kernel
theorem dX7_order_3 : decode cX7_order 3 = .ok (.bipush 8, 2) := by decide +kernel
theorem dX7_order_5 : decode cX7_order 5 = .ok (.if_icmp .ge 16, 3) := by decide +kernel
theorem dX7_order_8 : decode cX7_order 8 = .ok (.aload_n 0, 1) := by decide +kernel
theorem dX7_order_9 : decode cX7_order 9 = .ok (.getfield 45, 3) := by decide +kernel
theorem dX7_order_12 : decode cX7_order 12 = .ok (.iload_n 1, 1) := by decide +kernel
theorem dX7_order_13 : decode cX7_order 13 = .ok (.iconst 0, 1) := by decide +kernel
theorem dX7_order_14 : decode cX7_order 14 = .ok (.iastore, 1) := by decide +kernel
theorem dX7_order_15 : decode cX7_order 15 = .ok (.iinc 1 1, 3) := by decide +kernel
theorem dX7_order_18 : decode cX7_order 18 = .ok (.goto (-16), 3) := by decide +kernel
theorem dX7_order_21 : decode cX7_order 21 = .ok (.iconst 0, 1) := by decide +kernel
theorem dX7_order_22 : decode cX7_order 22 = .ok (.istore_n 1, 1) := by decide +kernel
theorem dX7_order_23 : decode cX7_order 23 = .ok (.iload_n 1, 1) := by decide +kernel
theorem dX7_order_24 : decode cX7_order 24 = .ok (.aload_n 0, 1) := by decide +kernel
theorem dX7_order_25 : decode cX7_order 25 = .ok (.getfield 84, 3) := by decide +kernel
theorem dX7_order_28 : decode cX7_order 28 = .ok (.if_icmp .ge 142, 3) := by decide +kernel
theorem dX7_order_31 : decode cX7_order 31 = .ok (.iconst 0, 1) := by decide +kernel
theorem dX7_order_32 : decode cX7_order 32 = .ok (.istore_n 2, 1) := by decide +kernel
theorem dX7_order_33 : decode cX7_order 33 = .ok (.iconst 0, 1) := by decide +kernel
theorem dX7_order_34 : decode cX7_order 34 = .ok (.istore_n 3, 1) := by decide +kernel
theorem dX7_order_35 : decode cX7_order 35 = .ok (.iload_n 3, 1) := by decide +kernel
theorem dX7_order_36 : decode cX7_order 36 = .ok (.aload_n 0, 1) := by decide +kernel
theorem dX7_order_37 : decode cX7_order 37 = .ok (.getfield 84, 3) := by decide +kernel
theorem dX7_order_40 : decode cX7_order 40 = .ok (.if_icmp .ge 62, 3) := by decide +kernel
theorem dX7_order_43 : decode cX7_order 43 = .ok (.aload_n 0, 1) := by decide +kernel
theorem dX7_order_44 : decode cX7_order 44 = .ok (.getfield 39, 3) := by decide +kernel
theorem dX7_order_47 : decode cX7_order 47 = .ok (.iload_n 3, 1) := by decide +kernel
theorem dX7_order_48 : decode cX7_order 48 = .ok (.iaload, 1) := by decide +kernel
theorem dX7_order_49 : decode cX7_order 49 = .ok (.aload_n 0, 1) := by decide +kernel
theorem dX7_order_50 : decode cX7_order 50 = .ok (.getfield 39, 3) := by decide +kernel
theorem dX7_order_53 : decode cX7_order 53 = .ok (.iload_n 1, 1) := by decide +kernel
theorem dX7_order_54 : decode cX7_order 54 = .ok (.iaload, 1) := by decide +kernel
theorem dX7_order_55 : decode cX7_order 55 = .ok (.if_icmp .ne 41, 3) := by decide +kernel
theorem dX7_order_58 : decode cX7_order 58 = .ok (.aload_n 0, 1) := by decide +kernel
theorem dX7_order_59 : decode cX7_order 59 = .ok (.getfield 42, 3) := by decide +kernel
theorem dX7_order_62 : decode cX7_order 62 = .ok (.iload_n 3, 1) := by decide +kernel
theorem dX7_order_63 : decode cX7_order 63 = .ok (.iaload, 1) := by decide +kernel
theorem dX7_order_64 : decode cX7_order 64 = .ok (.aload_n 0, 1) := by decide +kernel
theorem dX7_order_65 : decode cX7_order 65 = .ok (.getfield 42, 3) := by decide +kernel
theorem dX7_order_68 : decode cX7_order 68 = .ok (.iload_n 1, 1) := by decide +kernel
theorem dX7_order_69 : decode cX7_order 69 = .ok (.iaload, 1) := by decide +kernel
theorem dX7_order_70 : decode cX7_order 70 = .ok (.if_icmp .lt 23, 3) := by decide +kernel
theorem dX7_order_73 : decode cX7_order 73 = .ok (.aload_n 0, 1) := by decide +kernel
theorem dX7_order_74 : decode cX7_order 74 = .ok (.getfield 42, 3) := by decide +kernel
theorem dX7_order_77 : decode cX7_order 77 = .ok (.iload_n 3, 1) := by decide +kernel
theorem dX7_order_78 : decode cX7_order 78 = .ok (.iaload, 1) := by decide +kernel
theorem dX7_order_79 : decode cX7_order 79 = .ok (.aload_n 0, 1) := by decide +kernel
theorem dX7_order_80 : decode cX7_order 80 = .ok (.getfield 42, 3) := by decide +kernel
theorem dX7_order_83 : decode cX7_order 83 = .ok (.iload_n 1, 1) := by decide +kernel
theorem dX7_order_84 : decode cX7_order 84 = .ok (.iaload, 1) := by decide +kernel
theorem dX7_order_85 : decode cX7_order 85 = .ok (.if_icmp .ne 11, 3) := by decide +kernel
theorem dX7_order_88 : decode cX7_order 88 = .ok (.iload_n 3, 1) := by decide +kernel
theorem dX7_order_89 : decode cX7_order 89 = .ok (.iload_n 1, 1) := by decide +kernel
theorem dX7_order_90 : decode cX7_order 90 = .ok (.if_icmp .ge 6, 3) := by decide +kernel
theorem dX7_order_93 : decode cX7_order 93 = .ok (.iinc 2 1, 3) := by decide +kernel
theorem dX7_order_96 : decode cX7_order 96 = .ok (.iinc 3 1, 3) := by decide +kernel
theorem dX7_order_99 : decode cX7_order 99 = .ok (.goto (-64), 3) := by decide +kernel
theorem dX7_order_102 : decode cX7_order 102 = .ok (.iconst 0, 1) := by decide +kernel
theorem dX7_order_103 : decode cX7_order 103 = .ok (.istore_n 3, 1) := by decide +kernel
theorem dX7_order_104 : decode cX7_order 104 = .ok (.aload_n 0, 1) := by decide +kernel
theorem dX7_order_105 : decode cX7_order 105 = .ok (.getfield 39, 3) := by decide +kernel
theorem dX7_order_108 : decode cX7_order 108 = .ok (.iload_n 3, 1) := by decide +kernel
theorem dX7_order_109 : decode cX7_order 109 = .ok (.iaload, 1) := by decide +kernel
theorem dX7_order_110 : decode cX7_order 110 = .ok (.aload_n 0, 1) := by decide +kernel
theorem dX7_order_111 : decode cX7_order 111 = .ok (.getfield 39, 3) := by decide +kernel
theorem dX7_order_114 : decode cX7_order 114 = .ok (.iload_n 1, 1) := by decide +kernel
theorem dX7_order_115 : decode cX7_order 115 = .ok (.iaload, 1) := by decide +kernel
theorem dX7_order_116 : decode cX7_order 116 = .ok (.if_icmp .ne 7, 3) := by decide +kernel
theorem dX7_order_119 : decode cX7_order 119 = .ok (.iload_n 2, 1) := by decide +kernel
theorem dX7_order_120 : decode cX7_order 120 = .ok (.ifCond .le 32, 3) := by decide +kernel
theorem dX7_order_123 : decode cX7_order 123 = .ok (.iload_n 2, 1) := by decide +kernel
theorem dX7_order_124 : decode cX7_order 124 = .ok (.aload_n 0, 1) := by decide +kernel
theorem dX7_order_125 : decode cX7_order 125 = .ok (.getfield 39, 3) := by decide +kernel
theorem dX7_order_128 : decode cX7_order 128 = .ok (.iload_n 3, 1) := by decide +kernel
theorem dX7_order_129 : decode cX7_order 129 = .ok (.iaload, 1) := by decide +kernel
theorem dX7_order_130 : decode cX7_order 130 = .ok (.aload_n 0, 1) := by decide +kernel
theorem dX7_order_131 : decode cX7_order 131 = .ok (.getfield 39, 3) := by decide +kernel
theorem dX7_order_134 : decode cX7_order 134 = .ok (.iload_n 1, 1) := by decide +kernel
theorem dX7_order_135 : decode cX7_order 135 = .ok (.iaload, 1) := by decide +kernel
theorem dX7_order_136 : decode cX7_order 136 = .ok (.if_icmp .ne 7, 3) := by decide +kernel
theorem dX7_order_139 : decode cX7_order 139 = .ok (.iconst 1, 1) := by decide +kernel
theorem dX7_order_140 : decode cX7_order 140 = .ok (.goto 4, 3) := by decide +kernel
theorem dX7_order_143 : decode cX7_order 143 = .ok (.iconst 0, 1) := by decide +kernel
theorem dX7_order_144 : decode cX7_order 144 = .ok (.isub, 1) := by decide +kernel
theorem dX7_order_145 : decode cX7_order 145 = .ok (.istore_n 2, 1) := by decide +kernel
theorem dX7_order_146 : decode cX7_order 146 = .ok (.iinc 3 1, 3) := by decide +kernel
theorem dX7_order_149 : decode cX7_order 149 = .ok (.goto (-45), 3) := by decide +kernel
theorem dX7_order_152 : decode cX7_order 152 = .ok (.aload_n 0, 1) := by decide +kernel
theorem dX7_order_153 : decode cX7_order 153 = .ok (.getfield 45, 3) := by decide +kernel
theorem dX7_order_156 : decode cX7_order 156 = .ok (.iload_n 3, 1) := by decide +kernel
theorem dX7_order_157 : decode cX7_order 157 = .ok (.aload_n 0, 1) := by decide +kernel
theorem dX7_order_158 : decode cX7_order 158 = .ok (.getfield 42, 3) := by decide +kernel
theorem dX7_order_161 : decode cX7_order 161 = .ok (.iload_n 1, 1) := by decide +kernel
theorem dX7_order_162 : decode cX7_order 162 = .ok (.iaload, 1) := by decide +kernel
theorem dX7_order_163 : decode cX7_order 163 = .ok (.iastore, 1) := by decide +kernel
theorem dX7_order_164 : decode cX7_order 164 = .ok (.iinc 1 1, 3) := by decide +kernel
theorem dX7_order_167 : decode cX7_order 167 = .ok (.goto (-144), 3) := by decide +kernel
theorem dX7_order_170 : decode cX7_order 170 = .ok (.return_, 1) := by decide +kernel
theorem dX7_isKey_0 : decode cX7_isKey 0 = .ok (.iconst 0, 1) := by decide +kernel
theorem dX7_isKey_1 : decode cX7_isKey 1 = .ok (.istore_n 2, 1) := by decide +kernel
theorem dX7_isKey_2 : decode cX7_isKey 2 = .ok (.iload_n 2, 1) := by decide +kernel
theorem dX7_isKey_3 : decode cX7_isKey 3 = .ok (.bipush 8, 2) := by decide +kernel
theorem dX7_isKey_5 : decode cX7_isKey 5 = .ok (.if_icmp .ge 31, 3) := by decide +kernel
theorem dX7_isKey_8 : decode cX7_isKey 8 = .ok (.aload_n 0, 1) := by decide +kernel
theorem dX7_isKey_9 : decode cX7_isKey 9 = .ok (.getfield 26, 3) := by decide +kernel
theorem dX7_isKey_12 : decode cX7_isKey 12 = .ok (.bipush 8, 2) := by decide +kernel
theorem dX7_isKey_14 : decode cX7_isKey 14 = .ok (.iload_n 1, 1) := by decide +kernel
theorem dX7_isKey_15 : decode cX7_isKey 15 = .ok (.imul, 1) := by decide +kernel
theorem dX7_isKey_16 : decode cX7_isKey 16 = .ok (.iload_n 2, 1) := by decide +kernel
theorem dX7_isKey_17 : decode cX7_isKey 17 = .ok (.iadd, 1) := by decide +kernel
theorem dX7_isKey_18 : decode cX7_isKey 18 = .ok (.iaload, 1) := by decide +kernel
theorem dX7_isKey_19 : decode cX7_isKey 19 = .ok (.aload_n 0, 1) := by decide +kernel
theorem dX7_isKey_20 : decode cX7_isKey 20 = .ok (.getfield 45, 3) := by decide +kernel
theorem dX7_isKey_23 : decode cX7_isKey 23 = .ok (.iload_n 2, 1) := by decide +kernel
theorem dX7_isKey_24 : decode cX7_isKey 24 = .ok (.iaload, 1) := by decide +kernel
theorem dX7_isKey_25 : decode cX7_isKey 25 = .ok (.if_icmp .eq 5, 3) := by decide +kernel
theorem dX7_isKey_28 : decode cX7_isKey 28 = .ok (.iconst 0, 1) := by decide +kernel
theorem dX7_isKey_29 : decode cX7_isKey 29 = .ok (.ireturn, 1) := by decide +kernel
theorem dX7_isKey_30 : decode cX7_isKey 30 = .ok (.iinc 2 1, 3) := by decide +kernel
theorem dX7_isKey_33 : decode cX7_isKey 33 = .ok (.goto (-31), 3) := by decide +kernel
theorem dX7_isKey_36 : decode cX7_isKey 36 = .ok (.iconst 1, 1) := by decide +kernel
theorem dX7_isKey_37 : decode cX7_isKey 37 = .ok (.ireturn, 1) := by decide +kernel
theorem dX7_seatOf_0 : decode cX7_seatOf 0 = .ok (.iconst 0, 1) := by decide +kernel
theorem dX7_seatOf_1 : decode cX7_seatOf 1 = .ok (.istore_n 1, 1) := by decide +kernel
theorem dX7_seatOf_2 : decode cX7_seatOf 2 = .ok (.iconst 0, 1) := by decide +kernel
theorem dX7_seatOf_3 : decode cX7_seatOf 3 = .ok (.istore_n 2, 1) := by decide +kernel
theorem dX7_seatOf_4 : decode cX7_seatOf 4 = .ok (.iload_n 2, 1) := by decide +kernel
theorem dX7_seatOf_5 : decode cX7_seatOf 5 = .ok (.bipush 8, 2) := by decide +kernel
theorem dX7_seatOf_7 : decode cX7_seatOf 7 = .ok (.if_icmp .ge 31, 3) := by decide +kernel
theorem dX7_seatOf_10 : decode cX7_seatOf 10 = .ok (.iload_n 1, 1) := by decide +kernel
theorem dX7_seatOf_11 : decode cX7_seatOf 11 = .ok (.bipush 31, 2) := by decide +kernel
theorem dX7_seatOf_13 : decode cX7_seatOf 13 = .ok (.imul, 1) := by decide +kernel
theorem dX7_seatOf_14 : decode cX7_seatOf 14 = .ok (.aload_n 0, 1) := by decide +kernel
theorem dX7_seatOf_15 : decode cX7_seatOf 15 = .ok (.getfield 45, 3) := by decide +kernel
theorem dX7_seatOf_18 : decode cX7_seatOf 18 = .ok (.iload_n 2, 1) := by decide +kernel
theorem dX7_seatOf_19 : decode cX7_seatOf 19 = .ok (.iaload, 1) := by decide +kernel
theorem dX7_seatOf_20 : decode cX7_seatOf 20 = .ok (.iadd, 1) := by decide +kernel
theorem dX7_seatOf_21 : decode cX7_seatOf 21 = .ok (.aload_n 0, 1) := by decide +kernel
theorem dX7_seatOf_22 : decode cX7_seatOf 22 = .ok (.getfield 45, 3) := by decide +kernel
theorem dX7_seatOf_25 : decode cX7_seatOf 25 = .ok (.iload_n 2, 1) := by decide +kernel
theorem dX7_seatOf_26 : decode cX7_seatOf 26 = .ok (.iaload, 1) := by decide +kernel
theorem dX7_seatOf_27 : decode cX7_seatOf 27 = .ok (.bipush 7, 2) := by decide +kernel
theorem dX7_seatOf_29 : decode cX7_seatOf 29 = .ok (.iushr, 1) := by decide +kernel
theorem dX7_seatOf_30 : decode cX7_seatOf 30 = .ok (.iadd, 1) := by decide +kernel
theorem dX7_seatOf_31 : decode cX7_seatOf 31 = .ok (.istore_n 1, 1) := by decide +kernel
theorem dX7_seatOf_32 : decode cX7_seatOf 32 = .ok (.iinc 2 1, 3) := by decide +kernel
theorem dX7_seatOf_35 : decode cX7_seatOf 35 = .ok (.goto (-31), 3) := by decide +kernel
theorem dX7_seatOf_38 : decode cX7_seatOf 38 = .ok (.iload_n 1, 1) := by decide +kernel
theorem dX7_seatOf_39 : decode cX7_seatOf 39 = .ok (.iload_n 1, 1) := by decide +kernel
theorem dX7_seatOf_40 : decode cX7_seatOf 40 = .ok (.bipush 15, 2) := by decide +kernel
theorem dX7_seatOf_42 : decode cX7_seatOf 42 = .ok (.iushr, 1) := by decide +kernel
theorem dX7_seatOf_43 : decode cX7_seatOf 43 = .ok (.ixor, 1) := by decide +kernel
theorem dX7_seatOf_44 : decode cX7_seatOf 44 = .ok (.sipush 32767, 3) := by decide +kernel
theorem dX7_seatOf_47 : decode cX7_seatOf 47 = .ok (.iand, 1) := by decide +kernel
theorem dX7_seatOf_48 : decode cX7_seatOf 48 = .ok (.istore_n 2, 1) := by decide +kernel
theorem dX7_seatOf_49 : decode cX7_seatOf 49 = .ok (.aload_n 0, 1) := by decide +kernel
theorem dX7_seatOf_50 : decode cX7_seatOf 50 = .ok (.getfield 36, 3) := by decide +kernel
theorem dX7_seatOf_53 : decode cX7_seatOf 53 = .ok (.iload_n 2, 1) := by decide +kernel
theorem dX7_seatOf_54 : decode cX7_seatOf 54 = .ok (.iaload, 1) := by decide +kernel
theorem dX7_seatOf_55 : decode cX7_seatOf 55 = .ok (.ifCond .lt 26, 3) := by decide +kernel
theorem dX7_seatOf_58 : decode cX7_seatOf 58 = .ok (.aload_n 0, 1) := by decide +kernel
theorem dX7_seatOf_59 : decode cX7_seatOf 59 = .ok (.aload_n 0, 1) := by decide +kernel
theorem dX7_seatOf_60 : decode cX7_seatOf 60 = .ok (.getfield 36, 3) := by decide +kernel
theorem dX7_seatOf_63 : decode cX7_seatOf 63 = .ok (.iload_n 2, 1) := by decide +kernel
theorem dX7_seatOf_64 : decode cX7_seatOf 64 = .ok (.iaload, 1) := by decide +kernel
theorem dX7_seatOf_65 : decode cX7_seatOf 65 = .ok (.invokevirtual 140, 3) := by decide +kernel
theorem dX7_seatOf_68 : decode cX7_seatOf 68 = .ok (.ifCond .ne 13, 3) := by decide +kernel
theorem dX7_seatOf_71 : decode cX7_seatOf 71 = .ok (.iload_n 2, 1) := by decide +kernel
theorem dX7_seatOf_72 : decode cX7_seatOf 72 = .ok (.iconst 1, 1) := by decide +kernel
theorem dX7_seatOf_73 : decode cX7_seatOf 73 = .ok (.iadd, 1) := by decide +kernel
theorem dX7_seatOf_74 : decode cX7_seatOf 74 = .ok (.ldc 35, 2) := by decide +kernel
theorem dX7_seatOf_76 : decode cX7_seatOf 76 = .ok (.irem, 1) := by decide +kernel
theorem dX7_seatOf_77 : decode cX7_seatOf 77 = .ok (.istore_n 2, 1) := by decide +kernel
theorem dX7_seatOf_78 : decode cX7_seatOf 78 = .ok (.goto (-29), 3) := by decide +kernel
theorem dX7_seatOf_81 : decode cX7_seatOf 81 = .ok (.iload_n 2, 1) := by decide +kernel
theorem dX7_seatOf_82 : decode cX7_seatOf 82 = .ok (.ireturn, 1) := by decide +kernel
theorem dX7_isNew_0 : decode cX7_isNew 0 = .ok (.aload_n 0, 1) := by decide +kernel
theorem dX7_isNew_1 : decode cX7_isNew 1 = .ok (.invokevirtual 143, 3) := by decide +kernel
theorem dX7_isNew_4 : decode cX7_isNew 4 = .ok (.aload_n 0, 1) := by decide +kernel
theorem dX7_isNew_5 : decode cX7_isNew 5 = .ok (.invokevirtual 146, 3) := by decide +kernel
theorem dX7_isNew_8 : decode cX7_isNew 8 = .ok (.istore_n 3, 1) := by decide +kernel
theorem dX7_isNew_9 : decode cX7_isNew 9 = .ok (.aload_n 0, 1) := by decide +kernel
theorem dX7_isNew_10 : decode cX7_isNew 10 = .ok (.getfield 36, 3) := by decide +kernel
theorem dX7_isNew_13 : decode cX7_isNew 13 = .ok (.iload_n 3, 1) := by decide +kernel
theorem dX7_isNew_14 : decode cX7_isNew 14 = .ok (.iaload, 1) := by decide +kernel
theorem dX7_isNew_15 : decode cX7_isNew 15 = .ok (.ifCond .lt 5, 3) := by decide +kernel
theorem dX7_isNew_18 : decode cX7_isNew 18 = .ok (.iconst 0, 1) := by decide +kernel
theorem dX7_isNew_19 : decode cX7_isNew 19 = .ok (.ireturn, 1) := by decide +kernel
theorem dX7_isNew_20 : decode cX7_isNew 20 = .ok (.aload_n 0, 1) := by decide +kernel
theorem dX7_isNew_21 : decode cX7_isNew 21 = .ok (.getfield 36, 3) := by decide +kernel
theorem dX7_isNew_24 : decode cX7_isNew 24 = .ok (.iload_n 3, 1) := by decide +kernel
theorem dX7_isNew_25 : decode cX7_isNew 25 = .ok (.aload_n 0, 1) := by decide +kernel
theorem dX7_isNew_26 : decode cX7_isNew 26 = .ok (.getfield 149, 3) := by decide +kernel
theorem dX7_isNew_29 : decode cX7_isNew 29 = .ok (.iastore, 1) := by decide +kernel
theorem dX7_isNew_30 : decode cX7_isNew 30 = .ok (.iconst 0, 1) := by decide +kernel
theorem dX7_isNew_31 : decode cX7_isNew 31 = .ok (.istore 4, 2) := by decide +kernel
theorem dX7_isNew_33 : decode cX7_isNew 33 = .ok (.iload 4, 2) := by decide +kernel
theorem dX7_isNew_35 : decode cX7_isNew 35 = .ok (.bipush 8, 2) := by decide +kernel
theorem dX7_isNew_37 : decode cX7_isNew 37 = .ok (.if_icmp .ge 53, 3) := by decide +kernel
theorem dX7_isNew_40 : decode cX7_isNew 40 = .ok (.aload_n 0, 1) := by decide +kernel
theorem dX7_isNew_41 : decode cX7_isNew 41 = .ok (.getfield 23, 3) := by decide +kernel
theorem dX7_isNew_44 : decode cX7_isNew 44 = .ok (.bipush 8, 2) := by decide +kernel
theorem dX7_isNew_46 : decode cX7_isNew 46 = .ok (.aload_n 0, 1) := by decide +kernel
theorem dX7_isNew_47 : decode cX7_isNew 47 = .ok (.getfield 149, 3) := by decide +kernel
theorem dX7_isNew_50 : decode cX7_isNew 50 = .ok (.imul, 1) := by decide +kernel
theorem dX7_isNew_51 : decode cX7_isNew 51 = .ok (.iload 4, 2) := by decide +kernel
theorem dX7_isNew_53 : decode cX7_isNew 53 = .ok (.iadd, 1) := by decide +kernel
theorem dX7_isNew_54 : decode cX7_isNew 54 = .ok (.aload_n 0, 1) := by decide +kernel
theorem dX7_isNew_55 : decode cX7_isNew 55 = .ok (.getfield 42, 3) := by decide +kernel
theorem dX7_isNew_58 : decode cX7_isNew 58 = .ok (.iload 4, 2) := by decide +kernel
theorem dX7_isNew_60 : decode cX7_isNew 60 = .ok (.iaload, 1) := by decide +kernel
theorem dX7_isNew_61 : decode cX7_isNew 61 = .ok (.iastore, 1) := by decide +kernel
theorem dX7_isNew_62 : decode cX7_isNew 62 = .ok (.aload_n 0, 1) := by decide +kernel
theorem dX7_isNew_63 : decode cX7_isNew 63 = .ok (.getfield 26, 3) := by decide +kernel
theorem dX7_isNew_66 : decode cX7_isNew 66 = .ok (.bipush 8, 2) := by decide +kernel
theorem dX7_isNew_68 : decode cX7_isNew 68 = .ok (.aload_n 0, 1) := by decide +kernel
theorem dX7_isNew_69 : decode cX7_isNew 69 = .ok (.getfield 149, 3) := by decide +kernel
theorem dX7_isNew_72 : decode cX7_isNew 72 = .ok (.imul, 1) := by decide +kernel
theorem dX7_isNew_73 : decode cX7_isNew 73 = .ok (.iload 4, 2) := by decide +kernel
theorem dX7_isNew_75 : decode cX7_isNew 75 = .ok (.iadd, 1) := by decide +kernel
theorem dX7_isNew_76 : decode cX7_isNew 76 = .ok (.aload_n 0, 1) := by decide +kernel
theorem dX7_isNew_77 : decode cX7_isNew 77 = .ok (.getfield 45, 3) := by decide +kernel
theorem dX7_isNew_80 : decode cX7_isNew 80 = .ok (.iload 4, 2) := by decide +kernel
theorem dX7_isNew_82 : decode cX7_isNew 82 = .ok (.iaload, 1) := by decide +kernel
theorem dX7_isNew_83 : decode cX7_isNew 83 = .ok (.iastore, 1) := by decide +kernel
theorem dX7_isNew_84 : decode cX7_isNew 84 = .ok (.iinc 4 1, 3) := by decide +kernel
theorem dX7_isNew_87 : decode cX7_isNew 87 = .ok (.goto (-54), 3) := by decide +kernel
theorem dX7_isNew_90 : decode cX7_isNew 90 = .ok (.aload_n 0, 1) := by decide +kernel
theorem dX7_isNew_91 : decode cX7_isNew 91 = .ok (.getfield 29, 3) := by decide +kernel
theorem dX7_isNew_94 : decode cX7_isNew 94 = .ok (.aload_n 0, 1) := by decide +kernel
theorem dX7_isNew_95 : decode cX7_isNew 95 = .ok (.getfield 149, 3) := by decide +kernel
theorem dX7_isNew_98 : decode cX7_isNew 98 = .ok (.iload_n 1, 1) := by decide +kernel
theorem dX7_isNew_99 : decode cX7_isNew 99 = .ok (.iastore, 1) := by decide +kernel
theorem dX7_isNew_100 : decode cX7_isNew 100 = .ok (.aload_n 0, 1) := by decide +kernel
theorem dX7_isNew_101 : decode cX7_isNew 101 = .ok (.getfield 32, 3) := by decide +kernel
theorem dX7_isNew_104 : decode cX7_isNew 104 = .ok (.aload_n 0, 1) := by decide +kernel
theorem dX7_isNew_105 : decode cX7_isNew 105 = .ok (.getfield 149, 3) := by decide +kernel
theorem dX7_isNew_108 : decode cX7_isNew 108 = .ok (.iload_n 2, 1) := by decide +kernel
theorem dX7_isNew_109 : decode cX7_isNew 109 = .ok (.iastore, 1) := by decide +kernel
theorem dX7_isNew_110 : decode cX7_isNew 110 = .ok (.aload_n 0, 1) := by decide +kernel
theorem dX7_isNew_111 : decode cX7_isNew 111 = .ok (.dup, 1) := by decide +kernel
theorem dX7_isNew_112 : decode cX7_isNew 112 = .ok (.getfield 149, 3) := by decide +kernel
theorem dX7_isNew_115 : decode cX7_isNew 115 = .ok (.iconst 1, 1) := by decide +kernel
theorem dX7_isNew_116 : decode cX7_isNew 116 = .ok (.iadd, 1) := by decide +kernel
theorem dX7_isNew_117 : decode cX7_isNew 117 = .ok (.putfield 149, 3) := by decide +kernel
theorem dX7_isNew_120 : decode cX7_isNew 120 = .ok (.iconst 1, 1) := by decide +kernel
theorem dX7_isNew_121 : decode cX7_isNew 121 = .ok (.ireturn, 1) := by decide +kernel
theorem dX7_load_0 : decode cX7_load 0 = .ok (.iconst 0, 1) := by decide +kernel
theorem dX7_load_1 : decode cX7_load 1 = .ok (.istore_n 2, 1) := by decide +kernel
theorem dX7_load_2 : decode cX7_load 2 = .ok (.iload_n 2, 1) := by decide +kernel
theorem dX7_load_3 : decode cX7_load 3 = .ok (.bipush 8, 2) := by decide +kernel
theorem dX7_load_5 : decode cX7_load 5 = .ok (.if_icmp .ge 26, 3) := by decide +kernel
theorem dX7_load_8 : decode cX7_load 8 = .ok (.aload_n 0, 1) := by decide +kernel
theorem dX7_load_9 : decode cX7_load 9 = .ok (.getfield 42, 3) := by decide +kernel
theorem dX7_load_12 : decode cX7_load 12 = .ok (.iload_n 2, 1) := by decide +kernel
theorem dX7_load_13 : decode cX7_load 13 = .ok (.aload_n 0, 1) := by decide +kernel
theorem dX7_load_14 : decode cX7_load 14 = .ok (.getfield 23, 3) := by decide +kernel
theorem dX7_load_17 : decode cX7_load 17 = .ok (.bipush 8, 2) := by decide +kernel
theorem dX7_load_19 : decode cX7_load 19 = .ok (.iload_n 1, 1) := by decide +kernel
theorem dX7_load_20 : decode cX7_load 20 = .ok (.imul, 1) := by decide +kernel
theorem dX7_load_21 : decode cX7_load 21 = .ok (.iload_n 2, 1) := by decide +kernel
theorem dX7_load_22 : decode cX7_load 22 = .ok (.iadd, 1) := by decide +kernel
theorem dX7_load_23 : decode cX7_load 23 = .ok (.iaload, 1) := by decide +kernel
theorem dX7_load_24 : decode cX7_load 24 = .ok (.iastore, 1) := by decide +kernel
theorem dX7_load_25 : decode cX7_load 25 = .ok (.iinc 2 1, 3) := by decide +kernel
theorem dX7_load_28 : decode cX7_load 28 = .ok (.goto (-26), 3) := by decide +kernel
theorem dX7_load_31 : decode cX7_load 31 = .ok (.return_, 1) := by decide +kernel
theorem dX7_spread_0 : decode cX7_spread 0 = .ok (.aload_n 0, 1) := by decide +kernel
theorem dX7_spread_1 : decode cX7_spread 1 = .ok (.invokevirtual 152, 3) := by decide +kernel
theorem dX7_spread_4 : decode cX7_spread 4 = .ok (.iconst 0, 1) := by decide +kernel
theorem dX7_spread_5 : decode cX7_spread 5 = .ok (.istore 4, 2) := by decide +kernel
theorem dX7_spread_7 : decode cX7_spread 7 = .ok (.iload 4, 2) := by decide +kernel
theorem dX7_spread_9 : decode cX7_spread 9 = .ok (.ldc 35, 2) := by decide +kernel
theorem dX7_spread_11 : decode cX7_spread 11 = .ok (.if_icmp .ge 17, 3) := by decide +kernel
theorem dX7_spread_14 : decode cX7_spread 14 = .ok (.aload_n 0, 1) := by decide +kernel
theorem dX7_spread_15 : decode cX7_spread 15 = .ok (.getfield 36, 3) := by decide +kernel
theorem dX7_spread_18 : decode cX7_spread 18 = .ok (.iload 4, 2) := by decide +kernel
theorem dX7_spread_20 : decode cX7_spread 20 = .ok (.iconst (-1), 1) := by decide +kernel
theorem dX7_spread_21 : decode cX7_spread 21 = .ok (.iastore, 1) := by decide +kernel
theorem dX7_spread_22 : decode cX7_spread 22 = .ok (.iinc 4 1, 3) := by decide +kernel
theorem dX7_spread_25 : decode cX7_spread 25 = .ok (.goto (-18), 3) := by decide +kernel
theorem dX7_spread_28 : decode cX7_spread 28 = .ok (.aload_n 0, 1) := by decide +kernel
theorem dX7_spread_29 : decode cX7_spread 29 = .ok (.iconst 0, 1) := by decide +kernel
theorem dX7_spread_30 : decode cX7_spread 30 = .ok (.putfield 149, 3) := by decide +kernel
theorem dX7_spread_33 : decode cX7_spread 33 = .ok (.iconst 0, 1) := by decide +kernel
theorem dX7_spread_34 : decode cX7_spread 34 = .ok (.istore 4, 2) := by decide +kernel
theorem dX7_spread_36 : decode cX7_spread 36 = .ok (.iload 4, 2) := by decide +kernel
theorem dX7_spread_38 : decode cX7_spread 38 = .ok (.bipush 8, 2) := by decide +kernel
theorem dX7_spread_40 : decode cX7_spread 40 = .ok (.if_icmp .ge 36, 3) := by decide +kernel
theorem dX7_spread_43 : decode cX7_spread 43 = .ok (.aload_n 0, 1) := by decide +kernel
theorem dX7_spread_44 : decode cX7_spread 44 = .ok (.getfield 42, 3) := by decide +kernel
theorem dX7_spread_47 : decode cX7_spread 47 = .ok (.iload 4, 2) := by decide +kernel
theorem dX7_spread_49 : decode cX7_spread 49 = .ok (.iload 4, 2) := by decide +kernel
theorem dX7_spread_51 : decode cX7_spread 51 = .ok (.aload_n 0, 1) := by decide +kernel
theorem dX7_spread_52 : decode cX7_spread 52 = .ok (.getfield 84, 3) := by decide +kernel
theorem dX7_spread_55 : decode cX7_spread 55 = .ok (.if_icmp .ge 13, 3) := by decide +kernel
theorem dX7_spread_58 : decode cX7_spread 58 = .ok (.aload_n 0, 1) := by decide +kernel
theorem dX7_spread_59 : decode cX7_spread 59 = .ok (.getfield 13, 3) := by decide +kernel
theorem dX7_spread_62 : decode cX7_spread 62 = .ok (.iload 4, 2) := by decide +kernel
theorem dX7_spread_64 : decode cX7_spread 64 = .ok (.iaload, 1) := by decide +kernel
theorem dX7_spread_65 : decode cX7_spread 65 = .ok (.goto 4, 3) := by decide +kernel
theorem dX7_spread_68 : decode cX7_spread 68 = .ok (.iconst 0, 1) := by decide +kernel
theorem dX7_spread_69 : decode cX7_spread 69 = .ok (.iastore, 1) := by decide +kernel
theorem dX7_spread_70 : decode cX7_spread 70 = .ok (.iinc 4 1, 3) := by decide +kernel
theorem dX7_spread_73 : decode cX7_spread 73 = .ok (.goto (-37), 3) := by decide +kernel
theorem dX7_spread_76 : decode cX7_spread 76 = .ok (.aload_n 0, 1) := by decide +kernel
theorem dX7_spread_77 : decode cX7_spread 77 = .ok (.iconst (-1), 1) := by decide +kernel
theorem dX7_spread_78 : decode cX7_spread 78 = .ok (.iconst 0, 1) := by decide +kernel
theorem dX7_spread_79 : decode cX7_spread 79 = .ok (.invokevirtual 155, 3) := by decide +kernel
theorem dX7_spread_82 : decode cX7_spread 82 = .ok (.pop, 1) := by decide +kernel
theorem dX7_spread_83 : decode cX7_spread 83 = .ok (.iload_n 3, 1) := by decide +kernel
theorem dX7_spread_84 : decode cX7_spread 84 = .ok (.ifCond .eq 16, 3) := by decide +kernel
theorem dX7_spread_87 : decode cX7_spread 87 = .ok (.aload_n 0, 1) := by decide +kernel
theorem dX7_spread_88 : decode cX7_spread 88 = .ok (.aload_n 0, 1) := by decide +kernel
theorem dX7_spread_89 : decode cX7_spread 89 = .ok (.getfield 42, 3) := by decide +kernel
theorem dX7_spread_92 : decode cX7_spread 92 = .ok (.invokevirtual 129, 3) := by decide +kernel
theorem dX7_spread_95 : decode cX7_spread 95 = .ok (.ifCond .ge 5, 3) := by decide +kernel
theorem dX7_spread_98 : decode cX7_spread 98 = .ok (.iconst 0, 1) := by decide +kernel
theorem dX7_spread_99 : decode cX7_spread 99 = .ok (.ireturn, 1) := by decide +kernel
theorem dX7_spread_100 : decode cX7_spread 100 = .ok (.iconst 0, 1) := by decide +kernel
theorem dX7_spread_101 : decode cX7_spread 101 = .ok (.istore 4, 2) := by decide +kernel
theorem dX7_spread_103 : decode cX7_spread 103 = .ok (.iload 4, 2) := by decide +kernel
theorem dX7_spread_105 : decode cX7_spread 105 = .ok (.aload_n 0, 1) := by decide +kernel
theorem dX7_spread_106 : decode cX7_spread 106 = .ok (.getfield 149, 3) := by decide +kernel
theorem dX7_spread_109 : decode cX7_spread 109 = .ok (.if_icmp .ge 161, 3) := by decide +kernel
theorem dX7_spread_112 : decode cX7_spread 112 = .ok (.iconst 0, 1) := by decide +kernel
theorem dX7_spread_113 : decode cX7_spread 113 = .ok (.istore 5, 2) := by decide +kernel
theorem dX7_spread_115 : decode cX7_spread 115 = .ok (.iload 5, 2) := by decide +kernel
theorem dX7_spread_117 : decode cX7_spread 117 = .ok (.iconst 4, 1) := by decide +kernel
theorem dX7_spread_118 : decode cX7_spread 118 = .ok (.aload_n 0, 1) := by decide +kernel
theorem dX7_spread_119 : decode cX7_spread 119 = .ok (.getfield 84, 3) := by decide +kernel
theorem dX7_spread_122 : decode cX7_spread 122 = .ok (.imul, 1) := by decide +kernel
theorem dX7_spread_123 : decode cX7_spread 123 = .ok (.if_icmp .ge 141, 3) := by decide +kernel
theorem dX7_spread_126 : decode cX7_spread 126 = .ok (.aload_n 0, 1) := by decide +kernel
theorem dX7_spread_127 : decode cX7_spread 127 = .ok (.iload 4, 2) := by decide +kernel
theorem dX7_spread_129 : decode cX7_spread 129 = .ok (.invokevirtual 158, 3) := by decide +kernel
theorem dX7_spread_132 : decode cX7_spread 132 = .ok (.iload 5, 2) := by decide +kernel
theorem dX7_spread_134 : decode cX7_spread 134 = .ok (.iconst 4, 1) := by decide +kernel
theorem dX7_spread_135 : decode cX7_spread 135 = .ok (.idiv, 1) := by decide +kernel
theorem dX7_spread_136 : decode cX7_spread 136 = .ok (.istore 6, 2) := by decide +kernel
theorem dX7_spread_138 : decode cX7_spread 138 = .ok (.iconst 1, 1) := by decide +kernel
theorem dX7_spread_139 : decode cX7_spread 139 = .ok (.istore 7, 2) := by decide +kernel
theorem dX7_spread_141 : decode cX7_spread 141 = .ok (.iconst 1, 1) := by decide +kernel
theorem dX7_spread_142 : decode cX7_spread 142 = .ok (.istore 8, 2) := by decide +kernel
theorem dX7_spread_144 : decode cX7_spread 144 = .ok (.iload 7, 2) := by decide +kernel
theorem dX7_spread_146 : decode cX7_spread 146 = .ok (.ifCond .eq 112, 3) := by decide +kernel
theorem dX7_spread_149 : decode cX7_spread 149 = .ok (.aload_n 0, 1) := by decide +kernel
theorem dX7_spread_150 : decode cX7_spread 150 = .ok (.aload_n 0, 1) := by decide +kernel
theorem dX7_spread_151 : decode cX7_spread 151 = .ok (.getfield 42, 3) := by decide +kernel
theorem dX7_spread_154 : decode cX7_spread 154 = .ok (.iload 6, 2) := by decide +kernel
theorem dX7_spread_156 : decode cX7_spread 156 = .ok (.iload 5, 2) := by decide +kernel
theorem dX7_spread_158 : decode cX7_spread 158 = .ok (.iconst 4, 1) := by decide +kernel
theorem dX7_spread_159 : decode cX7_spread 159 = .ok (.irem, 1) := by decide +kernel
theorem dX7_spread_160 : decode cX7_spread 160 = .ok (.invokevirtual 114, 3) := by decide +kernel
theorem dX7_spread_163 : decode cX7_spread 163 = .ok (.istore 9, 2) := by decide +kernel
theorem dX7_spread_165 : decode cX7_spread 165 = .ok (.iload 9, 2) := by decide +kernel
theorem dX7_spread_167 : decode cX7_spread 167 = .ok (.ifCond .eq 12, 3) := by decide +kernel
theorem dX7_spread_170 : decode cX7_spread 170 = .ok (.iload_n 1, 1) := by decide +kernel
theorem dX7_spread_171 : decode cX7_spread 171 = .ok (.iconst 1, 1) := by decide +kernel
theorem dX7_spread_172 : decode cX7_spread 172 = .ok (.if_icmp .ne 7, 3) := by decide +kernel
theorem dX7_spread_175 : decode cX7_spread 175 = .ok (.iconst 1, 1) := by decide +kernel
theorem dX7_spread_176 : decode cX7_spread 176 = .ok (.goto 4, 3) := by decide +kernel
theorem dX7_spread_179 : decode cX7_spread 179 = .ok (.iconst 0, 1) := by decide +kernel
theorem dX7_spread_180 : decode cX7_spread 180 = .ok (.istore 7, 2) := by decide +kernel
theorem dX7_spread_182 : decode cX7_spread 182 = .ok (.iload 9, 2) := by decide +kernel
theorem dX7_spread_184 : decode cX7_spread 184 = .ok (.ifCond .ne 6, 3) := by decide +kernel
theorem dX7_spread_187 : decode cX7_spread 187 = .ok (.goto 65, 3) := by decide +kernel
theorem dX7_spread_190 : decode cX7_spread 190 = .ok (.aload_n 0, 1) := by decide +kernel
theorem dX7_spread_191 : decode cX7_spread 191 = .ok (.getfield 42, 3) := by decide +kernel
theorem dX7_spread_194 : decode cX7_spread 194 = .ok (.iload 6, 2) := by decide +kernel
theorem dX7_spread_196 : decode cX7_spread 196 = .ok (.iload 9, 2) := by decide +kernel
theorem dX7_spread_198 : decode cX7_spread 198 = .ok (.iastore, 1) := by decide +kernel
theorem dX7_spread_199 : decode cX7_spread 199 = .ok (.aload_n 0, 1) := by decide +kernel
theorem dX7_spread_200 : decode cX7_spread 200 = .ok (.iload 4, 2) := by decide +kernel
theorem dX7_spread_202 : decode cX7_spread 202 = .ok (.bipush 32, 2) := by decide +kernel
theorem dX7_spread_204 : decode cX7_spread 204 = .ok (.iload 8, 2) := by decide +kernel
theorem dX7_spread_206 : decode cX7_spread 206 = .ok (.imul, 1) := by decide +kernel
theorem dX7_spread_207 : decode cX7_spread 207 = .ok (.iload 5, 2) := by decide +kernel
theorem dX7_spread_209 : decode cX7_spread 209 = .ok (.iadd, 1) := by decide +kernel
theorem dX7_spread_210 : decode cX7_spread 210 = .ok (.invokevirtual 155, 3) := by decide +kernel
theorem dX7_spread_213 : decode cX7_spread 213 = .ok (.ifCond .ne 6, 3) := by decide +kernel
theorem dX7_spread_216 : decode cX7_spread 216 = .ok (.goto 36, 3) := by decide +kernel
theorem dX7_spread_219 : decode cX7_spread 219 = .ok (.aload_n 0, 1) := by decide +kernel
theorem dX7_spread_220 : decode cX7_spread 220 = .ok (.getfield 149, 3) := by decide +kernel
theorem dX7_spread_223 : decode cX7_spread 223 = .ok (.iload_n 2, 1) := by decide +kernel
theorem dX7_spread_224 : decode cX7_spread 224 = .ok (.if_icmp .le 6, 3) := by decide +kernel
theorem dX7_spread_227 : decode cX7_spread 227 = .ok (.bipush (-2), 2) := by decide +kernel
theorem dX7_spread_229 : decode cX7_spread 229 = .ok (.ireturn, 1) := by decide +kernel
theorem dX7_spread_230 : decode cX7_spread 230 = .ok (.iload_n 3, 1) := by decide +kernel
theorem dX7_spread_231 : decode cX7_spread 231 = .ok (.ifCond .eq 21, 3) := by decide +kernel
theorem dX7_spread_234 : decode cX7_spread 234 = .ok (.aload_n 0, 1) := by decide +kernel
theorem dX7_spread_235 : decode cX7_spread 235 = .ok (.aload_n 0, 1) := by decide +kernel
theorem dX7_spread_236 : decode cX7_spread 236 = .ok (.getfield 42, 3) := by decide +kernel
theorem dX7_spread_239 : decode cX7_spread 239 = .ok (.invokevirtual 129, 3) := by decide +kernel
theorem dX7_spread_242 : decode cX7_spread 242 = .ok (.ifCond .ge 10, 3) := by decide +kernel
theorem dX7_spread_245 : decode cX7_spread 245 = .ok (.aload_n 0, 1) := by decide +kernel
theorem dX7_spread_246 : decode cX7_spread 246 = .ok (.getfield 149, 3) := by decide +kernel
theorem dX7_spread_249 : decode cX7_spread 249 = .ok (.iconst 1, 1) := by decide +kernel
theorem dX7_spread_250 : decode cX7_spread 250 = .ok (.isub, 1) := by decide +kernel
theorem dX7_spread_251 : decode cX7_spread 251 = .ok (.ireturn, 1) := by decide +kernel
theorem dX7_spread_252 : decode cX7_spread 252 = .ok (.iinc 8 1, 3) := by decide +kernel
theorem dX7_spread_255 : decode cX7_spread 255 = .ok (.goto (-111), 3) := by decide +kernel
theorem dX7_spread_258 : decode cX7_spread 258 = .ok (.iinc 5 1, 3) := by decide +kernel
theorem dX7_spread_261 : decode cX7_spread 261 = .ok (.goto (-146), 3) := by decide +kernel
theorem dX7_spread_264 : decode cX7_spread 264 = .ok (.iinc 4 1, 3) := by decide +kernel
theorem dX7_spread_267 : decode cX7_spread 267 = .ok (.goto (-164), 3) := by decide +kernel
theorem dX7_spread_270 : decode cX7_spread 270 = .ok (.iconst (-1), 1) := by decide +kernel
theorem dX7_spread_271 : decode cX7_spread 271 = .ok (.ireturn, 1) := by decide +kernel
theorem dX7_search_0 : decode cX7_search 0 = .ok (.aload_n 0, 1) := by decide +kernel
theorem dX7_search_1 : decode cX7_search 1 = .ok (.iconst 0, 1) := by decide +kernel
theorem dX7_search_2 : decode cX7_search 2 = .ok (.putfield 81, 3) := by decide +kernel
theorem dX7_search_5 : decode cX7_search 5 = .ok (.iload_n 1, 1) := by decide +kernel
theorem dX7_search_6 : decode cX7_search 6 = .ok (.ifCond .lt 20, 3) := by decide +kernel
theorem dX7_search_9 : decode cX7_search 9 = .ok (.iload_n 1, 1) := by decide +kernel
theorem dX7_search_10 : decode cX7_search 10 = .ok (.iconst 1, 1) := by decide +kernel
theorem dX7_search_11 : decode cX7_search 11 = .ok (.if_icmp .gt 15, 3) := by decide +kernel
theorem dX7_search_14 : decode cX7_search 14 = .ok (.iload_n 2, 1) := by decide +kernel
theorem dX7_search_15 : decode cX7_search 15 = .ok (.iconst 1, 1) := by decide +kernel
theorem dX7_search_16 : decode cX7_search 16 = .ok (.if_icmp .lt 10, 3) := by decide +kernel
theorem dX7_search_19 : decode cX7_search 19 = .ok (.iload_n 2, 1) := by decide +kernel
theorem dX7_search_20 : decode cX7_search 20 = .ok (.sipush 10000, 3) := by decide +kernel
theorem dX7_search_23 : decode cX7_search 23 = .ok (.if_icmp .le 6, 3) := by decide +kernel
theorem dX7_search_26 : decode cX7_search 26 = .ok (.bipush (-3), 2) := by decide +kernel
theorem dX7_search_28 : decode cX7_search 28 = .ok (.ireturn, 1) := by decide +kernel
theorem dX7_search_29 : decode cX7_search 29 = .ok (.aload_n 0, 1) := by decide +kernel
theorem dX7_search_30 : decode cX7_search 30 = .ok (.iload_n 1, 1) := by decide +kernel
theorem dX7_search_31 : decode cX7_search 31 = .ok (.iload_n 2, 1) := by decide +kernel
theorem dX7_search_32 : decode cX7_search 32 = .ok (.iconst 1, 1) := by decide +kernel
theorem dX7_search_33 : decode cX7_search 33 = .ok (.invokevirtual 162, 3) := by decide +kernel
theorem dX7_search_36 : decode cX7_search 36 = .ok (.istore_n 3, 1) := by decide +kernel
theorem dX7_search_37 : decode cX7_search 37 = .ok (.aload_n 0, 1) := by decide +kernel
theorem dX7_search_38 : decode cX7_search 38 = .ok (.iload_n 3, 1) := by decide +kernel
theorem dX7_search_39 : decode cX7_search 39 = .ok (.bipush (-2), 2) := by decide +kernel
theorem dX7_search_41 : decode cX7_search 41 = .ok (.if_icmp .ne 7, 3) := by decide +kernel
theorem dX7_search_44 : decode cX7_search 44 = .ok (.iload_n 2, 1) := by decide +kernel
theorem dX7_search_45 : decode cX7_search 45 = .ok (.goto 7, 3) := by decide +kernel
theorem dX7_search_48 : decode cX7_search 48 = .ok (.aload_n 0, 1) := by decide +kernel
theorem dX7_search_49 : decode cX7_search 49 = .ok (.getfield 149, 3) := by decide +kernel
theorem dX7_search_52 : decode cX7_search 52 = .ok (.putfield 166, 3) := by decide +kernel
theorem dX7_search_55 : decode cX7_search 55 = .ok (.aload_n 0, 1) := by decide +kernel
theorem dX7_search_56 : decode cX7_search 56 = .ok (.iconst 0, 1) := by decide +kernel
theorem dX7_search_57 : decode cX7_search 57 = .ok (.putfield 169, 3) := by decide +kernel
theorem dX7_search_60 : decode cX7_search 60 = .ok (.iload_n 3, 1) := by decide +kernel
theorem dX7_search_61 : decode cX7_search 61 = .ok (.ifCond .ge 5, 3) := by decide +kernel
theorem dX7_search_64 : decode cX7_search 64 = .ok (.iload_n 3, 1) := by decide +kernel
theorem dX7_search_65 : decode cX7_search 65 = .ok (.ireturn, 1) := by decide +kernel
theorem dX7_search_66 : decode cX7_search 66 = .ok (.iload_n 3, 1) := by decide +kernel
theorem dX7_search_67 : decode cX7_search 67 = .ok (.istore 4, 2) := by decide +kernel
theorem dX7_search_69 : decode cX7_search 69 = .ok (.iload 4, 2) := by decide +kernel
theorem dX7_search_71 : decode cX7_search 71 = .ok (.ifCond .le 25, 3) := by decide +kernel
theorem dX7_search_74 : decode cX7_search 74 = .ok (.aload_n 0, 1) := by decide +kernel
theorem dX7_search_75 : decode cX7_search 75 = .ok (.dup, 1) := by decide +kernel
theorem dX7_search_76 : decode cX7_search 76 = .ok (.getfield 169, 3) := by decide +kernel
theorem dX7_search_79 : decode cX7_search 79 = .ok (.iconst 1, 1) := by decide +kernel
theorem dX7_search_80 : decode cX7_search 80 = .ok (.iadd, 1) := by decide +kernel
theorem dX7_search_81 : decode cX7_search 81 = .ok (.putfield 169, 3) := by decide +kernel
theorem dX7_search_84 : decode cX7_search 84 = .ok (.aload_n 0, 1) := by decide +kernel
theorem dX7_search_85 : decode cX7_search 85 = .ok (.getfield 29, 3) := by decide +kernel
theorem dX7_search_88 : decode cX7_search 88 = .ok (.iload 4, 2) := by decide +kernel
theorem dX7_search_90 : decode cX7_search 90 = .ok (.iaload, 1) := by decide +kernel
theorem dX7_search_91 : decode cX7_search 91 = .ok (.istore 4, 2) := by decide +kernel
theorem dX7_search_93 : decode cX7_search 93 = .ok (.goto (-24), 3) := by decide +kernel
theorem dX7_search_96 : decode cX7_search 96 = .ok (.aload_n 0, 1) := by decide +kernel
theorem dX7_search_97 : decode cX7_search 97 = .ok (.getfield 169, 3) := by decide +kernel
theorem dX7_search_100 : decode cX7_search 100 = .ok (.istore 4, 2) := by decide +kernel
theorem dX7_search_102 : decode cX7_search 102 = .ok (.iload_n 3, 1) := by decide +kernel
theorem dX7_search_103 : decode cX7_search 103 = .ok (.istore 5, 2) := by decide +kernel
theorem dX7_search_105 : decode cX7_search 105 = .ok (.iload 5, 2) := by decide +kernel
theorem dX7_search_107 : decode cX7_search 107 = .ok (.ifCond .le 32, 3) := by decide +kernel
theorem dX7_search_110 : decode cX7_search 110 = .ok (.iinc 4 (-1), 3) := by decide +kernel
theorem dX7_search_113 : decode cX7_search 113 = .ok (.aload_n 0, 1) := by decide +kernel
theorem dX7_search_114 : decode cX7_search 114 = .ok (.getfield 48, 3) := by decide +kernel
theorem dX7_search_117 : decode cX7_search 117 = .ok (.iload 4, 2) := by decide +kernel
theorem dX7_search_119 : decode cX7_search 119 = .ok (.aload_n 0, 1) := by decide +kernel
theorem dX7_search_120 : decode cX7_search 120 = .ok (.getfield 32, 3) := by decide +kernel
theorem dX7_search_123 : decode cX7_search 123 = .ok (.iload 5, 2) := by decide +kernel
theorem dX7_search_125 : decode cX7_search 125 = .ok (.iaload, 1) := by decide +kernel
theorem dX7_search_126 : decode cX7_search 126 = .ok (.iastore, 1) := by decide +kernel
theorem dX7_search_127 : decode cX7_search 127 = .ok (.aload_n 0, 1) := by decide +kernel
theorem dX7_search_128 : decode cX7_search 128 = .ok (.getfield 29, 3) := by decide +kernel
theorem dX7_search_131 : decode cX7_search 131 = .ok (.iload 5, 2) := by decide +kernel
theorem dX7_search_133 : decode cX7_search 133 = .ok (.iaload, 1) := by decide +kernel
theorem dX7_search_134 : decode cX7_search 134 = .ok (.istore 5, 2) := by decide +kernel
theorem dX7_search_136 : decode cX7_search 136 = .ok (.goto (-31), 3) := by decide +kernel
theorem dX7_search_139 : decode cX7_search 139 = .ok (.aload_n 0, 1) := by decide +kernel
theorem dX7_search_140 : decode cX7_search 140 = .ok (.getfield 169, 3) := by decide +kernel
theorem dX7_search_143 : decode cX7_search 143 = .ok (.ireturn, 1) := by decide +kernel
theorem dX7_step_0 : decode cX7_step 0 = .ok (.aload_n 0, 1) := by decide +kernel
theorem dX7_step_1 : decode cX7_step 1 = .ok (.iconst 0, 1) := by decide +kernel
theorem dX7_step_2 : decode cX7_step 2 = .ok (.putfield 81, 3) := by decide +kernel
theorem dX7_step_5 : decode cX7_step 5 = .ok (.iload_n 1, 1) := by decide +kernel
theorem dX7_step_6 : decode cX7_step 6 = .ok (.ifCond .lt 11, 3) := by decide +kernel
theorem dX7_step_9 : decode cX7_step 9 = .ok (.iload_n 1, 1) := by decide +kernel
theorem dX7_step_10 : decode cX7_step 10 = .ok (.aload_n 0, 1) := by decide +kernel
theorem dX7_step_11 : decode cX7_step 11 = .ok (.getfield 169, 3) := by decide +kernel
theorem dX7_step_14 : decode cX7_step 14 = .ok (.if_icmp .lt 7, 3) := by decide +kernel
theorem dX7_step_17 : decode cX7_step 17 = .ok (.iconst (-1), 1) := by decide +kernel
theorem dX7_step_18 : decode cX7_step 18 = .ok (.goto 9, 3) := by decide +kernel
theorem dX7_step_21 : decode cX7_step 21 = .ok (.aload_n 0, 1) := by decide +kernel
theorem dX7_step_22 : decode cX7_step 22 = .ok (.getfield 48, 3) := by decide +kernel
theorem dX7_step_25 : decode cX7_step 25 = .ok (.iload_n 1, 1) := by decide +kernel
theorem dX7_step_26 : decode cX7_step 26 = .ok (.iaload, 1) := by decide +kernel
theorem dX7_step_27 : decode cX7_step 27 = .ok (.ireturn, 1) := by decide +kernel
theorem dX7_states_0 : decode cX7_states 0 = .ok (.aload_n 0, 1) := by decide +kernel
theorem dX7_states_1 : decode cX7_states 1 = .ok (.iconst 0, 1) := by decide +kernel
theorem dX7_states_2 : decode cX7_states 2 = .ok (.putfield 81, 3) := by decide +kernel
theorem dX7_states_5 : decode cX7_states 5 = .ok (.aload_n 0, 1) := by decide +kernel
theorem dX7_states_6 : decode cX7_states 6 = .ok (.getfield 166, 3) := by decide +kernel
theorem dX7_states_9 : decode cX7_states 9 = .ok (.ireturn, 1) := by decide +kernel
theorem dX7_reach_0 : decode cX7_reach 0 = .ok (.aload_n 0, 1) := by decide +kernel
theorem dX7_reach_1 : decode cX7_reach 1 = .ok (.iconst 0, 1) := by decide +kernel
theorem dX7_reach_2 : decode cX7_reach 2 = .ok (.putfield 81, 3) := by decide +kernel
theorem dX7_reach_5 : decode cX7_reach 5 = .ok (.aload_n 0, 1) := by decide +kernel
theorem dX7_reach_6 : decode cX7_reach 6 = .ok (.iconst 0, 1) := by decide +kernel
theorem dX7_reach_7 : decode cX7_reach 7 = .ok (.sipush 10000, 3) := by decide +kernel
theorem dX7_reach_10 : decode cX7_reach 10 = .ok (.iconst 0, 1) := by decide +kernel
theorem dX7_reach_11 : decode cX7_reach 11 = .ok (.invokevirtual 162, 3) := by decide +kernel
theorem dX7_reach_14 : decode cX7_reach 14 = .ok (.bipush (-2), 2) := by decide +kernel
theorem dX7_reach_16 : decode cX7_reach 16 = .ok (.if_icmp .ne 8, 3) := by decide +kernel
theorem dX7_reach_19 : decode cX7_reach 19 = .ok (.bipush (-2), 2) := by decide +kernel
theorem dX7_reach_21 : decode cX7_reach 21 = .ok (.goto 7, 3) := by decide +kernel
theorem dX7_reach_24 : decode cX7_reach 24 = .ok (.aload_n 0, 1) := by decide +kernel
theorem dX7_reach_25 : decode cX7_reach 25 = .ok (.getfield 149, 3) := by decide +kernel
theorem dX7_reach_28 : decode cX7_reach 28 = .ok (.ireturn, 1) := by decide +kernel
theorem dX7_picture_0 : decode cX7_picture 0 = .ok (.aload_n 0, 1) := by decide +kernel
theorem dX7_picture_1 : decode cX7_picture 1 = .ok (.iconst 0, 1) := by decide +kernel
theorem dX7_picture_2 : decode cX7_picture 2 = .ok (.putfield 81, 3) := by decide +kernel
theorem dX7_picture_5 : decode cX7_picture 5 = .ok (.iload_n 1, 1) := by decide +kernel
theorem dX7_picture_6 : decode cX7_picture 6 = .ok (.ifCond .lt 18, 3) := by decide +kernel
theorem dX7_picture_9 : decode cX7_picture 9 = .ok (.iload_n 1, 1) := by decide +kernel
theorem dX7_picture_10 : decode cX7_picture 10 = .ok (.aload_n 0, 1) := by decide +kernel
theorem dX7_picture_11 : decode cX7_picture 11 = .ok (.getfield 74, 3) := by decide +kernel
theorem dX7_picture_14 : decode cX7_picture 14 = .ok (.iconst 1, 1) := by decide +kernel
theorem dX7_picture_15 : decode cX7_picture 15 = .ok (.iadd, 1) := by decide +kernel
theorem dX7_picture_16 : decode cX7_picture 16 = .ok (.aload_n 0, 1) := by decide +kernel
theorem dX7_picture_17 : decode cX7_picture 17 = .ok (.getfield 78, 3) := by decide +kernel
theorem dX7_picture_20 : decode cX7_picture 20 = .ok (.imul, 1) := by decide +kernel
theorem dX7_picture_21 : decode cX7_picture 21 = .ok (.if_icmp .lt 5, 3) := by decide +kernel
theorem dX7_picture_24 : decode cX7_picture 24 = .ok (.iconst (-1), 1) := by decide +kernel
theorem dX7_picture_25 : decode cX7_picture 25 = .ok (.ireturn, 1) := by decide +kernel
theorem dX7_picture_26 : decode cX7_picture 26 = .ok (.iload_n 1, 1) := by decide +kernel
theorem dX7_picture_27 : decode cX7_picture 27 = .ok (.aload_n 0, 1) := by decide +kernel
theorem dX7_picture_28 : decode cX7_picture 28 = .ok (.getfield 74, 3) := by decide +kernel
theorem dX7_picture_31 : decode cX7_picture 31 = .ok (.iconst 1, 1) := by decide +kernel
theorem dX7_picture_32 : decode cX7_picture 32 = .ok (.iadd, 1) := by decide +kernel
theorem dX7_picture_33 : decode cX7_picture 33 = .ok (.irem, 1) := by decide +kernel
theorem dX7_picture_34 : decode cX7_picture 34 = .ok (.istore_n 2, 1) := by decide +kernel
theorem dX7_picture_35 : decode cX7_picture 35 = .ok (.iload_n 2, 1) := by decide +kernel
theorem dX7_picture_36 : decode cX7_picture 36 = .ok (.aload_n 0, 1) := by decide +kernel
theorem dX7_picture_37 : decode cX7_picture 37 = .ok (.getfield 74, 3) := by decide +kernel
theorem dX7_picture_40 : decode cX7_picture 40 = .ok (.if_icmp .ne 6, 3) := by decide +kernel
theorem dX7_picture_43 : decode cX7_picture 43 = .ok (.bipush 10, 2) := by decide +kernel
theorem dX7_picture_45 : decode cX7_picture 45 = .ok (.ireturn, 1) := by decide +kernel
theorem dX7_picture_46 : decode cX7_picture 46 = .ok (.iconst 1, 1) := by decide +kernel
theorem dX7_picture_47 : decode cX7_picture 47 = .ok (.aload_n 0, 1) := by decide +kernel
theorem dX7_picture_48 : decode cX7_picture 48 = .ok (.getfield 74, 3) := by decide +kernel
theorem dX7_picture_51 : decode cX7_picture 51 = .ok (.iload_n 1, 1) := by decide +kernel
theorem dX7_picture_52 : decode cX7_picture 52 = .ok (.aload_n 0, 1) := by decide +kernel
theorem dX7_picture_53 : decode cX7_picture 53 = .ok (.getfield 74, 3) := by decide +kernel
theorem dX7_picture_56 : decode cX7_picture 56 = .ok (.iconst 1, 1) := by decide +kernel
theorem dX7_picture_57 : decode cX7_picture 57 = .ok (.iadd, 1) := by decide +kernel
theorem dX7_picture_58 : decode cX7_picture 58 = .ok (.idiv, 1) := by decide +kernel
theorem dX7_picture_59 : decode cX7_picture 59 = .ok (.imul, 1) := by decide +kernel
theorem dX7_picture_60 : decode cX7_picture 60 = .ok (.iload_n 2, 1) := by decide +kernel
theorem dX7_picture_61 : decode cX7_picture 61 = .ok (.iadd, 1) := by decide +kernel
theorem dX7_picture_62 : decode cX7_picture 62 = .ok (.ishl, 1) := by decide +kernel
theorem dX7_picture_63 : decode cX7_picture 63 = .ok (.istore_n 3, 1) := by decide +kernel
theorem dX7_picture_64 : decode cX7_picture 64 = .ok (.aload_n 0, 1) := by decide +kernel
theorem dX7_picture_65 : decode cX7_picture 65 = .ok (.getfield 87, 3) := by decide +kernel
theorem dX7_picture_68 : decode cX7_picture 68 = .ok (.iload_n 3, 1) := by decide +kernel
theorem dX7_picture_69 : decode cX7_picture 69 = .ok (.iand, 1) := by decide +kernel
theorem dX7_picture_70 : decode cX7_picture 70 = .ok (.ifCond .eq 6, 3) := by decide +kernel
theorem dX7_picture_73 : decode cX7_picture 73 = .ok (.bipush 35, 2) := by decide +kernel
theorem dX7_picture_75 : decode cX7_picture 75 = .ok (.ireturn, 1) := by decide +kernel
theorem dX7_picture_76 : decode cX7_picture 76 = .ok (.iconst 0, 1) := by decide +kernel
theorem dX7_picture_77 : decode cX7_picture 77 = .ok (.istore 4, 2) := by decide +kernel
theorem dX7_picture_79 : decode cX7_picture 79 = .ok (.iload 4, 2) := by decide +kernel
theorem dX7_picture_81 : decode cX7_picture 81 = .ok (.aload_n 0, 1) := by decide +kernel
theorem dX7_picture_82 : decode cX7_picture 82 = .ok (.getfield 84, 3) := by decide +kernel
theorem dX7_picture_85 : decode cX7_picture 85 = .ok (.if_icmp .ge 32, 3) := by decide +kernel
theorem dX7_picture_88 : decode cX7_picture 88 = .ok (.aload_n 0, 1) := by decide +kernel
theorem dX7_picture_89 : decode cX7_picture 89 = .ok (.getfield 13, 3) := by decide +kernel
theorem dX7_picture_92 : decode cX7_picture 92 = .ok (.iload 4, 2) := by decide +kernel
theorem dX7_picture_94 : decode cX7_picture 94 = .ok (.iaload, 1) := by decide +kernel
theorem dX7_picture_95 : decode cX7_picture 95 = .ok (.iload_n 3, 1) := by decide +kernel
theorem dX7_picture_96 : decode cX7_picture 96 = .ok (.iand, 1) := by decide +kernel
theorem dX7_picture_97 : decode cX7_picture 97 = .ok (.ifCond .eq 14, 3) := by decide +kernel
theorem dX7_picture_100 : decode cX7_picture 100 = .ok (.bipush 97, 2) := by decide +kernel
theorem dX7_picture_102 : decode cX7_picture 102 = .ok (.aload_n 0, 1) := by decide +kernel
theorem dX7_picture_103 : decode cX7_picture 103 = .ok (.getfield 7, 3) := by decide +kernel
theorem dX7_picture_106 : decode cX7_picture 106 = .ok (.iload 4, 2) := by decide +kernel
theorem dX7_picture_108 : decode cX7_picture 108 = .ok (.iaload, 1) := by decide +kernel
theorem dX7_picture_109 : decode cX7_picture 109 = .ok (.iadd, 1) := by decide +kernel
theorem dX7_picture_110 : decode cX7_picture 110 = .ok (.ireturn, 1) := by decide +kernel
theorem dX7_picture_111 : decode cX7_picture 111 = .ok (.iinc 4 1, 3) := by decide +kernel
theorem dX7_picture_114 : decode cX7_picture 114 = .ok (.goto (-35), 3) := by decide +kernel
theorem dX7_picture_117 : decode cX7_picture 117 = .ok (.bipush 46, 2) := by decide +kernel
theorem dX7_picture_119 : decode cX7_picture 119 = .ok (.ireturn, 1) := by decide +kernel
theorem dX7_isNode_0 : decode cX7_isNode 0 = .ok (.iload_n 1, 1) := by decide +kernel
theorem dX7_isNode_1 : decode cX7_isNode 1 = .ok (.ifCond .lt 15, 3) := by decide +kernel
theorem dX7_isNode_4 : decode cX7_isNode 4 = .ok (.iload_n 1, 1) := by decide +kernel
theorem dX7_isNode_5 : decode cX7_isNode 5 = .ok (.aload_n 0, 1) := by decide +kernel
theorem dX7_isNode_6 : decode cX7_isNode 6 = .ok (.getfield 172, 3) := by decide +kernel
theorem dX7_isNode_9 : decode cX7_isNode 9 = .ok (.if_icmp .ge 7, 3) := by decide +kernel
theorem dX7_isNode_12 : decode cX7_isNode 12 = .ok (.iconst 1, 1) := by decide +kernel
theorem dX7_isNode_13 : decode cX7_isNode 13 = .ok (.goto 4, 3) := by decide +kernel
theorem dX7_isNode_16 : decode cX7_isNode 16 = .ok (.iconst 0, 1) := by decide +kernel
theorem dX7_isNode_17 : decode cX7_isNode 17 = .ok (.ireturn, 1) := by decide +kernel
theorem dX7_node_0 : decode cX7_node 0 = .ok (.aload_n 0, 1) := by decide +kernel
theorem dX7_node_1 : decode cX7_node 1 = .ok (.iconst 0, 1) := by decide +kernel
theorem dX7_node_2 : decode cX7_node 2 = .ok (.putfield 81, 3) := by decide +kernel
theorem dX7_node_5 : decode cX7_node 5 = .ok (.aload_n 0, 1) := by decide +kernel
theorem dX7_node_6 : decode cX7_node 6 = .ok (.getfield 172, 3) := by decide +kernel
theorem dX7_node_9 : decode cX7_node 9 = .ok (.bipush 8, 2) := by decide +kernel
theorem dX7_node_11 : decode cX7_node 11 = .ok (.if_icmp .ne 5, 3) := by decide +kernel
theorem dX7_node_14 : decode cX7_node 14 = .ok (.iconst (-1), 1) := by decide +kernel
theorem dX7_node_15 : decode cX7_node 15 = .ok (.ireturn, 1) := by decide +kernel
theorem dX7_node_16 : decode cX7_node 16 = .ok (.aload_n 0, 1) := by decide +kernel
theorem dX7_node_17 : decode cX7_node 17 = .ok (.dup, 1) := by decide +kernel
theorem dX7_node_18 : decode cX7_node 18 = .ok (.getfield 172, 3) := by decide +kernel
theorem dX7_node_21 : decode cX7_node 21 = .ok (.iconst 1, 1) := by decide +kernel
theorem dX7_node_22 : decode cX7_node 22 = .ok (.iadd, 1) := by decide +kernel
theorem dX7_node_23 : decode cX7_node 23 = .ok (.putfield 172, 3) := by decide +kernel
theorem dX7_node_26 : decode cX7_node 26 = .ok (.iconst 0, 1) := by decide +kernel
theorem dX7_node_27 : decode cX7_node 27 = .ok (.istore_n 1, 1) := by decide +kernel
theorem dX7_node_28 : decode cX7_node 28 = .ok (.iload_n 1, 1) := by decide +kernel
theorem dX7_node_29 : decode cX7_node 29 = .ok (.aload_n 0, 1) := by decide +kernel
theorem dX7_node_30 : decode cX7_node 30 = .ok (.getfield 172, 3) := by decide +kernel
theorem dX7_node_33 : decode cX7_node 33 = .ok (.if_icmp .ge 16, 3) := by decide +kernel
theorem dX7_node_36 : decode cX7_node 36 = .ok (.aload_n 0, 1) := by decide +kernel
theorem dX7_node_37 : decode cX7_node 37 = .ok (.getfield 55, 3) := by decide +kernel
theorem dX7_node_40 : decode cX7_node 40 = .ok (.iload_n 1, 1) := by decide +kernel
theorem dX7_node_41 : decode cX7_node 41 = .ok (.iload_n 1, 1) := by decide +kernel
theorem dX7_node_42 : decode cX7_node 42 = .ok (.iastore, 1) := by decide +kernel
theorem dX7_node_43 : decode cX7_node 43 = .ok (.iinc 1 1, 3) := by decide +kernel
theorem dX7_node_46 : decode cX7_node 46 = .ok (.goto (-18), 3) := by decide +kernel
theorem dX7_node_49 : decode cX7_node 49 = .ok (.aload_n 0, 1) := by decide +kernel
theorem dX7_node_50 : decode cX7_node 50 = .ok (.getfield 172, 3) := by decide +kernel
theorem dX7_node_53 : decode cX7_node 53 = .ok (.iconst 1, 1) := by decide +kernel
theorem dX7_node_54 : decode cX7_node 54 = .ok (.isub, 1) := by decide +kernel
theorem dX7_node_55 : decode cX7_node 55 = .ok (.ireturn, 1) := by decide +kernel
theorem dX7_isJoined_0 : decode cX7_isJoined 0 = .ok (.aload_n 0, 1) := by decide +kernel
theorem dX7_isJoined_1 : decode cX7_isJoined 1 = .ok (.getfield 51, 3) := by decide +kernel
theorem dX7_isJoined_4 : decode cX7_isJoined 4 = .ok (.bipush 8, 2) := by decide +kernel
theorem dX7_isJoined_6 : decode cX7_isJoined 6 = .ok (.iload_n 1, 1) := by decide +kernel
theorem dX7_isJoined_7 : decode cX7_isJoined 7 = .ok (.imul, 1) := by decide +kernel
theorem dX7_isJoined_8 : decode cX7_isJoined 8 = .ok (.iload_n 2, 1) := by decide +kernel
theorem dX7_isJoined_9 : decode cX7_isJoined 9 = .ok (.iadd, 1) := by decide +kernel
theorem dX7_isJoined_10 : decode cX7_isJoined 10 = .ok (.baload, 1) := by decide +kernel
theorem dX7_isJoined_11 : decode cX7_isJoined 11 = .ok (.ireturn, 1) := by decide +kernel
theorem dX7_join_0 : decode cX7_join 0 = .ok (.aload_n 0, 1) := by decide +kernel
theorem dX7_join_1 : decode cX7_join 1 = .ok (.iconst 1, 1) := by decide +kernel
theorem dX7_join_2 : decode cX7_join 2 = .ok (.aload_n 0, 1) := by decide +kernel
theorem dX7_join_3 : decode cX7_join 3 = .ok (.iload_n 1, 1) := by decide +kernel
theorem dX7_join_4 : decode cX7_join 4 = .ok (.invokevirtual 175, 3) := by decide +kernel
theorem dX7_join_7 : decode cX7_join 7 = .ok (.ifCond .eq 11, 3) := by decide +kernel
theorem dX7_join_10 : decode cX7_join 10 = .ok (.aload_n 0, 1) := by decide +kernel
theorem dX7_join_11 : decode cX7_join 11 = .ok (.iload_n 2, 1) := by decide +kernel
theorem dX7_join_12 : decode cX7_join 12 = .ok (.invokevirtual 175, 3) := by decide +kernel
theorem dX7_join_15 : decode cX7_join 15 = .ok (.ifCond .ne 7, 3) := by decide +kernel
theorem dX7_join_18 : decode cX7_join 18 = .ok (.iconst 1, 1) := by decide +kernel
theorem dX7_join_19 : decode cX7_join 19 = .ok (.goto 4, 3) := by decide +kernel
theorem dX7_join_22 : decode cX7_join 22 = .ok (.iconst 0, 1) := by decide +kernel
theorem dX7_join_23 : decode cX7_join 23 = .ok (.invokevirtual 94, 3) := by decide +kernel
theorem dX7_join_26 : decode cX7_join 26 = .ok (.ifCond .ne 17, 3) := by decide +kernel
theorem dX7_join_29 : decode cX7_join 29 = .ok (.iload_n 1, 1) := by decide +kernel
theorem dX7_join_30 : decode cX7_join 30 = .ok (.iload_n 2, 1) := by decide +kernel
theorem dX7_join_31 : decode cX7_join 31 = .ok (.if_icmp .eq 12, 3) := by decide +kernel
theorem dX7_join_34 : decode cX7_join 34 = .ok (.aload_n 0, 1) := by decide +kernel
theorem dX7_join_35 : decode cX7_join 35 = .ok (.iload_n 1, 1) := by decide +kernel
theorem dX7_join_36 : decode cX7_join 36 = .ok (.iload_n 2, 1) := by decide +kernel
theorem dX7_join_37 : decode cX7_join 37 = .ok (.invokevirtual 178, 3) := by decide +kernel
theorem dX7_join_40 : decode cX7_join 40 = .ok (.ifCond .eq 5, 3) := by decide +kernel
theorem dX7_join_43 : decode cX7_join 43 = .ok (.iconst 0, 1) := by decide +kernel
theorem dX7_join_44 : decode cX7_join 44 = .ok (.ireturn, 1) := by decide +kernel
theorem dX7_join_45 : decode cX7_join 45 = .ok (.aload_n 0, 1) := by decide +kernel
theorem dX7_join_46 : decode cX7_join 46 = .ok (.getfield 51, 3) := by decide +kernel
theorem dX7_join_49 : decode cX7_join 49 = .ok (.bipush 8, 2) := by decide +kernel
theorem dX7_join_51 : decode cX7_join 51 = .ok (.iload_n 1, 1) := by decide +kernel
theorem dX7_join_52 : decode cX7_join 52 = .ok (.imul, 1) := by decide +kernel
theorem dX7_join_53 : decode cX7_join 53 = .ok (.iload_n 2, 1) := by decide +kernel
theorem dX7_join_54 : decode cX7_join 54 = .ok (.iadd, 1) := by decide +kernel
theorem dX7_join_55 : decode cX7_join 55 = .ok (.iconst 1, 1) := by decide +kernel
theorem dX7_join_56 : decode cX7_join 56 = .ok (.bastore, 1) := by decide +kernel
theorem dX7_join_57 : decode cX7_join 57 = .ok (.aload_n 0, 1) := by decide +kernel
theorem dX7_join_58 : decode cX7_join 58 = .ok (.getfield 51, 3) := by decide +kernel
theorem dX7_join_61 : decode cX7_join 61 = .ok (.bipush 8, 2) := by decide +kernel
theorem dX7_join_63 : decode cX7_join 63 = .ok (.iload_n 2, 1) := by decide +kernel
theorem dX7_join_64 : decode cX7_join 64 = .ok (.imul, 1) := by decide +kernel
theorem dX7_join_65 : decode cX7_join 65 = .ok (.iload_n 1, 1) := by decide +kernel
theorem dX7_join_66 : decode cX7_join 66 = .ok (.iadd, 1) := by decide +kernel
theorem dX7_join_67 : decode cX7_join 67 = .ok (.iconst 1, 1) := by decide +kernel
theorem dX7_join_68 : decode cX7_join 68 = .ok (.bastore, 1) := by decide +kernel
theorem dX7_join_69 : decode cX7_join 69 = .ok (.iconst 1, 1) := by decide +kernel
theorem dX7_join_70 : decode cX7_join 70 = .ok (.ireturn, 1) := by decide +kernel
theorem dX7_tile_0 : decode cX7_tile 0 = .ok (.aload_n 0, 1) := by decide +kernel
theorem dX7_tile_1 : decode cX7_tile 1 = .ok (.iconst 1, 1) := by decide +kernel
theorem dX7_tile_2 : decode cX7_tile 2 = .ok (.aload_n 0, 1) := by decide +kernel
theorem dX7_tile_3 : decode cX7_tile 3 = .ok (.iload_n 1, 1) := by decide +kernel
theorem dX7_tile_4 : decode cX7_tile 4 = .ok (.invokevirtual 175, 3) := by decide +kernel
theorem dX7_tile_7 : decode cX7_tile 7 = .ok (.ifCond .ne 7, 3) := by decide +kernel
theorem dX7_tile_10 : decode cX7_tile 10 = .ok (.iconst 1, 1) := by decide +kernel
theorem dX7_tile_11 : decode cX7_tile 11 = .ok (.goto 4, 3) := by decide +kernel
theorem dX7_tile_14 : decode cX7_tile 14 = .ok (.iconst 0, 1) := by decide +kernel
theorem dX7_tile_15 : decode cX7_tile 15 = .ok (.invokevirtual 94, 3) := by decide +kernel
theorem dX7_tile_18 : decode cX7_tile 18 = .ok (.ifCond .eq 7, 3) := by decide +kernel
theorem dX7_tile_21 : decode cX7_tile 21 = .ok (.iconst 0, 1) := by decide +kernel
theorem dX7_tile_22 : decode cX7_tile 22 = .ok (.goto 9, 3) := by decide +kernel
theorem dX7_tile_25 : decode cX7_tile 25 = .ok (.aload_n 0, 1) := by decide +kernel
theorem dX7_tile_26 : decode cX7_tile 26 = .ok (.getfield 55, 3) := by decide +kernel
theorem dX7_tile_29 : decode cX7_tile 29 = .ok (.iload_n 1, 1) := by decide +kernel
theorem dX7_tile_30 : decode cX7_tile 30 = .ok (.iaload, 1) := by decide +kernel
theorem dX7_tile_31 : decode cX7_tile 31 = .ok (.ireturn, 1) := by decide +kernel
theorem dX7_gap_0 : decode cX7_gap 0 = .ok (.iconst 0, 1) := by decide +kernel
theorem dX7_gap_1 : decode cX7_gap 1 = .ok (.istore_n 1, 1) := by decide +kernel
theorem dX7_gap_2 : decode cX7_gap 2 = .ok (.aload_n 0, 1) := by decide +kernel
theorem dX7_gap_3 : decode cX7_gap 3 = .ok (.getfield 55, 3) := by decide +kernel
theorem dX7_gap_6 : decode cX7_gap 6 = .ok (.iload_n 1, 1) := by decide +kernel
theorem dX7_gap_7 : decode cX7_gap 7 = .ok (.iaload, 1) := by decide +kernel
theorem dX7_gap_8 : decode cX7_gap 8 = .ok (.ifCond .eq 9, 3) := by decide +kernel
theorem dX7_gap_11 : decode cX7_gap 11 = .ok (.iinc 1 1, 3) := by decide +kernel
theorem dX7_gap_14 : decode cX7_gap 14 = .ok (.goto (-12), 3) := by decide +kernel
theorem dX7_gap_17 : decode cX7_gap 17 = .ok (.iload_n 1, 1) := by decide +kernel
theorem dX7_gap_18 : decode cX7_gap 18 = .ok (.ireturn, 1) := by decide +kernel
theorem dX7_exchange_0 : decode cX7_exchange 0 = .ok (.aload_n 0, 1) := by decide +kernel
theorem dX7_exchange_1 : decode cX7_exchange 1 = .ok (.getfield 55, 3) := by decide +kernel
theorem dX7_exchange_4 : decode cX7_exchange 4 = .ok (.iload_n 1, 1) := by decide +kernel
theorem dX7_exchange_5 : decode cX7_exchange 5 = .ok (.iaload, 1) := by decide +kernel
theorem dX7_exchange_6 : decode cX7_exchange 6 = .ok (.istore_n 3, 1) := by decide +kernel
theorem dX7_exchange_7 : decode cX7_exchange 7 = .ok (.aload_n 0, 1) := by decide +kernel
theorem dX7_exchange_8 : decode cX7_exchange 8 = .ok (.getfield 55, 3) := by decide +kernel
theorem dX7_exchange_11 : decode cX7_exchange 11 = .ok (.iload_n 1, 1) := by decide +kernel
theorem dX7_exchange_12 : decode cX7_exchange 12 = .ok (.aload_n 0, 1) := by decide +kernel
theorem dX7_exchange_13 : decode cX7_exchange 13 = .ok (.getfield 55, 3) := by decide +kernel
theorem dX7_exchange_16 : decode cX7_exchange 16 = .ok (.iload_n 2, 1) := by decide +kernel
theorem dX7_exchange_17 : decode cX7_exchange 17 = .ok (.iaload, 1) := by decide +kernel
theorem dX7_exchange_18 : decode cX7_exchange 18 = .ok (.iastore, 1) := by decide +kernel
theorem dX7_exchange_19 : decode cX7_exchange 19 = .ok (.aload_n 0, 1) := by decide +kernel
theorem dX7_exchange_20 : decode cX7_exchange 20 = .ok (.getfield 55, 3) := by decide +kernel
theorem dX7_exchange_23 : decode cX7_exchange 23 = .ok (.iload_n 2, 1) := by decide +kernel
theorem dX7_exchange_24 : decode cX7_exchange 24 = .ok (.iload_n 3, 1) := by decide +kernel
theorem dX7_exchange_25 : decode cX7_exchange 25 = .ok (.iastore, 1) := by decide +kernel
theorem dX7_exchange_26 : decode cX7_exchange 26 = .ok (.return_, 1) := by decide +kernel
theorem dX7_shift_0 : decode cX7_shift 0 = .ok (.aload_n 0, 1) := by decide +kernel
theorem dX7_shift_1 : decode cX7_shift 1 = .ok (.iconst 1, 1) := by decide +kernel
theorem dX7_shift_2 : decode cX7_shift 2 = .ok (.aload_n 0, 1) := by decide +kernel
theorem dX7_shift_3 : decode cX7_shift 3 = .ok (.iload_n 1, 1) := by decide +kernel
theorem dX7_shift_4 : decode cX7_shift 4 = .ok (.invokevirtual 175, 3) := by decide +kernel
theorem dX7_shift_7 : decode cX7_shift 7 = .ok (.ifCond .ne 7, 3) := by decide +kernel
theorem dX7_shift_10 : decode cX7_shift 10 = .ok (.iconst 1, 1) := by decide +kernel
theorem dX7_shift_11 : decode cX7_shift 11 = .ok (.goto 4, 3) := by decide +kernel
theorem dX7_shift_14 : decode cX7_shift 14 = .ok (.iconst 0, 1) := by decide +kernel
theorem dX7_shift_15 : decode cX7_shift 15 = .ok (.invokevirtual 94, 3) := by decide +kernel
theorem dX7_shift_18 : decode cX7_shift 18 = .ok (.ifCond .ne 24, 3) := by decide +kernel
theorem dX7_shift_21 : decode cX7_shift 21 = .ok (.aload_n 0, 1) := by decide +kernel
theorem dX7_shift_22 : decode cX7_shift 22 = .ok (.getfield 55, 3) := by decide +kernel
theorem dX7_shift_25 : decode cX7_shift 25 = .ok (.iload_n 1, 1) := by decide +kernel
theorem dX7_shift_26 : decode cX7_shift 26 = .ok (.iaload, 1) := by decide +kernel
theorem dX7_shift_27 : decode cX7_shift 27 = .ok (.ifCond .eq 15, 3) := by decide +kernel
theorem dX7_shift_30 : decode cX7_shift 30 = .ok (.aload_n 0, 1) := by decide +kernel
theorem dX7_shift_31 : decode cX7_shift 31 = .ok (.iload_n 1, 1) := by decide +kernel
theorem dX7_shift_32 : decode cX7_shift 32 = .ok (.aload_n 0, 1) := by decide +kernel
theorem dX7_shift_33 : decode cX7_shift 33 = .ok (.invokevirtual 181, 3) := by decide +kernel
theorem dX7_shift_36 : decode cX7_shift 36 = .ok (.invokevirtual 178, 3) := by decide +kernel
theorem dX7_shift_39 : decode cX7_shift 39 = .ok (.ifCond .ne 5, 3) := by decide +kernel
theorem dX7_shift_42 : decode cX7_shift 42 = .ok (.iconst 0, 1) := by decide +kernel
theorem dX7_shift_43 : decode cX7_shift 43 = .ok (.ireturn, 1) := by decide +kernel
theorem dX7_shift_44 : decode cX7_shift 44 = .ok (.aload_n 0, 1) := by decide +kernel
theorem dX7_shift_45 : decode cX7_shift 45 = .ok (.iload_n 1, 1) := by decide +kernel
theorem dX7_shift_46 : decode cX7_shift 46 = .ok (.aload_n 0, 1) := by decide +kernel
theorem dX7_shift_47 : decode cX7_shift 47 = .ok (.invokevirtual 181, 3) := by decide +kernel
theorem dX7_shift_50 : decode cX7_shift 50 = .ok (.invokevirtual 184, 3) := by decide +kernel
theorem dX7_shift_53 : decode cX7_shift 53 = .ok (.iconst 1, 1) := by decide +kernel
theorem dX7_shift_54 : decode cX7_shift 54 = .ok (.ireturn, 1) := by decide +kernel
theorem dX7_swap_0 : decode cX7_swap 0 = .ok (.aload_n 0, 1) := by decide +kernel
theorem dX7_swap_1 : decode cX7_swap 1 = .ok (.iconst 1, 1) := by decide +kernel
theorem dX7_swap_2 : decode cX7_swap 2 = .ok (.aload_n 0, 1) := by decide +kernel
theorem dX7_swap_3 : decode cX7_swap 3 = .ok (.iload_n 1, 1) := by decide +kernel
theorem dX7_swap_4 : decode cX7_swap 4 = .ok (.invokevirtual 175, 3) := by decide +kernel
theorem dX7_swap_7 : decode cX7_swap 7 = .ok (.ifCond .eq 11, 3) := by decide +kernel
theorem dX7_swap_10 : decode cX7_swap 10 = .ok (.aload_n 0, 1) := by decide +kernel
theorem dX7_swap_11 : decode cX7_swap 11 = .ok (.iload_n 2, 1) := by decide +kernel
theorem dX7_swap_12 : decode cX7_swap 12 = .ok (.invokevirtual 175, 3) := by decide +kernel
theorem dX7_swap_15 : decode cX7_swap 15 = .ok (.ifCond .ne 7, 3) := by decide +kernel
theorem dX7_swap_18 : decode cX7_swap 18 = .ok (.iconst 1, 1) := by decide +kernel
theorem dX7_swap_19 : decode cX7_swap 19 = .ok (.goto 4, 3) := by decide +kernel
theorem dX7_swap_22 : decode cX7_swap 22 = .ok (.iconst 0, 1) := by decide +kernel
theorem dX7_swap_23 : decode cX7_swap 23 = .ok (.invokevirtual 94, 3) := by decide +kernel
theorem dX7_swap_26 : decode cX7_swap 26 = .ok (.ifCond .ne 8, 3) := by decide +kernel
theorem dX7_swap_29 : decode cX7_swap 29 = .ok (.iload_n 1, 1) := by decide +kernel
theorem dX7_swap_30 : decode cX7_swap 30 = .ok (.iload_n 2, 1) := by decide +kernel
theorem dX7_swap_31 : decode cX7_swap 31 = .ok (.if_icmp .ne 5, 3) := by decide +kernel
theorem dX7_swap_34 : decode cX7_swap 34 = .ok (.iconst 0, 1) := by decide +kernel
theorem dX7_swap_35 : decode cX7_swap 35 = .ok (.ireturn, 1) := by decide +kernel
theorem dX7_swap_36 : decode cX7_swap 36 = .ok (.aload_n 0, 1) := by decide +kernel
theorem dX7_swap_37 : decode cX7_swap 37 = .ok (.iload_n 1, 1) := by decide +kernel
theorem dX7_swap_38 : decode cX7_swap 38 = .ok (.iload_n 2, 1) := by decide +kernel
theorem dX7_swap_39 : decode cX7_swap 39 = .ok (.invokevirtual 184, 3) := by decide +kernel
theorem dX7_swap_42 : decode cX7_swap 42 = .ok (.iconst 1, 1) := by decide +kernel
theorem dX7_swap_43 : decode cX7_swap 43 = .ok (.ireturn, 1) := by decide +kernel
theorem dX7_measure_0 : decode cX7_measure 0 = .ok (.iconst 0, 1) := by decide +kernel
theorem dX7_measure_1 : decode cX7_measure 1 = .ok (.istore_n 2, 1) := by decide +kernel
theorem dX7_measure_2 : decode cX7_measure 2 = .ok (.iload_n 2, 1) := by decide +kernel
theorem dX7_measure_3 : decode cX7_measure 3 = .ok (.aload_n 0, 1) := by decide +kernel
theorem dX7_measure_4 : decode cX7_measure 4 = .ok (.getfield 172, 3) := by decide +kernel
theorem dX7_measure_7 : decode cX7_measure 7 = .ok (.if_icmp .ge 26, 3) := by decide +kernel
theorem dX7_measure_10 : decode cX7_measure 10 = .ok (.aload_n 0, 1) := by decide +kernel
theorem dX7_measure_11 : decode cX7_measure 11 = .ok (.getfield 71, 3) := by decide +kernel
theorem dX7_measure_14 : decode cX7_measure 14 = .ok (.iload_n 2, 1) := by decide +kernel
theorem dX7_measure_15 : decode cX7_measure 15 = .ok (.iload_n 2, 1) := by decide +kernel
theorem dX7_measure_16 : decode cX7_measure 16 = .ok (.iload_n 1, 1) := by decide +kernel
theorem dX7_measure_17 : decode cX7_measure 17 = .ok (.if_icmp .ne 7, 3) := by decide +kernel
theorem dX7_measure_20 : decode cX7_measure 20 = .ok (.iconst 0, 1) := by decide +kernel
theorem dX7_measure_21 : decode cX7_measure 21 = .ok (.goto 5, 3) := by decide +kernel
theorem dX7_measure_24 : decode cX7_measure 24 = .ok (.bipush 99, 2) := by decide +kernel
theorem dX7_measure_26 : decode cX7_measure 26 = .ok (.iastore, 1) := by decide +kernel
theorem dX7_measure_27 : decode cX7_measure 27 = .ok (.iinc 2 1, 3) := by decide +kernel
theorem dX7_measure_30 : decode cX7_measure 30 = .ok (.goto (-28), 3) := by decide +kernel
theorem dX7_measure_33 : decode cX7_measure 33 = .ok (.iconst 0, 1) := by decide +kernel
theorem dX7_measure_34 : decode cX7_measure 34 = .ok (.istore_n 2, 1) := by decide +kernel
theorem dX7_measure_35 : decode cX7_measure 35 = .ok (.iload_n 2, 1) := by decide +kernel
theorem dX7_measure_36 : decode cX7_measure 36 = .ok (.aload_n 0, 1) := by decide +kernel
theorem dX7_measure_37 : decode cX7_measure 37 = .ok (.getfield 172, 3) := by decide +kernel
theorem dX7_measure_40 : decode cX7_measure 40 = .ok (.if_icmp .ge 86, 3) := by decide +kernel
theorem dX7_measure_43 : decode cX7_measure 43 = .ok (.iconst 0, 1) := by decide +kernel
theorem dX7_measure_44 : decode cX7_measure 44 = .ok (.istore_n 3, 1) := by decide +kernel
theorem dX7_measure_45 : decode cX7_measure 45 = .ok (.iload_n 3, 1) := by decide +kernel
theorem dX7_measure_46 : decode cX7_measure 46 = .ok (.aload_n 0, 1) := by decide +kernel
theorem dX7_measure_47 : decode cX7_measure 47 = .ok (.getfield 172, 3) := by decide +kernel
theorem dX7_measure_50 : decode cX7_measure 50 = .ok (.if_icmp .ge 70, 3) := by decide +kernel
theorem dX7_measure_53 : decode cX7_measure 53 = .ok (.iconst 0, 1) := by decide +kernel
theorem dX7_measure_54 : decode cX7_measure 54 = .ok (.istore 4, 2) := by decide +kernel
theorem dX7_measure_56 : decode cX7_measure 56 = .ok (.iload 4, 2) := by decide +kernel
theorem dX7_measure_58 : decode cX7_measure 58 = .ok (.aload_n 0, 1) := by decide +kernel
theorem dX7_measure_59 : decode cX7_measure 59 = .ok (.getfield 172, 3) := by decide +kernel
theorem dX7_measure_62 : decode cX7_measure 62 = .ok (.if_icmp .ge 52, 3) := by decide +kernel
theorem dX7_measure_65 : decode cX7_measure 65 = .ok (.aload_n 0, 1) := by decide +kernel
theorem dX7_measure_66 : decode cX7_measure 66 = .ok (.iload_n 3, 1) := by decide +kernel
theorem dX7_measure_67 : decode cX7_measure 67 = .ok (.iload 4, 2) := by decide +kernel
theorem dX7_measure_69 : decode cX7_measure 69 = .ok (.invokevirtual 178, 3) := by decide +kernel
theorem dX7_measure_72 : decode cX7_measure 72 = .ok (.ifCond .eq 36, 3) := by decide +kernel
theorem dX7_measure_75 : decode cX7_measure 75 = .ok (.aload_n 0, 1) := by decide +kernel
theorem dX7_measure_76 : decode cX7_measure 76 = .ok (.getfield 71, 3) := by decide +kernel
theorem dX7_measure_79 : decode cX7_measure 79 = .ok (.iload_n 3, 1) := by decide +kernel
theorem dX7_measure_80 : decode cX7_measure 80 = .ok (.iaload, 1) := by decide +kernel
theorem dX7_measure_81 : decode cX7_measure 81 = .ok (.iconst 1, 1) := by decide +kernel
theorem dX7_measure_82 : decode cX7_measure 82 = .ok (.iadd, 1) := by decide +kernel
theorem dX7_measure_83 : decode cX7_measure 83 = .ok (.aload_n 0, 1) := by decide +kernel
theorem dX7_measure_84 : decode cX7_measure 84 = .ok (.getfield 71, 3) := by decide +kernel
theorem dX7_measure_87 : decode cX7_measure 87 = .ok (.iload 4, 2) := by decide +kernel
theorem dX7_measure_89 : decode cX7_measure 89 = .ok (.iaload, 1) := by decide +kernel
theorem dX7_measure_90 : decode cX7_measure 90 = .ok (.if_icmp .ge 18, 3) := by decide +kernel
theorem dX7_measure_93 : decode cX7_measure 93 = .ok (.aload_n 0, 1) := by decide +kernel
theorem dX7_measure_94 : decode cX7_measure 94 = .ok (.getfield 71, 3) := by decide +kernel
theorem dX7_measure_97 : decode cX7_measure 97 = .ok (.iload 4, 2) := by decide +kernel
theorem dX7_measure_99 : decode cX7_measure 99 = .ok (.aload_n 0, 1) := by decide +kernel
theorem dX7_measure_100 : decode cX7_measure 100 = .ok (.getfield 71, 3) := by decide +kernel
theorem dX7_measure_103 : decode cX7_measure 103 = .ok (.iload_n 3, 1) := by decide +kernel
theorem dX7_measure_104 : decode cX7_measure 104 = .ok (.iaload, 1) := by decide +kernel
theorem dX7_measure_105 : decode cX7_measure 105 = .ok (.iconst 1, 1) := by decide +kernel
theorem dX7_measure_106 : decode cX7_measure 106 = .ok (.iadd, 1) := by decide +kernel
theorem dX7_measure_107 : decode cX7_measure 107 = .ok (.iastore, 1) := by decide +kernel
theorem dX7_measure_108 : decode cX7_measure 108 = .ok (.iinc 4 1, 3) := by decide +kernel
theorem dX7_measure_111 : decode cX7_measure 111 = .ok (.goto (-55), 3) := by decide +kernel
theorem dX7_measure_114 : decode cX7_measure 114 = .ok (.iinc 3 1, 3) := by decide +kernel
theorem dX7_measure_117 : decode cX7_measure 117 = .ok (.goto (-72), 3) := by decide +kernel
theorem dX7_measure_120 : decode cX7_measure 120 = .ok (.iinc 2 1, 3) := by decide +kernel
theorem dX7_measure_123 : decode cX7_measure 123 = .ok (.goto (-88), 3) := by decide +kernel
theorem dX7_measure_126 : decode cX7_measure 126 = .ok (.return_, 1) := by decide +kernel
theorem dX7_isEven_0 : decode cX7_isEven 0 = .ok (.iconst 0, 1) := by decide +kernel
theorem dX7_isEven_1 : decode cX7_isEven 1 = .ok (.istore_n 1, 1) := by decide +kernel
theorem dX7_isEven_2 : decode cX7_isEven 2 = .ok (.iload_n 1, 1) := by decide +kernel
theorem dX7_isEven_3 : decode cX7_isEven 3 = .ok (.aload_n 0, 1) := by decide +kernel
theorem dX7_isEven_4 : decode cX7_isEven 4 = .ok (.getfield 172, 3) := by decide +kernel
theorem dX7_isEven_7 : decode cX7_isEven 7 = .ok (.if_icmp .ge 16, 3) := by decide +kernel
theorem dX7_isEven_10 : decode cX7_isEven 10 = .ok (.aload_n 0, 1) := by decide +kernel
theorem dX7_isEven_11 : decode cX7_isEven 11 = .ok (.getfield 68, 3) := by decide +kernel
theorem dX7_isEven_14 : decode cX7_isEven 14 = .ok (.iload_n 1, 1) := by decide +kernel
theorem dX7_isEven_15 : decode cX7_isEven 15 = .ok (.iconst (-1), 1) := by decide +kernel
theorem dX7_isEven_16 : decode cX7_isEven 16 = .ok (.iastore, 1) := by decide +kernel
theorem dX7_isEven_17 : decode cX7_isEven 17 = .ok (.iinc 1 1, 3) := by decide +kernel
theorem dX7_isEven_20 : decode cX7_isEven 20 = .ok (.goto (-18), 3) := by decide +kernel
theorem dX7_isEven_23 : decode cX7_isEven 23 = .ok (.iconst 0, 1) := by decide +kernel
theorem dX7_isEven_24 : decode cX7_isEven 24 = .ok (.istore_n 1, 1) := by decide +kernel
theorem dX7_isEven_25 : decode cX7_isEven 25 = .ok (.iload_n 1, 1) := by decide +kernel
theorem dX7_isEven_26 : decode cX7_isEven 26 = .ok (.aload_n 0, 1) := by decide +kernel
theorem dX7_isEven_27 : decode cX7_isEven 27 = .ok (.getfield 172, 3) := by decide +kernel
theorem dX7_isEven_30 : decode cX7_isEven 30 = .ok (.if_icmp .ge 76, 3) := by decide +kernel
theorem dX7_isEven_33 : decode cX7_isEven 33 = .ok (.aload_n 0, 1) := by decide +kernel
theorem dX7_isEven_34 : decode cX7_isEven 34 = .ok (.getfield 68, 3) := by decide +kernel
theorem dX7_isEven_37 : decode cX7_isEven 37 = .ok (.iload_n 1, 1) := by decide +kernel
theorem dX7_isEven_38 : decode cX7_isEven 38 = .ok (.iaload, 1) := by decide +kernel
theorem dX7_isEven_39 : decode cX7_isEven 39 = .ok (.ifCond .lt 6, 3) := by decide +kernel
theorem dX7_isEven_42 : decode cX7_isEven 42 = .ok (.goto 58, 3) := by decide +kernel
theorem dX7_isEven_45 : decode cX7_isEven 45 = .ok (.aload_n 0, 1) := by decide +kernel
theorem dX7_isEven_46 : decode cX7_isEven 46 = .ok (.iload_n 1, 1) := by decide +kernel
theorem dX7_isEven_47 : decode cX7_isEven 47 = .ok (.invokevirtual 188, 3) := by decide +kernel
theorem dX7_isEven_50 : decode cX7_isEven 50 = .ok (.iconst 0, 1) := by decide +kernel
theorem dX7_isEven_51 : decode cX7_isEven 51 = .ok (.istore_n 2, 1) := by decide +kernel
theorem dX7_isEven_52 : decode cX7_isEven 52 = .ok (.iload_n 2, 1) := by decide +kernel
theorem dX7_isEven_53 : decode cX7_isEven 53 = .ok (.aload_n 0, 1) := by decide +kernel
theorem dX7_isEven_54 : decode cX7_isEven 54 = .ok (.getfield 172, 3) := by decide +kernel
theorem dX7_isEven_57 : decode cX7_isEven 57 = .ok (.if_icmp .ge 43, 3) := by decide +kernel
theorem dX7_isEven_60 : decode cX7_isEven 60 = .ok (.aload_n 0, 1) := by decide +kernel
theorem dX7_isEven_61 : decode cX7_isEven 61 = .ok (.getfield 68, 3) := by decide +kernel
theorem dX7_isEven_64 : decode cX7_isEven 64 = .ok (.iload_n 2, 1) := by decide +kernel
theorem dX7_isEven_65 : decode cX7_isEven 65 = .ok (.aload_n 0, 1) := by decide +kernel
theorem dX7_isEven_66 : decode cX7_isEven 66 = .ok (.getfield 71, 3) := by decide +kernel
theorem dX7_isEven_69 : decode cX7_isEven 69 = .ok (.iload_n 2, 1) := by decide +kernel
theorem dX7_isEven_70 : decode cX7_isEven 70 = .ok (.iaload, 1) := by decide +kernel
theorem dX7_isEven_71 : decode cX7_isEven 71 = .ok (.bipush 99, 2) := by decide +kernel
theorem dX7_isEven_73 : decode cX7_isEven 73 = .ok (.if_icmp .ge 14, 3) := by decide +kernel
theorem dX7_isEven_76 : decode cX7_isEven 76 = .ok (.aload_n 0, 1) := by decide +kernel
theorem dX7_isEven_77 : decode cX7_isEven 77 = .ok (.getfield 71, 3) := by decide +kernel
theorem dX7_isEven_80 : decode cX7_isEven 80 = .ok (.iload_n 2, 1) := by decide +kernel
theorem dX7_isEven_81 : decode cX7_isEven 81 = .ok (.iaload, 1) := by decide +kernel
theorem dX7_isEven_82 : decode cX7_isEven 82 = .ok (.iconst 2, 1) := by decide +kernel
theorem dX7_isEven_83 : decode cX7_isEven 83 = .ok (.irem, 1) := by decide +kernel
theorem dX7_isEven_84 : decode cX7_isEven 84 = .ok (.goto 9, 3) := by decide +kernel
theorem dX7_isEven_87 : decode cX7_isEven 87 = .ok (.aload_n 0, 1) := by decide +kernel
theorem dX7_isEven_88 : decode cX7_isEven 88 = .ok (.getfield 68, 3) := by decide +kernel
theorem dX7_isEven_91 : decode cX7_isEven 91 = .ok (.iload_n 2, 1) := by decide +kernel
theorem dX7_isEven_92 : decode cX7_isEven 92 = .ok (.iaload, 1) := by decide +kernel
theorem dX7_isEven_93 : decode cX7_isEven 93 = .ok (.iastore, 1) := by decide +kernel
theorem dX7_isEven_94 : decode cX7_isEven 94 = .ok (.iinc 2 1, 3) := by decide +kernel
theorem dX7_isEven_97 : decode cX7_isEven 97 = .ok (.goto (-45), 3) := by decide +kernel
theorem dX7_isEven_100 : decode cX7_isEven 100 = .ok (.iinc 1 1, 3) := by decide +kernel
theorem dX7_isEven_103 : decode cX7_isEven 103 = .ok (.goto (-78), 3) := by decide +kernel
theorem dX7_isEven_106 : decode cX7_isEven 106 = .ok (.iconst 0, 1) := by decide +kernel
theorem dX7_isEven_107 : decode cX7_isEven 107 = .ok (.istore_n 1, 1) := by decide +kernel
theorem dX7_isEven_108 : decode cX7_isEven 108 = .ok (.iload_n 1, 1) := by decide +kernel
theorem dX7_isEven_109 : decode cX7_isEven 109 = .ok (.aload_n 0, 1) := by decide +kernel
theorem dX7_isEven_110 : decode cX7_isEven 110 = .ok (.getfield 172, 3) := by decide +kernel
theorem dX7_isEven_113 : decode cX7_isEven 113 = .ok (.if_icmp .ge 51, 3) := by decide +kernel
theorem dX7_isEven_116 : decode cX7_isEven 116 = .ok (.iconst 0, 1) := by decide +kernel
theorem dX7_isEven_117 : decode cX7_isEven 117 = .ok (.istore_n 2, 1) := by decide +kernel
theorem dX7_isEven_118 : decode cX7_isEven 118 = .ok (.iload_n 2, 1) := by decide +kernel
theorem dX7_isEven_119 : decode cX7_isEven 119 = .ok (.aload_n 0, 1) := by decide +kernel
theorem dX7_isEven_120 : decode cX7_isEven 120 = .ok (.getfield 172, 3) := by decide +kernel
theorem dX7_isEven_123 : decode cX7_isEven 123 = .ok (.if_icmp .ge 35, 3) := by decide +kernel
theorem dX7_isEven_126 : decode cX7_isEven 126 = .ok (.aload_n 0, 1) := by decide +kernel
theorem dX7_isEven_127 : decode cX7_isEven 127 = .ok (.iload_n 1, 1) := by decide +kernel
theorem dX7_isEven_128 : decode cX7_isEven 128 = .ok (.iload_n 2, 1) := by decide +kernel
theorem dX7_isEven_129 : decode cX7_isEven 129 = .ok (.invokevirtual 178, 3) := by decide +kernel
theorem dX7_isEven_132 : decode cX7_isEven 132 = .ok (.ifCond .eq 20, 3) := by decide +kernel
theorem dX7_isEven_135 : decode cX7_isEven 135 = .ok (.aload_n 0, 1) := by decide +kernel
theorem dX7_isEven_136 : decode cX7_isEven 136 = .ok (.getfield 68, 3) := by decide +kernel
theorem dX7_isEven_139 : decode cX7_isEven 139 = .ok (.iload_n 1, 1) := by decide +kernel
theorem dX7_isEven_140 : decode cX7_isEven 140 = .ok (.iaload, 1) := by decide +kernel
theorem dX7_isEven_141 : decode cX7_isEven 141 = .ok (.aload_n 0, 1) := by decide +kernel
theorem dX7_isEven_142 : decode cX7_isEven 142 = .ok (.getfield 68, 3) := by decide +kernel
theorem dX7_isEven_145 : decode cX7_isEven 145 = .ok (.iload_n 2, 1) := by decide +kernel
theorem dX7_isEven_146 : decode cX7_isEven 146 = .ok (.iaload, 1) := by decide +kernel
theorem dX7_isEven_147 : decode cX7_isEven 147 = .ok (.if_icmp .ne 5, 3) := by decide +kernel
theorem dX7_isEven_150 : decode cX7_isEven 150 = .ok (.iconst 0, 1) := by decide +kernel
theorem dX7_isEven_151 : decode cX7_isEven 151 = .ok (.ireturn, 1) := by decide +kernel
theorem dX7_isEven_152 : decode cX7_isEven 152 = .ok (.iinc 2 1, 3) := by decide +kernel
theorem dX7_isEven_155 : decode cX7_isEven 155 = .ok (.goto (-37), 3) := by decide +kernel
theorem dX7_isEven_158 : decode cX7_isEven 158 = .ok (.iinc 1 1, 3) := by decide +kernel
theorem dX7_isEven_161 : decode cX7_isEven 161 = .ok (.goto (-53), 3) := by decide +kernel
theorem dX7_isEven_164 : decode cX7_isEven 164 = .ok (.iconst 1, 1) := by decide +kernel
theorem dX7_isEven_165 : decode cX7_isEven 165 = .ok (.ireturn, 1) := by decide +kernel
theorem dX7_even_0 : decode cX7_even 0 = .ok (.aload_n 0, 1) := by decide +kernel
theorem dX7_even_1 : decode cX7_even 1 = .ok (.iconst 0, 1) := by decide +kernel
theorem dX7_even_2 : decode cX7_even 2 = .ok (.putfield 81, 3) := by decide +kernel
theorem dX7_even_5 : decode cX7_even 5 = .ok (.aload_n 0, 1) := by decide +kernel
theorem dX7_even_6 : decode cX7_even 6 = .ok (.invokevirtual 191, 3) := by decide +kernel
theorem dX7_even_9 : decode cX7_even 9 = .ok (.ireturn, 1) := by decide +kernel
theorem dX7_parity_0 : decode cX7_parity 0 = .ok (.aload_n 0, 1) := by decide +kernel
theorem dX7_parity_1 : decode cX7_parity 1 = .ok (.iconst 0, 1) := by decide +kernel
theorem dX7_parity_2 : decode cX7_parity 2 = .ok (.putfield 81, 3) := by decide +kernel
theorem dX7_parity_5 : decode cX7_parity 5 = .ok (.aload_n 0, 1) := by decide +kernel
theorem dX7_parity_6 : decode cX7_parity 6 = .ok (.getfield 172, 3) := by decide +kernel
theorem dX7_parity_9 : decode cX7_parity 9 = .ok (.ifCond .eq 10, 3) := by decide +kernel
theorem dX7_parity_12 : decode cX7_parity 12 = .ok (.aload_n 0, 1) := by decide +kernel
theorem dX7_parity_13 : decode cX7_parity 13 = .ok (.invokevirtual 191, 3) := by decide +kernel
theorem dX7_parity_16 : decode cX7_parity 16 = .ok (.ifCond .ne 5, 3) := by decide +kernel
theorem dX7_parity_19 : decode cX7_parity 19 = .ok (.iconst (-1), 1) := by decide +kernel
theorem dX7_parity_20 : decode cX7_parity 20 = .ok (.ireturn, 1) := by decide +kernel
theorem dX7_parity_21 : decode cX7_parity 21 = .ok (.iconst 0, 1) := by decide +kernel
theorem dX7_parity_22 : decode cX7_parity 22 = .ok (.istore_n 1, 1) := by decide +kernel
theorem dX7_parity_23 : decode cX7_parity 23 = .ok (.iconst 0, 1) := by decide +kernel
theorem dX7_parity_24 : decode cX7_parity 24 = .ok (.istore_n 2, 1) := by decide +kernel
theorem dX7_parity_25 : decode cX7_parity 25 = .ok (.iload_n 2, 1) := by decide +kernel
theorem dX7_parity_26 : decode cX7_parity 26 = .ok (.aload_n 0, 1) := by decide +kernel
theorem dX7_parity_27 : decode cX7_parity 27 = .ok (.getfield 172, 3) := by decide +kernel
theorem dX7_parity_30 : decode cX7_parity 30 = .ok (.if_icmp .ge 50, 3) := by decide +kernel
theorem dX7_parity_33 : decode cX7_parity 33 = .ok (.iload_n 2, 1) := by decide +kernel
theorem dX7_parity_34 : decode cX7_parity 34 = .ok (.iconst 1, 1) := by decide +kernel
theorem dX7_parity_35 : decode cX7_parity 35 = .ok (.iadd, 1) := by decide +kernel
theorem dX7_parity_36 : decode cX7_parity 36 = .ok (.istore_n 3, 1) := by decide +kernel
theorem dX7_parity_37 : decode cX7_parity 37 = .ok (.iload_n 3, 1) := by decide +kernel
theorem dX7_parity_38 : decode cX7_parity 38 = .ok (.aload_n 0, 1) := by decide +kernel
theorem dX7_parity_39 : decode cX7_parity 39 = .ok (.getfield 172, 3) := by decide +kernel
theorem dX7_parity_42 : decode cX7_parity 42 = .ok (.if_icmp .ge 32, 3) := by decide +kernel
theorem dX7_parity_45 : decode cX7_parity 45 = .ok (.iload_n 1, 1) := by decide +kernel
theorem dX7_parity_46 : decode cX7_parity 46 = .ok (.aload_n 0, 1) := by decide +kernel
theorem dX7_parity_47 : decode cX7_parity 47 = .ok (.getfield 55, 3) := by decide +kernel
theorem dX7_parity_50 : decode cX7_parity 50 = .ok (.iload_n 2, 1) := by decide +kernel
theorem dX7_parity_51 : decode cX7_parity 51 = .ok (.iaload, 1) := by decide +kernel
theorem dX7_parity_52 : decode cX7_parity 52 = .ok (.aload_n 0, 1) := by decide +kernel
theorem dX7_parity_53 : decode cX7_parity 53 = .ok (.getfield 55, 3) := by decide +kernel
theorem dX7_parity_56 : decode cX7_parity 56 = .ok (.iload_n 3, 1) := by decide +kernel
theorem dX7_parity_57 : decode cX7_parity 57 = .ok (.iaload, 1) := by decide +kernel
theorem dX7_parity_58 : decode cX7_parity 58 = .ok (.if_icmp .le 7, 3) := by decide +kernel
theorem dX7_parity_61 : decode cX7_parity 61 = .ok (.iconst 1, 1) := by decide +kernel
theorem dX7_parity_62 : decode cX7_parity 62 = .ok (.goto 4, 3) := by decide +kernel
theorem dX7_parity_65 : decode cX7_parity 65 = .ok (.iconst 0, 1) := by decide +kernel
theorem dX7_parity_66 : decode cX7_parity 66 = .ok (.iadd, 1) := by decide +kernel
theorem dX7_parity_67 : decode cX7_parity 67 = .ok (.istore_n 1, 1) := by decide +kernel
theorem dX7_parity_68 : decode cX7_parity 68 = .ok (.iinc 3 1, 3) := by decide +kernel
theorem dX7_parity_71 : decode cX7_parity 71 = .ok (.goto (-34), 3) := by decide +kernel
theorem dX7_parity_74 : decode cX7_parity 74 = .ok (.iinc 2 1, 3) := by decide +kernel
theorem dX7_parity_77 : decode cX7_parity 77 = .ok (.goto (-52), 3) := by decide +kernel
theorem dX7_parity_80 : decode cX7_parity 80 = .ok (.aload_n 0, 1) := by decide +kernel
theorem dX7_parity_81 : decode cX7_parity 81 = .ok (.aload_n 0, 1) := by decide +kernel
theorem dX7_parity_82 : decode cX7_parity 82 = .ok (.invokevirtual 181, 3) := by decide +kernel
theorem dX7_parity_85 : decode cX7_parity 85 = .ok (.invokevirtual 188, 3) := by decide +kernel
theorem dX7_parity_88 : decode cX7_parity 88 = .ok (.iconst 0, 1) := by decide +kernel
theorem dX7_parity_89 : decode cX7_parity 89 = .ok (.istore_n 2, 1) := by decide +kernel
theorem dX7_parity_90 : decode cX7_parity 90 = .ok (.aload_n 0, 1) := by decide +kernel
theorem dX7_parity_91 : decode cX7_parity 91 = .ok (.getfield 71, 3) := by decide +kernel
theorem dX7_parity_94 : decode cX7_parity 94 = .ok (.iload_n 2, 1) := by decide +kernel
theorem dX7_parity_95 : decode cX7_parity 95 = .ok (.iaload, 1) := by decide +kernel
theorem dX7_parity_96 : decode cX7_parity 96 = .ok (.bipush 99, 2) := by decide +kernel
theorem dX7_parity_98 : decode cX7_parity 98 = .ok (.if_icmp .ne 9, 3) := by decide +kernel
theorem dX7_parity_101 : decode cX7_parity 101 = .ok (.iinc 2 1, 3) := by decide +kernel
theorem dX7_parity_104 : decode cX7_parity 104 = .ok (.goto (-14), 3) := by decide +kernel
theorem dX7_parity_107 : decode cX7_parity 107 = .ok (.iload_n 1, 1) := by decide +kernel
theorem dX7_parity_108 : decode cX7_parity 108 = .ok (.aload_n 0, 1) := by decide +kernel
theorem dX7_parity_109 : decode cX7_parity 109 = .ok (.getfield 71, 3) := by decide +kernel
theorem dX7_parity_112 : decode cX7_parity 112 = .ok (.iload_n 2, 1) := by decide +kernel
theorem dX7_parity_113 : decode cX7_parity 113 = .ok (.iaload, 1) := by decide +kernel
theorem dX7_parity_114 : decode cX7_parity 114 = .ok (.iadd, 1) := by decide +kernel
theorem dX7_parity_115 : decode cX7_parity 115 = .ok (.iconst 2, 1) := by decide +kernel
theorem dX7_parity_116 : decode cX7_parity 116 = .ok (.irem, 1) := by decide +kernel
theorem dX7_parity_117 : decode cX7_parity 117 = .ok (.ireturn, 1) := by decide +kernel
theorem dX7_rank_0 : decode cX7_rank 0 = .ok (.iconst 0, 1) := by decide +kernel
theorem dX7_rank_1 : decode cX7_rank 1 = .ok (.istore_n 1, 1) := by decide +kernel
theorem dX7_rank_2 : decode cX7_rank 2 = .ok (.iconst 0, 1) := by decide +kernel
theorem dX7_rank_3 : decode cX7_rank 3 = .ok (.istore_n 2, 1) := by decide +kernel
theorem dX7_rank_4 : decode cX7_rank 4 = .ok (.iload_n 2, 1) := by decide +kernel
theorem dX7_rank_5 : decode cX7_rank 5 = .ok (.aload_n 0, 1) := by decide +kernel
theorem dX7_rank_6 : decode cX7_rank 6 = .ok (.getfield 172, 3) := by decide +kernel
theorem dX7_rank_9 : decode cX7_rank 9 = .ok (.if_icmp .ge 66, 3) := by decide +kernel
theorem dX7_rank_12 : decode cX7_rank 12 = .ok (.iconst 0, 1) := by decide +kernel
theorem dX7_rank_13 : decode cX7_rank 13 = .ok (.istore_n 3, 1) := by decide +kernel
theorem dX7_rank_14 : decode cX7_rank 14 = .ok (.iload_n 2, 1) := by decide +kernel
theorem dX7_rank_15 : decode cX7_rank 15 = .ok (.iconst 1, 1) := by decide +kernel
theorem dX7_rank_16 : decode cX7_rank 16 = .ok (.iadd, 1) := by decide +kernel
theorem dX7_rank_17 : decode cX7_rank 17 = .ok (.istore 4, 2) := by decide +kernel
theorem dX7_rank_19 : decode cX7_rank 19 = .ok (.iload 4, 2) := by decide +kernel
theorem dX7_rank_21 : decode cX7_rank 21 = .ok (.aload_n 0, 1) := by decide +kernel
theorem dX7_rank_22 : decode cX7_rank 22 = .ok (.getfield 172, 3) := by decide +kernel
theorem dX7_rank_25 : decode cX7_rank 25 = .ok (.if_icmp .ge 33, 3) := by decide +kernel
theorem dX7_rank_28 : decode cX7_rank 28 = .ok (.iload_n 3, 1) := by decide +kernel
theorem dX7_rank_29 : decode cX7_rank 29 = .ok (.aload_n 0, 1) := by decide +kernel
theorem dX7_rank_30 : decode cX7_rank 30 = .ok (.getfield 58, 3) := by decide +kernel
theorem dX7_rank_33 : decode cX7_rank 33 = .ok (.iload 4, 2) := by decide +kernel
theorem dX7_rank_35 : decode cX7_rank 35 = .ok (.iaload, 1) := by decide +kernel
theorem dX7_rank_36 : decode cX7_rank 36 = .ok (.aload_n 0, 1) := by decide +kernel
theorem dX7_rank_37 : decode cX7_rank 37 = .ok (.getfield 58, 3) := by decide +kernel
theorem dX7_rank_40 : decode cX7_rank 40 = .ok (.iload_n 2, 1) := by decide +kernel
theorem dX7_rank_41 : decode cX7_rank 41 = .ok (.iaload, 1) := by decide +kernel
theorem dX7_rank_42 : decode cX7_rank 42 = .ok (.if_icmp .ge 7, 3) := by decide +kernel
theorem dX7_rank_45 : decode cX7_rank 45 = .ok (.iconst 1, 1) := by decide +kernel
theorem dX7_rank_46 : decode cX7_rank 46 = .ok (.goto 4, 3) := by decide +kernel
theorem dX7_rank_49 : decode cX7_rank 49 = .ok (.iconst 0, 1) := by decide +kernel
theorem dX7_rank_50 : decode cX7_rank 50 = .ok (.iadd, 1) := by decide +kernel
theorem dX7_rank_51 : decode cX7_rank 51 = .ok (.istore_n 3, 1) := by decide +kernel
theorem dX7_rank_52 : decode cX7_rank 52 = .ok (.iinc 4 1, 3) := by decide +kernel
theorem dX7_rank_55 : decode cX7_rank 55 = .ok (.goto (-36), 3) := by decide +kernel
theorem dX7_rank_58 : decode cX7_rank 58 = .ok (.iload_n 1, 1) := by decide +kernel
theorem dX7_rank_59 : decode cX7_rank 59 = .ok (.aload_n 0, 1) := by decide +kernel
theorem dX7_rank_60 : decode cX7_rank 60 = .ok (.getfield 172, 3) := by decide +kernel
theorem dX7_rank_63 : decode cX7_rank 63 = .ok (.iload_n 2, 1) := by decide +kernel
theorem dX7_rank_64 : decode cX7_rank 64 = .ok (.isub, 1) := by decide +kernel
theorem dX7_rank_65 : decode cX7_rank 65 = .ok (.imul, 1) := by decide +kernel
theorem dX7_rank_66 : decode cX7_rank 66 = .ok (.iload_n 3, 1) := by decide +kernel
theorem dX7_rank_67 : decode cX7_rank 67 = .ok (.iadd, 1) := by decide +kernel
theorem dX7_rank_68 : decode cX7_rank 68 = .ok (.istore_n 1, 1) := by decide +kernel
theorem dX7_rank_69 : decode cX7_rank 69 = .ok (.iinc 2 1, 3) := by decide +kernel
theorem dX7_rank_72 : decode cX7_rank 72 = .ok (.goto (-68), 3) := by decide +kernel
theorem dX7_rank_75 : decode cX7_rank 75 = .ok (.iload_n 1, 1) := by decide +kernel
theorem dX7_rank_76 : decode cX7_rank 76 = .ok (.ireturn, 1) := by decide +kernel
theorem dX7_unrank_0 : decode cX7_unrank 0 = .ok (.iload_n 1, 1) := by decide +kernel
theorem dX7_unrank_1 : decode cX7_unrank 1 = .ok (.istore_n 2, 1) := by decide +kernel
theorem dX7_unrank_2 : decode cX7_unrank 2 = .ok (.aload_n 0, 1) := by decide +kernel
theorem dX7_unrank_3 : decode cX7_unrank 3 = .ok (.getfield 172, 3) := by decide +kernel
theorem dX7_unrank_6 : decode cX7_unrank 6 = .ok (.iconst 1, 1) := by decide +kernel
theorem dX7_unrank_7 : decode cX7_unrank 7 = .ok (.isub, 1) := by decide +kernel
theorem dX7_unrank_8 : decode cX7_unrank 8 = .ok (.istore_n 3, 1) := by decide +kernel
theorem dX7_unrank_9 : decode cX7_unrank 9 = .ok (.iload_n 3, 1) := by decide +kernel
theorem dX7_unrank_10 : decode cX7_unrank 10 = .ok (.ifCond .lt 32, 3) := by decide +kernel
theorem dX7_unrank_13 : decode cX7_unrank 13 = .ok (.aload_n 0, 1) := by decide +kernel
theorem dX7_unrank_14 : decode cX7_unrank 14 = .ok (.getfield 58, 3) := by decide +kernel
theorem dX7_unrank_17 : decode cX7_unrank 17 = .ok (.iload_n 3, 1) := by decide +kernel
theorem dX7_unrank_18 : decode cX7_unrank 18 = .ok (.iload_n 2, 1) := by decide +kernel
theorem dX7_unrank_19 : decode cX7_unrank 19 = .ok (.aload_n 0, 1) := by decide +kernel
theorem dX7_unrank_20 : decode cX7_unrank 20 = .ok (.getfield 172, 3) := by decide +kernel
theorem dX7_unrank_23 : decode cX7_unrank 23 = .ok (.iload_n 3, 1) := by decide +kernel
theorem dX7_unrank_24 : decode cX7_unrank 24 = .ok (.isub, 1) := by decide +kernel
theorem dX7_unrank_25 : decode cX7_unrank 25 = .ok (.irem, 1) := by decide +kernel
theorem dX7_unrank_26 : decode cX7_unrank 26 = .ok (.iastore, 1) := by decide +kernel
theorem dX7_unrank_27 : decode cX7_unrank 27 = .ok (.iload_n 2, 1) := by decide +kernel
theorem dX7_unrank_28 : decode cX7_unrank 28 = .ok (.aload_n 0, 1) := by decide +kernel
theorem dX7_unrank_29 : decode cX7_unrank 29 = .ok (.getfield 172, 3) := by decide +kernel
theorem dX7_unrank_32 : decode cX7_unrank 32 = .ok (.iload_n 3, 1) := by decide +kernel
theorem dX7_unrank_33 : decode cX7_unrank 33 = .ok (.isub, 1) := by decide +kernel
theorem dX7_unrank_34 : decode cX7_unrank 34 = .ok (.idiv, 1) := by decide +kernel
theorem dX7_unrank_35 : decode cX7_unrank 35 = .ok (.istore_n 2, 1) := by decide +kernel
theorem dX7_unrank_36 : decode cX7_unrank 36 = .ok (.iinc 3 (-1), 3) := by decide +kernel
theorem dX7_unrank_39 : decode cX7_unrank 39 = .ok (.goto (-30), 3) := by decide +kernel
theorem dX7_unrank_42 : decode cX7_unrank 42 = .ok (.aload_n 0, 1) := by decide +kernel
theorem dX7_unrank_43 : decode cX7_unrank 43 = .ok (.getfield 172, 3) := by decide +kernel
theorem dX7_unrank_46 : decode cX7_unrank 46 = .ok (.iconst 1, 1) := by decide +kernel
theorem dX7_unrank_47 : decode cX7_unrank 47 = .ok (.isub, 1) := by decide +kernel
theorem dX7_unrank_48 : decode cX7_unrank 48 = .ok (.istore_n 3, 1) := by decide +kernel
theorem dX7_unrank_49 : decode cX7_unrank 49 = .ok (.iload_n 3, 1) := by decide +kernel
theorem dX7_unrank_50 : decode cX7_unrank 50 = .ok (.ifCond .lt 60, 3) := by decide +kernel
theorem dX7_unrank_53 : decode cX7_unrank 53 = .ok (.iload_n 3, 1) := by decide +kernel
theorem dX7_unrank_54 : decode cX7_unrank 54 = .ok (.iconst 1, 1) := by decide +kernel
theorem dX7_unrank_55 : decode cX7_unrank 55 = .ok (.iadd, 1) := by decide +kernel
theorem dX7_unrank_56 : decode cX7_unrank 56 = .ok (.istore 4, 2) := by decide +kernel
theorem dX7_unrank_58 : decode cX7_unrank 58 = .ok (.iload 4, 2) := by decide +kernel
theorem dX7_unrank_60 : decode cX7_unrank 60 = .ok (.aload_n 0, 1) := by decide +kernel
theorem dX7_unrank_61 : decode cX7_unrank 61 = .ok (.getfield 172, 3) := by decide +kernel
theorem dX7_unrank_64 : decode cX7_unrank 64 = .ok (.if_icmp .ge 40, 3) := by decide +kernel
theorem dX7_unrank_67 : decode cX7_unrank 67 = .ok (.aload_n 0, 1) := by decide +kernel
theorem dX7_unrank_68 : decode cX7_unrank 68 = .ok (.getfield 58, 3) := by decide +kernel
theorem dX7_unrank_71 : decode cX7_unrank 71 = .ok (.iload 4, 2) := by decide +kernel
theorem dX7_unrank_73 : decode cX7_unrank 73 = .ok (.dup2, 1) := by decide +kernel
theorem dX7_unrank_74 : decode cX7_unrank 74 = .ok (.iaload, 1) := by decide +kernel
theorem dX7_unrank_75 : decode cX7_unrank 75 = .ok (.aload_n 0, 1) := by decide +kernel
theorem dX7_unrank_76 : decode cX7_unrank 76 = .ok (.getfield 58, 3) := by decide +kernel
theorem dX7_unrank_79 : decode cX7_unrank 79 = .ok (.iload 4, 2) := by decide +kernel
theorem dX7_unrank_81 : decode cX7_unrank 81 = .ok (.iaload, 1) := by decide +kernel
theorem dX7_unrank_82 : decode cX7_unrank 82 = .ok (.aload_n 0, 1) := by decide +kernel
theorem dX7_unrank_83 : decode cX7_unrank 83 = .ok (.getfield 58, 3) := by decide +kernel
theorem dX7_unrank_86 : decode cX7_unrank 86 = .ok (.iload_n 3, 1) := by decide +kernel
theorem dX7_unrank_87 : decode cX7_unrank 87 = .ok (.iaload, 1) := by decide +kernel
theorem dX7_unrank_88 : decode cX7_unrank 88 = .ok (.if_icmp .lt 7, 3) := by decide +kernel
theorem dX7_unrank_91 : decode cX7_unrank 91 = .ok (.iconst 1, 1) := by decide +kernel
theorem dX7_unrank_92 : decode cX7_unrank 92 = .ok (.goto 4, 3) := by decide +kernel
theorem dX7_unrank_95 : decode cX7_unrank 95 = .ok (.iconst 0, 1) := by decide +kernel
theorem dX7_unrank_96 : decode cX7_unrank 96 = .ok (.iadd, 1) := by decide +kernel
theorem dX7_unrank_97 : decode cX7_unrank 97 = .ok (.iastore, 1) := by decide +kernel
theorem dX7_unrank_98 : decode cX7_unrank 98 = .ok (.iinc 4 1, 3) := by decide +kernel
theorem dX7_unrank_101 : decode cX7_unrank 101 = .ok (.goto (-43), 3) := by decide +kernel
theorem dX7_unrank_104 : decode cX7_unrank 104 = .ok (.iinc 3 (-1), 3) := by decide +kernel
theorem dX7_unrank_107 : decode cX7_unrank 107 = .ok (.goto (-58), 3) := by decide +kernel
theorem dX7_unrank_110 : decode cX7_unrank 110 = .ok (.return_, 1) := by decide +kernel
theorem dX7_go_0 : decode cX7_go 0 = .ok (.iconst 0, 1) := by decide +kernel
theorem dX7_go_1 : decode cX7_go 1 = .ok (.istore_n 1, 1) := by decide +kernel
theorem dX7_go_2 : decode cX7_go 2 = .ok (.iload_n 1, 1) := by decide +kernel
theorem dX7_go_3 : decode cX7_go 3 = .ok (.ldc 61, 2) := by decide +kernel
theorem dX7_go_5 : decode cX7_go 5 = .ok (.if_icmp .ge 16, 3) := by decide +kernel
theorem dX7_go_8 : decode cX7_go 8 = .ok (.aload_n 0, 1) := by decide +kernel
theorem dX7_go_9 : decode cX7_go 9 = .ok (.getfield 62, 3) := by decide +kernel
theorem dX7_go_12 : decode cX7_go 12 = .ok (.iload_n 1, 1) := by decide +kernel
theorem dX7_go_13 : decode cX7_go 13 = .ok (.iconst 0, 1) := by decide +kernel
theorem dX7_go_14 : decode cX7_go 14 = .ok (.bastore, 1) := by decide +kernel
theorem dX7_go_15 : decode cX7_go 15 = .ok (.iinc 1 1, 3) := by decide +kernel
theorem dX7_go_18 : decode cX7_go 18 = .ok (.goto (-16), 3) := by decide +kernel
theorem dX7_go_21 : decode cX7_go 21 = .ok (.iconst 0, 1) := by decide +kernel
theorem dX7_go_22 : decode cX7_go 22 = .ok (.istore_n 1, 1) := by decide +kernel
theorem dX7_go_23 : decode cX7_go 23 = .ok (.iload_n 1, 1) := by decide +kernel
theorem dX7_go_24 : decode cX7_go 24 = .ok (.aload_n 0, 1) := by decide +kernel
theorem dX7_go_25 : decode cX7_go 25 = .ok (.getfield 172, 3) := by decide +kernel
theorem dX7_go_28 : decode cX7_go 28 = .ok (.if_icmp .ge 21, 3) := by decide +kernel
theorem dX7_go_31 : decode cX7_go 31 = .ok (.aload_n 0, 1) := by decide +kernel
theorem dX7_go_32 : decode cX7_go 32 = .ok (.getfield 58, 3) := by decide +kernel
theorem dX7_go_35 : decode cX7_go 35 = .ok (.iload_n 1, 1) := by decide +kernel
theorem dX7_go_36 : decode cX7_go 36 = .ok (.aload_n 0, 1) := by decide +kernel
theorem dX7_go_37 : decode cX7_go 37 = .ok (.getfield 55, 3) := by decide +kernel
theorem dX7_go_40 : decode cX7_go 40 = .ok (.iload_n 1, 1) := by decide +kernel
theorem dX7_go_41 : decode cX7_go 41 = .ok (.iaload, 1) := by decide +kernel
theorem dX7_go_42 : decode cX7_go 42 = .ok (.iastore, 1) := by decide +kernel
theorem dX7_go_43 : decode cX7_go 43 = .ok (.iinc 1 1, 3) := by decide +kernel
theorem dX7_go_46 : decode cX7_go 46 = .ok (.goto (-23), 3) := by decide +kernel
theorem dX7_go_49 : decode cX7_go 49 = .ok (.aload_n 0, 1) := by decide +kernel
theorem dX7_go_50 : decode cX7_go 50 = .ok (.getfield 65, 3) := by decide +kernel
theorem dX7_go_53 : decode cX7_go 53 = .ok (.iconst 0, 1) := by decide +kernel
theorem dX7_go_54 : decode cX7_go 54 = .ok (.aload_n 0, 1) := by decide +kernel
theorem dX7_go_55 : decode cX7_go 55 = .ok (.invokevirtual 195, 3) := by decide +kernel
theorem dX7_go_58 : decode cX7_go 58 = .ok (.iastore, 1) := by decide +kernel
theorem dX7_go_59 : decode cX7_go 59 = .ok (.aload_n 0, 1) := by decide +kernel
theorem dX7_go_60 : decode cX7_go 60 = .ok (.getfield 62, 3) := by decide +kernel
theorem dX7_go_63 : decode cX7_go 63 = .ok (.aload_n 0, 1) := by decide +kernel
theorem dX7_go_64 : decode cX7_go 64 = .ok (.getfield 65, 3) := by decide +kernel
theorem dX7_go_67 : decode cX7_go 67 = .ok (.iconst 0, 1) := by decide +kernel
theorem dX7_go_68 : decode cX7_go 68 = .ok (.iaload, 1) := by decide +kernel
theorem dX7_go_69 : decode cX7_go 69 = .ok (.iconst 1, 1) := by decide +kernel
theorem dX7_go_70 : decode cX7_go 70 = .ok (.bastore, 1) := by decide +kernel
theorem dX7_go_71 : decode cX7_go 71 = .ok (.iconst 1, 1) := by decide +kernel
theorem dX7_go_72 : decode cX7_go 72 = .ok (.istore_n 1, 1) := by decide +kernel
theorem dX7_go_73 : decode cX7_go 73 = .ok (.iconst 0, 1) := by decide +kernel
theorem dX7_go_74 : decode cX7_go 74 = .ok (.istore_n 2, 1) := by decide +kernel
theorem dX7_go_75 : decode cX7_go 75 = .ok (.iload_n 2, 1) := by decide +kernel
theorem dX7_go_76 : decode cX7_go 76 = .ok (.iload_n 1, 1) := by decide +kernel
theorem dX7_go_77 : decode cX7_go 77 = .ok (.if_icmp .ge 125, 3) := by decide +kernel
theorem dX7_go_80 : decode cX7_go 80 = .ok (.iconst 0, 1) := by decide +kernel
theorem dX7_go_81 : decode cX7_go 81 = .ok (.istore_n 3, 1) := by decide +kernel
theorem dX7_go_82 : decode cX7_go 82 = .ok (.iload_n 3, 1) := by decide +kernel
theorem dX7_go_83 : decode cX7_go 83 = .ok (.aload_n 0, 1) := by decide +kernel
theorem dX7_go_84 : decode cX7_go 84 = .ok (.getfield 172, 3) := by decide +kernel
theorem dX7_go_87 : decode cX7_go 87 = .ok (.if_icmp .ge 109, 3) := by decide +kernel
theorem dX7_go_90 : decode cX7_go 90 = .ok (.aload_n 0, 1) := by decide +kernel
theorem dX7_go_91 : decode cX7_go 91 = .ok (.aload_n 0, 1) := by decide +kernel
theorem dX7_go_92 : decode cX7_go 92 = .ok (.getfield 65, 3) := by decide +kernel
theorem dX7_go_95 : decode cX7_go 95 = .ok (.iload_n 2, 1) := by decide +kernel
theorem dX7_go_96 : decode cX7_go 96 = .ok (.iaload, 1) := by decide +kernel
theorem dX7_go_97 : decode cX7_go 97 = .ok (.invokevirtual 198, 3) := by decide +kernel
theorem dX7_go_100 : decode cX7_go 100 = .ok (.iconst 0, 1) := by decide +kernel
theorem dX7_go_101 : decode cX7_go 101 = .ok (.istore 4, 2) := by decide +kernel
theorem dX7_go_103 : decode cX7_go 103 = .ok (.aload_n 0, 1) := by decide +kernel
theorem dX7_go_104 : decode cX7_go 104 = .ok (.getfield 58, 3) := by decide +kernel
theorem dX7_go_107 : decode cX7_go 107 = .ok (.iload 4, 2) := by decide +kernel
theorem dX7_go_109 : decode cX7_go 109 = .ok (.iaload, 1) := by decide +kernel
theorem dX7_go_110 : decode cX7_go 110 = .ok (.ifCond .eq 9, 3) := by decide +kernel
theorem dX7_go_113 : decode cX7_go 113 = .ok (.iinc 4 1, 3) := by decide +kernel
theorem dX7_go_116 : decode cX7_go 116 = .ok (.goto (-13), 3) := by decide +kernel
theorem dX7_go_119 : decode cX7_go 119 = .ok (.aload_n 0, 1) := by decide +kernel
theorem dX7_go_120 : decode cX7_go 120 = .ok (.iload_n 3, 1) := by decide +kernel
theorem dX7_go_121 : decode cX7_go 121 = .ok (.iload 4, 2) := by decide +kernel
theorem dX7_go_123 : decode cX7_go 123 = .ok (.invokevirtual 178, 3) := by decide +kernel
theorem dX7_go_126 : decode cX7_go 126 = .ok (.ifCond .ne 6, 3) := by decide +kernel
theorem dX7_go_129 : decode cX7_go 129 = .ok (.goto 61, 3) := by decide +kernel
theorem dX7_go_132 : decode cX7_go 132 = .ok (.aload_n 0, 1) := by decide +kernel
theorem dX7_go_133 : decode cX7_go 133 = .ok (.getfield 58, 3) := by decide +kernel
theorem dX7_go_136 : decode cX7_go 136 = .ok (.iload 4, 2) := by decide +kernel
theorem dX7_go_138 : decode cX7_go 138 = .ok (.aload_n 0, 1) := by decide +kernel
theorem dX7_go_139 : decode cX7_go 139 = .ok (.getfield 58, 3) := by decide +kernel
theorem dX7_go_142 : decode cX7_go 142 = .ok (.iload_n 3, 1) := by decide +kernel
theorem dX7_go_143 : decode cX7_go 143 = .ok (.iaload, 1) := by decide +kernel
theorem dX7_go_144 : decode cX7_go 144 = .ok (.iastore, 1) := by decide +kernel
theorem dX7_go_145 : decode cX7_go 145 = .ok (.aload_n 0, 1) := by decide +kernel
theorem dX7_go_146 : decode cX7_go 146 = .ok (.getfield 58, 3) := by decide +kernel
theorem dX7_go_149 : decode cX7_go 149 = .ok (.iload_n 3, 1) := by decide +kernel
theorem dX7_go_150 : decode cX7_go 150 = .ok (.iconst 0, 1) := by decide +kernel
theorem dX7_go_151 : decode cX7_go 151 = .ok (.iastore, 1) := by decide +kernel
theorem dX7_go_152 : decode cX7_go 152 = .ok (.aload_n 0, 1) := by decide +kernel
theorem dX7_go_153 : decode cX7_go 153 = .ok (.invokevirtual 195, 3) := by decide +kernel
theorem dX7_go_156 : decode cX7_go 156 = .ok (.istore 5, 2) := by decide +kernel
theorem dX7_go_158 : decode cX7_go 158 = .ok (.aload_n 0, 1) := by decide +kernel
theorem dX7_go_159 : decode cX7_go 159 = .ok (.getfield 62, 3) := by decide +kernel
theorem dX7_go_162 : decode cX7_go 162 = .ok (.iload 5, 2) := by decide +kernel
theorem dX7_go_164 : decode cX7_go 164 = .ok (.baload, 1) := by decide +kernel
theorem dX7_go_165 : decode cX7_go 165 = .ok (.ifCond .eq 6, 3) := by decide +kernel
theorem dX7_go_168 : decode cX7_go 168 = .ok (.goto 22, 3) := by decide +kernel
theorem dX7_go_171 : decode cX7_go 171 = .ok (.aload_n 0, 1) := by decide +kernel
theorem dX7_go_172 : decode cX7_go 172 = .ok (.getfield 62, 3) := by decide +kernel
theorem dX7_go_175 : decode cX7_go 175 = .ok (.iload 5, 2) := by decide +kernel
theorem dX7_go_177 : decode cX7_go 177 = .ok (.iconst 1, 1) := by decide +kernel
theorem dX7_go_178 : decode cX7_go 178 = .ok (.bastore, 1) := by decide +kernel
theorem dX7_go_179 : decode cX7_go 179 = .ok (.aload_n 0, 1) := by decide +kernel
theorem dX7_go_180 : decode cX7_go 180 = .ok (.getfield 65, 3) := by decide +kernel
theorem dX7_go_183 : decode cX7_go 183 = .ok (.iload_n 1, 1) := by decide +kernel
theorem dX7_go_184 : decode cX7_go 184 = .ok (.iload 5, 2) := by decide +kernel
theorem dX7_go_186 : decode cX7_go 186 = .ok (.iastore, 1) := by decide +kernel
theorem dX7_go_187 : decode cX7_go 187 = .ok (.iinc 1 1, 3) := by decide +kernel
theorem dX7_go_190 : decode cX7_go 190 = .ok (.iinc 3 1, 3) := by decide +kernel
theorem dX7_go_193 : decode cX7_go 193 = .ok (.goto (-111), 3) := by decide +kernel
theorem dX7_go_196 : decode cX7_go 196 = .ok (.iinc 2 1, 3) := by decide +kernel
theorem dX7_go_199 : decode cX7_go 199 = .ok (.goto (-124), 3) := by decide +kernel
theorem dX7_go_202 : decode cX7_go 202 = .ok (.iload_n 1, 1) := by decide +kernel
theorem dX7_go_203 : decode cX7_go 203 = .ok (.ireturn, 1) := by decide +kernel
theorem dX7_ways_0 : decode cX7_ways 0 = .ok (.aload_n 0, 1) := by decide +kernel
theorem dX7_ways_1 : decode cX7_ways 1 = .ok (.iconst 0, 1) := by decide +kernel
theorem dX7_ways_2 : decode cX7_ways 2 = .ok (.putfield 81, 3) := by decide +kernel
theorem dX7_ways_5 : decode cX7_ways 5 = .ok (.aload_n 0, 1) := by decide +kernel
theorem dX7_ways_6 : decode cX7_ways 6 = .ok (.getfield 172, 3) := by decide +kernel
theorem dX7_ways_9 : decode cX7_ways 9 = .ok (.ifCond .ne 7, 3) := by decide +kernel
theorem dX7_ways_12 : decode cX7_ways 12 = .ok (.iconst 0, 1) := by decide +kernel
theorem dX7_ways_13 : decode cX7_ways 13 = .ok (.goto 7, 3) := by decide +kernel
theorem dX7_ways_16 : decode cX7_ways 16 = .ok (.aload_n 0, 1) := by decide +kernel
theorem dX7_ways_17 : decode cX7_ways 17 = .ok (.invokevirtual 201, 3) := by decide +kernel
theorem dX7_ways_20 : decode cX7_ways 20 = .ok (.ireturn, 1) := by decide +kernel
theorem dX7_home_0 : decode cX7_home 0 = .ok (.aload_n 0, 1) := by decide +kernel
theorem dX7_home_1 : decode cX7_home 1 = .ok (.iconst 0, 1) := by decide +kernel
theorem dX7_home_2 : decode cX7_home 2 = .ok (.putfield 81, 3) := by decide +kernel
theorem dX7_home_5 : decode cX7_home 5 = .ok (.aload_n 0, 1) := by decide +kernel
theorem dX7_home_6 : decode cX7_home 6 = .ok (.getfield 172, 3) := by decide +kernel
theorem dX7_home_9 : decode cX7_home 9 = .ok (.ifCond .ne 5, 3) := by decide +kernel
theorem dX7_home_12 : decode cX7_home 12 = .ok (.iconst 1, 1) := by decide +kernel
theorem dX7_home_13 : decode cX7_home 13 = .ok (.ireturn, 1) := by decide +kernel
theorem dX7_home_14 : decode cX7_home 14 = .ok (.aload_n 0, 1) := by decide +kernel
theorem dX7_home_15 : decode cX7_home 15 = .ok (.invokevirtual 201, 3) := by decide +kernel
theorem dX7_home_18 : decode cX7_home 18 = .ok (.pop, 1) := by decide +kernel
theorem dX7_home_19 : decode cX7_home 19 = .ok (.aload_n 0, 1) := by decide +kernel
theorem dX7_home_20 : decode cX7_home 20 = .ok (.getfield 62, 3) := by decide +kernel
theorem dX7_home_23 : decode cX7_home 23 = .ok (.iconst 0, 1) := by decide +kernel
theorem dX7_home_24 : decode cX7_home 24 = .ok (.baload, 1) := by decide +kernel
theorem dX7_home_25 : decode cX7_home 25 = .ok (.ireturn, 1) := by decide +kernel
end
section
theorem dL_cell_0 : decode cL_cell 0 = .ok (.iload_n 1, 1) := by decide +kernel
theorem dL_cell_1 : decode cL_cell 1 = .ok (.aload_n 0, 1) := by decide +kernel
theorem dL_cell_2 : decode cL_cell 2 = .ok (.arraylength, 1) := by decide +kernel
theorem dL_cell_3 : decode cL_cell 3 = .ok (.if_icmp .ge 9, 3) := by decide +kernel
theorem dL_cell_6 : decode cL_cell 6 = .ok (.aload_n 0, 1) := by decide +kernel
theorem dL_cell_7 : decode cL_cell 7 = .ok (.iload_n 1, 1) := by decide +kernel
theorem dL_cell_8 : decode cL_cell 8 = .ok (.iaload, 1) := by decide +kernel
theorem dL_cell_9 : decode cL_cell 9 = .ok (.goto 4, 3) := by decide +kernel
theorem dL_cell_12 : decode cL_cell 12 = .ok (.iconst 0, 1) := by decide +kernel
theorem dL_cell_13 : decode cL_cell 13 = .ok (.ireturn, 1) := by decide +kernel
theorem dL_wall_0 : decode cL_wall 0 = .ok (.aload 4, 2) := by decide +kernel
theorem dL_wall_2 : decode cL_wall 2 = .ok (.iconst 0, 1) := by decide +kernel
theorem dL_wall_3 : decode cL_wall 3 = .ok (.aload_n 0, 1) := by decide +kernel
theorem dL_wall_4 : decode cL_wall 4 = .ok (.iload_n 1, 1) := by decide +kernel
theorem dL_wall_5 : decode cL_wall 5 = .ok (.iload_n 2, 1) := by decide +kernel
theorem dL_wall_6 : decode cL_wall 6 = .ok (.iload_n 3, 1) := by decide +kernel
theorem dL_wall_7 : decode cL_wall 7 = .ok (.invokevirtual 7, 3) := by decide +kernel
theorem dL_wall_10 : decode cL_wall 10 = .ok (.ifCond .eq 7, 3) := by decide +kernel
theorem dL_wall_13 : decode cL_wall 13 = .ok (.lconst 1, 1) := by decide +kernel
theorem dL_wall_14 : decode cL_wall 14 = .ok (.goto 4, 3) := by decide +kernel
theorem dL_wall_17 : decode cL_wall 17 = .ok (.lconst 0, 1) := by decide +kernel
theorem dL_wall_18 : decode cL_wall 18 = .ok (.lastore, 1) := by decide +kernel
theorem dL_wall_19 : decode cL_wall 19 = .ok (.goto 7, 3) := by decide +kernel
theorem dL_wall_22 : decode cL_wall 22 = .ok (.astore 5, 2) := by decide +kernel
theorem dL_wall_24 : decode cL_wall 24 = .ok (.iconst 1, 1) := by decide +kernel
theorem dL_wall_25 : decode cL_wall 25 = .ok (.ireturn, 1) := by decide +kernel
theorem dL_wall_26 : decode cL_wall 26 = .ok (.iconst 0, 1) := by decide +kernel
theorem dL_wall_27 : decode cL_wall 27 = .ok (.ireturn, 1) := by decide +kernel
theorem dL_block_0 : decode cL_block 0 = .ok (.aload_n 2, 1) := by decide +kernel
theorem dL_block_1 : decode cL_block 1 = .ok (.iconst 0, 1) := by decide +kernel
theorem dL_block_2 : decode cL_block 2 = .ok (.aload_n 0, 1) := by decide +kernel
theorem dL_block_3 : decode cL_block 3 = .ok (.iload_n 1, 1) := by decide +kernel
theorem dL_block_4 : decode cL_block 4 = .ok (.invokevirtual 15, 3) := by decide +kernel
theorem dL_block_7 : decode cL_block 7 = .ok (.i2l, 1) := by decide +kernel
theorem dL_block_8 : decode cL_block 8 = .ok (.lastore, 1) := by decide +kernel
theorem dL_block_9 : decode cL_block 9 = .ok (.goto 6, 3) := by decide +kernel
theorem dL_block_12 : decode cL_block 12 = .ok (.astore_n 3, 1) := by decide +kernel
theorem dL_block_13 : decode cL_block 13 = .ok (.iconst 1, 1) := by decide +kernel
theorem dL_block_14 : decode cL_block 14 = .ok (.ireturn, 1) := by decide +kernel
theorem dL_block_15 : decode cL_block 15 = .ok (.iconst 0, 1) := by decide +kernel
theorem dL_block_16 : decode cL_block 16 = .ok (.ireturn, 1) := by decide +kernel
theorem dL_cell__0 : decode cL_cell_ 0 = .ok (.aload 4, 2) := by decide +kernel
theorem dL_cell__2 : decode cL_cell_ 2 = .ok (.iconst 0, 1) := by decide +kernel
theorem dL_cell__3 : decode cL_cell_ 3 = .ok (.aload_n 0, 1) := by decide +kernel
theorem dL_cell__4 : decode cL_cell_ 4 = .ok (.iload_n 1, 1) := by decide +kernel
theorem dL_cell__5 : decode cL_cell_ 5 = .ok (.iload_n 2, 1) := by decide +kernel
theorem dL_cell__6 : decode cL_cell_ 6 = .ok (.iload_n 3, 1) := by decide +kernel
theorem dL_cell__7 : decode cL_cell_ 7 = .ok (.invokevirtual 21, 3) := by decide +kernel
theorem dL_cell__10 : decode cL_cell_ 10 = .ok (.ifCond .eq 7, 3) := by decide +kernel
theorem dL_cell__13 : decode cL_cell_ 13 = .ok (.lconst 1, 1) := by decide +kernel
theorem dL_cell__14 : decode cL_cell_ 14 = .ok (.goto 4, 3) := by decide +kernel
theorem dL_cell__17 : decode cL_cell_ 17 = .ok (.lconst 0, 1) := by decide +kernel
theorem dL_cell__18 : decode cL_cell_ 18 = .ok (.lastore, 1) := by decide +kernel
theorem dL_cell__19 : decode cL_cell_ 19 = .ok (.goto 7, 3) := by decide +kernel
theorem dL_cell__22 : decode cL_cell_ 22 = .ok (.astore 5, 2) := by decide +kernel
theorem dL_cell__24 : decode cL_cell_ 24 = .ok (.iconst 1, 1) := by decide +kernel
theorem dL_cell__25 : decode cL_cell_ 25 = .ok (.ireturn, 1) := by decide +kernel
theorem dL_cell__26 : decode cL_cell_ 26 = .ok (.iconst 0, 1) := by decide +kernel
theorem dL_cell__27 : decode cL_cell_ 27 = .ok (.ireturn, 1) := by decide +kernel
theorem dL_place_0 : decode cL_place 0 = .ok (.aload_n 2, 1) := by decide +kernel
theorem dL_place_1 : decode cL_place 1 = .ok (.iconst 0, 1) := by decide +kernel
theorem dL_place_2 : decode cL_place 2 = .ok (.aload_n 0, 1) := by decide +kernel
theorem dL_place_3 : decode cL_place 3 = .ok (.iload_n 1, 1) := by decide +kernel
theorem dL_place_4 : decode cL_place 4 = .ok (.invokevirtual 25, 3) := by decide +kernel
theorem dL_place_7 : decode cL_place 7 = .ok (.i2l, 1) := by decide +kernel
theorem dL_place_8 : decode cL_place 8 = .ok (.lastore, 1) := by decide +kernel
theorem dL_place_9 : decode cL_place 9 = .ok (.goto 6, 3) := by decide +kernel
theorem dL_place_12 : decode cL_place 12 = .ok (.astore_n 3, 1) := by decide +kernel
theorem dL_place_13 : decode cL_place 13 = .ok (.iconst 1, 1) := by decide +kernel
theorem dL_place_14 : decode cL_place 14 = .ok (.ireturn, 1) := by decide +kernel
theorem dL_place_15 : decode cL_place 15 = .ok (.iconst 0, 1) := by decide +kernel
theorem dL_place_16 : decode cL_place 16 = .ok (.ireturn, 1) := by decide +kernel
theorem dL_slide_0 : decode cL_slide 0 = .ok (.aload 4, 2) := by decide +kernel
theorem dL_slide_2 : decode cL_slide 2 = .ok (.iconst 0, 1) := by decide +kernel
theorem dL_slide_3 : decode cL_slide 3 = .ok (.aload_n 0, 1) := by decide +kernel
theorem dL_slide_4 : decode cL_slide 4 = .ok (.iload_n 1, 1) := by decide +kernel
theorem dL_slide_5 : decode cL_slide 5 = .ok (.iload_n 2, 1) := by decide +kernel
theorem dL_slide_6 : decode cL_slide 6 = .ok (.iload_n 3, 1) := by decide +kernel
theorem dL_slide_7 : decode cL_slide 7 = .ok (.invokevirtual 28, 3) := by decide +kernel
theorem dL_slide_10 : decode cL_slide 10 = .ok (.i2l, 1) := by decide +kernel
theorem dL_slide_11 : decode cL_slide 11 = .ok (.lastore, 1) := by decide +kernel
theorem dL_slide_12 : decode cL_slide 12 = .ok (.goto 7, 3) := by decide +kernel
theorem dL_slide_15 : decode cL_slide 15 = .ok (.astore 5, 2) := by decide +kernel
theorem dL_slide_17 : decode cL_slide 17 = .ok (.iconst 1, 1) := by decide +kernel
theorem dL_slide_18 : decode cL_slide 18 = .ok (.ireturn, 1) := by decide +kernel
theorem dL_slide_19 : decode cL_slide 19 = .ok (.iconst 0, 1) := by decide +kernel
theorem dL_slide_20 : decode cL_slide 20 = .ok (.ireturn, 1) := by decide +kernel
theorem dL_goal_0 : decode cL_goal 0 = .ok (.aload 4, 2) := by decide +kernel
theorem dL_goal_2 : decode cL_goal 2 = .ok (.iconst 0, 1) := by decide +kernel
theorem dL_goal_3 : decode cL_goal 3 = .ok (.aload_n 0, 1) := by decide +kernel
theorem dL_goal_4 : decode cL_goal 4 = .ok (.iload_n 1, 1) := by decide +kernel
theorem dL_goal_5 : decode cL_goal 5 = .ok (.iload_n 2, 1) := by decide +kernel
theorem dL_goal_6 : decode cL_goal 6 = .ok (.iload_n 3, 1) := by decide +kernel
theorem dL_goal_7 : decode cL_goal 7 = .ok (.invokevirtual 32, 3) := by decide +kernel
theorem dL_goal_10 : decode cL_goal 10 = .ok (.i2l, 1) := by decide +kernel
theorem dL_goal_11 : decode cL_goal 11 = .ok (.lastore, 1) := by decide +kernel
theorem dL_goal_12 : decode cL_goal 12 = .ok (.goto 7, 3) := by decide +kernel
theorem dL_goal_15 : decode cL_goal 15 = .ok (.astore 5, 2) := by decide +kernel
theorem dL_goal_17 : decode cL_goal 17 = .ok (.iconst 1, 1) := by decide +kernel
theorem dL_goal_18 : decode cL_goal 18 = .ok (.ireturn, 1) := by decide +kernel
theorem dL_goal_19 : decode cL_goal 19 = .ok (.iconst 0, 1) := by decide +kernel
theorem dL_goal_20 : decode cL_goal 20 = .ok (.ireturn, 1) := by decide +kernel
theorem dL_kindGoal_0 : decode cL_kindGoal 0 = .ok (.aload 4, 2) := by decide +kernel
theorem dL_kindGoal_2 : decode cL_kindGoal 2 = .ok (.iconst 0, 1) := by decide +kernel
theorem dL_kindGoal_3 : decode cL_kindGoal 3 = .ok (.aload_n 0, 1) := by decide +kernel
theorem dL_kindGoal_4 : decode cL_kindGoal 4 = .ok (.iload_n 1, 1) := by decide +kernel
theorem dL_kindGoal_5 : decode cL_kindGoal 5 = .ok (.iload_n 2, 1) := by decide +kernel
theorem dL_kindGoal_6 : decode cL_kindGoal 6 = .ok (.iload_n 3, 1) := by decide +kernel
theorem dL_kindGoal_7 : decode cL_kindGoal 7 = .ok (.invokevirtual 35, 3) := by decide +kernel
theorem dL_kindGoal_10 : decode cL_kindGoal 10 = .ok (.i2l, 1) := by decide +kernel
theorem dL_kindGoal_11 : decode cL_kindGoal 11 = .ok (.lastore, 1) := by decide +kernel
theorem dL_kindGoal_12 : decode cL_kindGoal 12 = .ok (.goto 11, 3) := by decide +kernel
theorem dL_kindGoal_15 : decode cL_kindGoal 15 = .ok (.astore 5, 2) := by decide +kernel
theorem dL_kindGoal_17 : decode cL_kindGoal 17 = .ok (.iconst 1, 1) := by decide +kernel
theorem dL_kindGoal_18 : decode cL_kindGoal 18 = .ok (.ireturn, 1) := by decide +kernel
theorem dL_kindGoal_19 : decode cL_kindGoal 19 = .ok (.astore 5, 2) := by decide +kernel
theorem dL_kindGoal_21 : decode cL_kindGoal 21 = .ok (.iconst 2, 1) := by decide +kernel
theorem dL_kindGoal_22 : decode cL_kindGoal 22 = .ok (.ireturn, 1) := by decide +kernel
theorem dL_kindGoal_23 : decode cL_kindGoal 23 = .ok (.iconst 0, 1) := by decide +kernel
theorem dL_kindGoal_24 : decode cL_kindGoal 24 = .ok (.ireturn, 1) := by decide +kernel
theorem dL_join_0 : decode cL_join 0 = .ok (.aload_n 3, 1) := by decide +kernel
theorem dL_join_1 : decode cL_join 1 = .ok (.iconst 0, 1) := by decide +kernel
theorem dL_join_2 : decode cL_join 2 = .ok (.aload_n 0, 1) := by decide +kernel
theorem dL_join_3 : decode cL_join 3 = .ok (.iload_n 1, 1) := by decide +kernel
theorem dL_join_4 : decode cL_join 4 = .ok (.iload_n 2, 1) := by decide +kernel
theorem dL_join_5 : decode cL_join 5 = .ok (.invokevirtual 38, 3) := by decide +kernel
theorem dL_join_8 : decode cL_join 8 = .ok (.ifCond .eq 7, 3) := by decide +kernel
theorem dL_join_11 : decode cL_join 11 = .ok (.lconst 1, 1) := by decide +kernel
theorem dL_join_12 : decode cL_join 12 = .ok (.goto 4, 3) := by decide +kernel
theorem dL_join_15 : decode cL_join 15 = .ok (.lconst 0, 1) := by decide +kernel
theorem dL_join_16 : decode cL_join 16 = .ok (.lastore, 1) := by decide +kernel
theorem dL_join_17 : decode cL_join 17 = .ok (.goto 7, 3) := by decide +kernel
theorem dL_join_20 : decode cL_join 20 = .ok (.astore 4, 2) := by decide +kernel
theorem dL_join_22 : decode cL_join 22 = .ok (.iconst 1, 1) := by decide +kernel
theorem dL_join_23 : decode cL_join 23 = .ok (.ireturn, 1) := by decide +kernel
theorem dL_join_24 : decode cL_join 24 = .ok (.iconst 0, 1) := by decide +kernel
theorem dL_join_25 : decode cL_join 25 = .ok (.ireturn, 1) := by decide +kernel
theorem dL_tile_0 : decode cL_tile 0 = .ok (.aload_n 2, 1) := by decide +kernel
theorem dL_tile_1 : decode cL_tile 1 = .ok (.iconst 0, 1) := by decide +kernel
theorem dL_tile_2 : decode cL_tile 2 = .ok (.aload_n 0, 1) := by decide +kernel
theorem dL_tile_3 : decode cL_tile 3 = .ok (.iload_n 1, 1) := by decide +kernel
theorem dL_tile_4 : decode cL_tile 4 = .ok (.invokevirtual 42, 3) := by decide +kernel
theorem dL_tile_7 : decode cL_tile 7 = .ok (.i2l, 1) := by decide +kernel
theorem dL_tile_8 : decode cL_tile 8 = .ok (.lastore, 1) := by decide +kernel
theorem dL_tile_9 : decode cL_tile 9 = .ok (.goto 6, 3) := by decide +kernel
theorem dL_tile_12 : decode cL_tile 12 = .ok (.astore_n 3, 1) := by decide +kernel
theorem dL_tile_13 : decode cL_tile 13 = .ok (.iconst 1, 1) := by decide +kernel
theorem dL_tile_14 : decode cL_tile 14 = .ok (.ireturn, 1) := by decide +kernel
theorem dL_tile_15 : decode cL_tile 15 = .ok (.iconst 0, 1) := by decide +kernel
theorem dL_tile_16 : decode cL_tile 16 = .ok (.ireturn, 1) := by decide +kernel
theorem dL_shift_0 : decode cL_shift 0 = .ok (.aload_n 2, 1) := by decide +kernel
theorem dL_shift_1 : decode cL_shift 1 = .ok (.iconst 0, 1) := by decide +kernel
theorem dL_shift_2 : decode cL_shift 2 = .ok (.aload_n 0, 1) := by decide +kernel
theorem dL_shift_3 : decode cL_shift 3 = .ok (.iload_n 1, 1) := by decide +kernel
theorem dL_shift_4 : decode cL_shift 4 = .ok (.invokevirtual 45, 3) := by decide +kernel
theorem dL_shift_7 : decode cL_shift 7 = .ok (.ifCond .eq 7, 3) := by decide +kernel
theorem dL_shift_10 : decode cL_shift 10 = .ok (.lconst 1, 1) := by decide +kernel
theorem dL_shift_11 : decode cL_shift 11 = .ok (.goto 4, 3) := by decide +kernel
theorem dL_shift_14 : decode cL_shift 14 = .ok (.lconst 0, 1) := by decide +kernel
theorem dL_shift_15 : decode cL_shift 15 = .ok (.lastore, 1) := by decide +kernel
theorem dL_shift_16 : decode cL_shift 16 = .ok (.goto 6, 3) := by decide +kernel
theorem dL_shift_19 : decode cL_shift 19 = .ok (.astore_n 3, 1) := by decide +kernel
theorem dL_shift_20 : decode cL_shift 20 = .ok (.iconst 1, 1) := by decide +kernel
theorem dL_shift_21 : decode cL_shift 21 = .ok (.ireturn, 1) := by decide +kernel
theorem dL_shift_22 : decode cL_shift 22 = .ok (.iconst 0, 1) := by decide +kernel
theorem dL_shift_23 : decode cL_shift 23 = .ok (.ireturn, 1) := by decide +kernel
theorem dL_swap_0 : decode cL_swap 0 = .ok (.aload_n 3, 1) := by decide +kernel
theorem dL_swap_1 : decode cL_swap 1 = .ok (.iconst 0, 1) := by decide +kernel
theorem dL_swap_2 : decode cL_swap 2 = .ok (.aload_n 0, 1) := by decide +kernel
theorem dL_swap_3 : decode cL_swap 3 = .ok (.iload_n 1, 1) := by decide +kernel
theorem dL_swap_4 : decode cL_swap 4 = .ok (.iload_n 2, 1) := by decide +kernel
theorem dL_swap_5 : decode cL_swap 5 = .ok (.invokevirtual 49, 3) := by decide +kernel
theorem dL_swap_8 : decode cL_swap 8 = .ok (.ifCond .eq 7, 3) := by decide +kernel
theorem dL_swap_11 : decode cL_swap 11 = .ok (.lconst 1, 1) := by decide +kernel
theorem dL_swap_12 : decode cL_swap 12 = .ok (.goto 4, 3) := by decide +kernel
theorem dL_swap_15 : decode cL_swap 15 = .ok (.lconst 0, 1) := by decide +kernel
theorem dL_swap_16 : decode cL_swap 16 = .ok (.lastore, 1) := by decide +kernel
theorem dL_swap_17 : decode cL_swap 17 = .ok (.goto 7, 3) := by decide +kernel
theorem dL_swap_20 : decode cL_swap 20 = .ok (.astore 4, 2) := by decide +kernel
theorem dL_swap_22 : decode cL_swap 22 = .ok (.iconst 1, 1) := by decide +kernel
theorem dL_swap_23 : decode cL_swap 23 = .ok (.ireturn, 1) := by decide +kernel
theorem dL_swap_24 : decode cL_swap 24 = .ok (.iconst 0, 1) := by decide +kernel
theorem dL_swap_25 : decode cL_swap 25 = .ok (.ireturn, 1) := by decide +kernel
theorem dL_law_0 : decode cL_law 0 = .ok (.new 8, 3) := by decide +kernel
theorem dL_law_3 : decode cL_law 3 = .ok (.dup, 1) := by decide +kernel
theorem dL_law_4 : decode cL_law 4 = .ok (.aload_n 0, 1) := by decide +kernel
theorem dL_law_5 : decode cL_law 5 = .ok (.iconst 0, 1) := by decide +kernel
theorem dL_law_6 : decode cL_law 6 = .ok (.invokestatic 52, 3) := by decide +kernel
theorem dL_law_9 : decode cL_law 9 = .ok (.aload_n 0, 1) := by decide +kernel
theorem dL_law_10 : decode cL_law 10 = .ok (.iconst 1, 1) := by decide +kernel
theorem dL_law_11 : decode cL_law 11 = .ok (.invokestatic 52, 3) := by decide +kernel
theorem dL_law_14 : decode cL_law 14 = .ok (.invokespecial 57, 3) := by decide +kernel
theorem dL_law_17 : decode cL_law 17 = .ok (.astore_n 1, 1) := by decide +kernel
theorem dL_law_18 : decode cL_law 18 = .ok (.new 60, 3) := by decide +kernel
theorem dL_law_21 : decode cL_law 21 = .ok (.dup, 1) := by decide +kernel
theorem dL_law_22 : decode cL_law 22 = .ok (.aload_n 0, 1) := by decide +kernel
theorem dL_law_23 : decode cL_law 23 = .ok (.iconst 0, 1) := by decide +kernel
theorem dL_law_24 : decode cL_law 24 = .ok (.invokestatic 52, 3) := by decide +kernel
theorem dL_law_27 : decode cL_law 27 = .ok (.aload_n 0, 1) := by decide +kernel
theorem dL_law_28 : decode cL_law 28 = .ok (.iconst 1, 1) := by decide +kernel
theorem dL_law_29 : decode cL_law 29 = .ok (.invokestatic 52, 3) := by decide +kernel
theorem dL_law_32 : decode cL_law 32 = .ok (.invokespecial 62, 3) := by decide +kernel
theorem dL_law_35 : decode cL_law 35 = .ok (.astore_n 2, 1) := by decide +kernel
theorem dL_law_36 : decode cL_law 36 = .ok (.iconst 1, 1) := by decide +kernel
theorem dL_law_37 : decode cL_law 37 = .ok (.newarray .long, 2) := by decide +kernel
theorem dL_law_39 : decode cL_law 39 = .ok (.astore_n 3, 1) := by decide +kernel
theorem dL_law_40 : decode cL_law 40 = .ok (.iconst 2, 1) := by decide +kernel
theorem dL_law_41 : decode cL_law 41 = .ok (.istore 4, 2) := by decide +kernel
theorem dL_law_43 : decode cL_law 43 = .ok (.iload 4, 2) := by decide +kernel
theorem dL_law_45 : decode cL_law 45 = .ok (.aload_n 0, 1) := by decide +kernel
theorem dL_law_46 : decode cL_law 46 = .ok (.arraylength, 1) := by decide +kernel
theorem dL_law_47 : decode cL_law 47 = .ok (.iconst 4, 1) := by decide +kernel
theorem dL_law_48 : decode cL_law 48 = .ok (.isub, 1) := by decide +kernel
theorem dL_law_49 : decode cL_law 49 = .ok (.if_icmp .gt 1136, 3) := by decide +kernel
theorem dL_law_52 : decode cL_law 52 = .ok (.aload_n 0, 1) := by decide +kernel
theorem dL_law_53 : decode cL_law 53 = .ok (.iload 4, 2) := by decide +kernel
theorem dL_law_55 : decode cL_law 55 = .ok (.iaload, 1) := by decide +kernel
theorem dL_law_56 : decode cL_law 56 = .ok (.bipush 31, 2) := by decide +kernel
theorem dL_law_58 : decode cL_law 58 = .ok (.iand, 1) := by decide +kernel
theorem dL_law_59 : decode cL_law 59 = .ok (.tableswitch 1120 0 22 #[105, 208, 264, 351, 407, 487, 567, 647, 660, 673, 710, 735, 748, 761, 786, 799, 874, 930, 993, 1068, 1081, 1094, 1107], 105) := by decide +kernel
theorem dL_law_164 : decode cL_law 164 = .ok (.aload_n 1, 1) := by decide +kernel
theorem dL_law_165 : decode cL_law 165 = .ok (.aload_n 0, 1) := by decide +kernel
theorem dL_law_166 : decode cL_law 166 = .ok (.iload 4, 2) := by decide +kernel
theorem dL_law_168 : decode cL_law 168 = .ok (.iconst 1, 1) := by decide +kernel
theorem dL_law_169 : decode cL_law 169 = .ok (.iadd, 1) := by decide +kernel
theorem dL_law_170 : decode cL_law 170 = .ok (.iaload, 1) := by decide +kernel
theorem dL_law_171 : decode cL_law 171 = .ok (.aload_n 0, 1) := by decide +kernel
theorem dL_law_172 : decode cL_law 172 = .ok (.iload 4, 2) := by decide +kernel
theorem dL_law_174 : decode cL_law 174 = .ok (.iconst 2, 1) := by decide +kernel
theorem dL_law_175 : decode cL_law 175 = .ok (.iadd, 1) := by decide +kernel
theorem dL_law_176 : decode cL_law 176 = .ok (.iaload, 1) := by decide +kernel
theorem dL_law_177 : decode cL_law 177 = .ok (.aload_n 0, 1) := by decide +kernel
theorem dL_law_178 : decode cL_law 178 = .ok (.iload 4, 2) := by decide +kernel
theorem dL_law_180 : decode cL_law 180 = .ok (.iconst 3, 1) := by decide +kernel
theorem dL_law_181 : decode cL_law 181 = .ok (.iadd, 1) := by decide +kernel
theorem dL_law_182 : decode cL_law 182 = .ok (.iaload, 1) := by decide +kernel
theorem dL_law_183 : decode cL_law 183 = .ok (.ifCond .eq 7, 3) := by decide +kernel
theorem dL_law_186 : decode cL_law 186 = .ok (.iconst 1, 1) := by decide +kernel
theorem dL_law_187 : decode cL_law 187 = .ok (.goto 4, 3) := by decide +kernel
theorem dL_law_190 : decode cL_law 190 = .ok (.iconst 0, 1) := by decide +kernel
theorem dL_law_191 : decode cL_law 191 = .ok (.aload_n 3, 1) := by decide +kernel
theorem dL_law_192 : decode cL_law 192 = .ok (.invokestatic 63, 3) := by decide +kernel
theorem dL_law_195 : decode cL_law 195 = .ok (.istore 5, 2) := by decide +kernel
theorem dL_law_197 : decode cL_law 197 = .ok (.aload_n 2, 1) := by decide +kernel
theorem dL_law_198 : decode cL_law 198 = .ok (.aload_n 0, 1) := by decide +kernel
theorem dL_law_199 : decode cL_law 199 = .ok (.iload 4, 2) := by decide +kernel
theorem dL_law_201 : decode cL_law 201 = .ok (.iconst 1, 1) := by decide +kernel
theorem dL_law_202 : decode cL_law 202 = .ok (.iadd, 1) := by decide +kernel
theorem dL_law_203 : decode cL_law 203 = .ok (.iaload, 1) := by decide +kernel
theorem dL_law_204 : decode cL_law 204 = .ok (.aload_n 0, 1) := by decide +kernel
theorem dL_law_205 : decode cL_law 205 = .ok (.iload 4, 2) := by decide +kernel
theorem dL_law_207 : decode cL_law 207 = .ok (.iconst 2, 1) := by decide +kernel
theorem dL_law_208 : decode cL_law 208 = .ok (.iadd, 1) := by decide +kernel
theorem dL_law_209 : decode cL_law 209 = .ok (.iaload, 1) := by decide +kernel
theorem dL_law_210 : decode cL_law 210 = .ok (.aload_n 0, 1) := by decide +kernel
theorem dL_law_211 : decode cL_law 211 = .ok (.iload 4, 2) := by decide +kernel
theorem dL_law_213 : decode cL_law 213 = .ok (.iconst 3, 1) := by decide +kernel
theorem dL_law_214 : decode cL_law 214 = .ok (.iadd, 1) := by decide +kernel
theorem dL_law_215 : decode cL_law 215 = .ok (.iaload, 1) := by decide +kernel
theorem dL_law_216 : decode cL_law 216 = .ok (.ifCond .eq 7, 3) := by decide +kernel
theorem dL_law_219 : decode cL_law 219 = .ok (.iconst 1, 1) := by decide +kernel
theorem dL_law_220 : decode cL_law 220 = .ok (.goto 4, 3) := by decide +kernel
theorem dL_law_223 : decode cL_law 223 = .ok (.iconst 0, 1) := by decide +kernel
theorem dL_law_224 : decode cL_law 224 = .ok (.invokevirtual 66, 3) := by decide +kernel
theorem dL_law_227 : decode cL_law 227 = .ok (.istore 6, 2) := by decide +kernel
theorem dL_law_229 : decode cL_law 229 = .ok (.aload_n 2, 1) := by decide +kernel
theorem dL_law_230 : decode cL_law 230 = .ok (.invokevirtual 67, 3) := by decide +kernel
theorem dL_law_233 : decode cL_law 233 = .ok (.iload 5, 2) := by decide +kernel
theorem dL_law_235 : decode cL_law 235 = .ok (.if_icmp .eq 5, 3) := by decide +kernel
theorem dL_law_238 : decode cL_law 238 = .ok (.iconst 0, 1) := by decide +kernel
theorem dL_law_239 : decode cL_law 239 = .ok (.ireturn, 1) := by decide +kernel
theorem dL_law_240 : decode cL_law 240 = .ok (.iload 5, 2) := by decide +kernel
theorem dL_law_242 : decode cL_law 242 = .ok (.ifCond .ne 22, 3) := by decide +kernel
theorem dL_law_245 : decode cL_law 245 = .ok (.aload_n 3, 1) := by decide +kernel
theorem dL_law_246 : decode cL_law 246 = .ok (.iconst 0, 1) := by decide +kernel
theorem dL_law_247 : decode cL_law 247 = .ok (.laload, 1) := by decide +kernel
theorem dL_law_248 : decode cL_law 248 = .ok (.iload 6, 2) := by decide +kernel
theorem dL_law_250 : decode cL_law 250 = .ok (.ifCond .eq 7, 3) := by decide +kernel
theorem dL_law_253 : decode cL_law 253 = .ok (.lconst 1, 1) := by decide +kernel
theorem dL_law_254 : decode cL_law 254 = .ok (.goto 4, 3) := by decide +kernel
theorem dL_law_257 : decode cL_law 257 = .ok (.lconst 0, 1) := by decide +kernel
theorem dL_law_258 : decode cL_law 258 = .ok (.lcmp, 1) := by decide +kernel
theorem dL_law_259 : decode cL_law 259 = .ok (.ifCond .eq 5, 3) := by decide +kernel
theorem dL_law_262 : decode cL_law 262 = .ok (.iconst 0, 1) := by decide +kernel
theorem dL_law_263 : decode cL_law 263 = .ok (.ireturn, 1) := by decide +kernel
theorem dL_law_264 : decode cL_law 264 = .ok (.goto 915, 3) := by decide +kernel
theorem dL_law_267 : decode cL_law 267 = .ok (.aload_n 1, 1) := by decide +kernel
theorem dL_law_268 : decode cL_law 268 = .ok (.aload_n 0, 1) := by decide +kernel
theorem dL_law_269 : decode cL_law 269 = .ok (.iload 4, 2) := by decide +kernel
theorem dL_law_271 : decode cL_law 271 = .ok (.iconst 1, 1) := by decide +kernel
theorem dL_law_272 : decode cL_law 272 = .ok (.iadd, 1) := by decide +kernel
theorem dL_law_273 : decode cL_law 273 = .ok (.iaload, 1) := by decide +kernel
theorem dL_law_274 : decode cL_law 274 = .ok (.aload_n 3, 1) := by decide +kernel
theorem dL_law_275 : decode cL_law 275 = .ok (.invokestatic 71, 3) := by decide +kernel
theorem dL_law_278 : decode cL_law 278 = .ok (.istore 5, 2) := by decide +kernel
theorem dL_law_280 : decode cL_law 280 = .ok (.aload_n 2, 1) := by decide +kernel
theorem dL_law_281 : decode cL_law 281 = .ok (.aload_n 0, 1) := by decide +kernel
theorem dL_law_282 : decode cL_law 282 = .ok (.iload 4, 2) := by decide +kernel
theorem dL_law_284 : decode cL_law 284 = .ok (.iconst 1, 1) := by decide +kernel
theorem dL_law_285 : decode cL_law 285 = .ok (.iadd, 1) := by decide +kernel
theorem dL_law_286 : decode cL_law 286 = .ok (.iaload, 1) := by decide +kernel
theorem dL_law_287 : decode cL_law 287 = .ok (.invokevirtual 74, 3) := by decide +kernel
theorem dL_law_290 : decode cL_law 290 = .ok (.istore 6, 2) := by decide +kernel
theorem dL_law_292 : decode cL_law 292 = .ok (.aload_n 2, 1) := by decide +kernel
theorem dL_law_293 : decode cL_law 293 = .ok (.invokevirtual 67, 3) := by decide +kernel
theorem dL_law_296 : decode cL_law 296 = .ok (.iload 5, 2) := by decide +kernel
theorem dL_law_298 : decode cL_law 298 = .ok (.if_icmp .eq 5, 3) := by decide +kernel
theorem dL_law_301 : decode cL_law 301 = .ok (.iconst 0, 1) := by decide +kernel
theorem dL_law_302 : decode cL_law 302 = .ok (.ireturn, 1) := by decide +kernel
theorem dL_law_303 : decode cL_law 303 = .ok (.iload 5, 2) := by decide +kernel
theorem dL_law_305 : decode cL_law 305 = .ok (.ifCond .ne 15, 3) := by decide +kernel
theorem dL_law_308 : decode cL_law 308 = .ok (.aload_n 3, 1) := by decide +kernel
theorem dL_law_309 : decode cL_law 309 = .ok (.iconst 0, 1) := by decide +kernel
theorem dL_law_310 : decode cL_law 310 = .ok (.laload, 1) := by decide +kernel
theorem dL_law_311 : decode cL_law 311 = .ok (.iload 6, 2) := by decide +kernel
theorem dL_law_313 : decode cL_law 313 = .ok (.i2l, 1) := by decide +kernel
theorem dL_law_314 : decode cL_law 314 = .ok (.lcmp, 1) := by decide +kernel
theorem dL_law_315 : decode cL_law 315 = .ok (.ifCond .eq 5, 3) := by decide +kernel
theorem dL_law_318 : decode cL_law 318 = .ok (.iconst 0, 1) := by decide +kernel
theorem dL_law_319 : decode cL_law 319 = .ok (.ireturn, 1) := by decide +kernel
theorem dL_law_320 : decode cL_law 320 = .ok (.goto 859, 3) := by decide +kernel
theorem dL_law_323 : decode cL_law 323 = .ok (.aload_n 1, 1) := by decide +kernel
theorem dL_law_324 : decode cL_law 324 = .ok (.aload_n 0, 1) := by decide +kernel
theorem dL_law_325 : decode cL_law 325 = .ok (.iload 4, 2) := by decide +kernel
theorem dL_law_327 : decode cL_law 327 = .ok (.iconst 1, 1) := by decide +kernel
theorem dL_law_328 : decode cL_law 328 = .ok (.iadd, 1) := by decide +kernel
theorem dL_law_329 : decode cL_law 329 = .ok (.iaload, 1) := by decide +kernel
theorem dL_law_330 : decode cL_law 330 = .ok (.aload_n 0, 1) := by decide +kernel
theorem dL_law_331 : decode cL_law 331 = .ok (.iload 4, 2) := by decide +kernel
theorem dL_law_333 : decode cL_law 333 = .ok (.iconst 2, 1) := by decide +kernel
theorem dL_law_334 : decode cL_law 334 = .ok (.iadd, 1) := by decide +kernel
theorem dL_law_335 : decode cL_law 335 = .ok (.iaload, 1) := by decide +kernel
theorem dL_law_336 : decode cL_law 336 = .ok (.aload_n 0, 1) := by decide +kernel
theorem dL_law_337 : decode cL_law 337 = .ok (.iload 4, 2) := by decide +kernel
theorem dL_law_339 : decode cL_law 339 = .ok (.iconst 3, 1) := by decide +kernel
theorem dL_law_340 : decode cL_law 340 = .ok (.iadd, 1) := by decide +kernel
theorem dL_law_341 : decode cL_law 341 = .ok (.iaload, 1) := by decide +kernel
theorem dL_law_342 : decode cL_law 342 = .ok (.aload_n 3, 1) := by decide +kernel
theorem dL_law_343 : decode cL_law 343 = .ok (.invokestatic 75, 3) := by decide +kernel
theorem dL_law_346 : decode cL_law 346 = .ok (.istore 5, 2) := by decide +kernel
theorem dL_law_348 : decode cL_law 348 = .ok (.aload_n 2, 1) := by decide +kernel
theorem dL_law_349 : decode cL_law 349 = .ok (.aload_n 0, 1) := by decide +kernel
theorem dL_law_350 : decode cL_law 350 = .ok (.iload 4, 2) := by decide +kernel
theorem dL_law_352 : decode cL_law 352 = .ok (.iconst 1, 1) := by decide +kernel
theorem dL_law_353 : decode cL_law 353 = .ok (.iadd, 1) := by decide +kernel
theorem dL_law_354 : decode cL_law 354 = .ok (.iaload, 1) := by decide +kernel
theorem dL_law_355 : decode cL_law 355 = .ok (.aload_n 0, 1) := by decide +kernel
theorem dL_law_356 : decode cL_law 356 = .ok (.iload 4, 2) := by decide +kernel
theorem dL_law_358 : decode cL_law 358 = .ok (.iconst 2, 1) := by decide +kernel
theorem dL_law_359 : decode cL_law 359 = .ok (.iadd, 1) := by decide +kernel
theorem dL_law_360 : decode cL_law 360 = .ok (.iaload, 1) := by decide +kernel
theorem dL_law_361 : decode cL_law 361 = .ok (.aload_n 0, 1) := by decide +kernel
theorem dL_law_362 : decode cL_law 362 = .ok (.iload 4, 2) := by decide +kernel
theorem dL_law_364 : decode cL_law 364 = .ok (.iconst 3, 1) := by decide +kernel
theorem dL_law_365 : decode cL_law 365 = .ok (.iadd, 1) := by decide +kernel
theorem dL_law_366 : decode cL_law 366 = .ok (.iaload, 1) := by decide +kernel
theorem dL_law_367 : decode cL_law 367 = .ok (.invokevirtual 78, 3) := by decide +kernel
theorem dL_law_370 : decode cL_law 370 = .ok (.istore 6, 2) := by decide +kernel
theorem dL_law_372 : decode cL_law 372 = .ok (.aload_n 2, 1) := by decide +kernel
theorem dL_law_373 : decode cL_law 373 = .ok (.invokevirtual 67, 3) := by decide +kernel
theorem dL_law_376 : decode cL_law 376 = .ok (.iload 5, 2) := by decide +kernel
theorem dL_law_378 : decode cL_law 378 = .ok (.if_icmp .eq 5, 3) := by decide +kernel
theorem dL_law_381 : decode cL_law 381 = .ok (.iconst 0, 1) := by decide +kernel
theorem dL_law_382 : decode cL_law 382 = .ok (.ireturn, 1) := by decide +kernel
theorem dL_law_383 : decode cL_law 383 = .ok (.iload 5, 2) := by decide +kernel
theorem dL_law_385 : decode cL_law 385 = .ok (.ifCond .ne 22, 3) := by decide +kernel
theorem dL_law_388 : decode cL_law 388 = .ok (.aload_n 3, 1) := by decide +kernel
theorem dL_law_389 : decode cL_law 389 = .ok (.iconst 0, 1) := by decide +kernel
theorem dL_law_390 : decode cL_law 390 = .ok (.laload, 1) := by decide +kernel
theorem dL_law_391 : decode cL_law 391 = .ok (.iload 6, 2) := by decide +kernel
theorem dL_law_393 : decode cL_law 393 = .ok (.ifCond .eq 7, 3) := by decide +kernel
theorem dL_law_396 : decode cL_law 396 = .ok (.lconst 1, 1) := by decide +kernel
theorem dL_law_397 : decode cL_law 397 = .ok (.goto 4, 3) := by decide +kernel
theorem dL_law_400 : decode cL_law 400 = .ok (.lconst 0, 1) := by decide +kernel
theorem dL_law_401 : decode cL_law 401 = .ok (.lcmp, 1) := by decide +kernel
theorem dL_law_402 : decode cL_law 402 = .ok (.ifCond .eq 5, 3) := by decide +kernel
theorem dL_law_405 : decode cL_law 405 = .ok (.iconst 0, 1) := by decide +kernel
theorem dL_law_406 : decode cL_law 406 = .ok (.ireturn, 1) := by decide +kernel
theorem dL_law_407 : decode cL_law 407 = .ok (.goto 772, 3) := by decide +kernel
theorem dL_law_410 : decode cL_law 410 = .ok (.aload_n 1, 1) := by decide +kernel
theorem dL_law_411 : decode cL_law 411 = .ok (.aload_n 0, 1) := by decide +kernel
theorem dL_law_412 : decode cL_law 412 = .ok (.iload 4, 2) := by decide +kernel
theorem dL_law_414 : decode cL_law 414 = .ok (.iconst 1, 1) := by decide +kernel
theorem dL_law_415 : decode cL_law 415 = .ok (.iadd, 1) := by decide +kernel
theorem dL_law_416 : decode cL_law 416 = .ok (.iaload, 1) := by decide +kernel
theorem dL_law_417 : decode cL_law 417 = .ok (.aload_n 3, 1) := by decide +kernel
theorem dL_law_418 : decode cL_law 418 = .ok (.invokestatic 79, 3) := by decide +kernel
theorem dL_law_421 : decode cL_law 421 = .ok (.istore 5, 2) := by decide +kernel
theorem dL_law_423 : decode cL_law 423 = .ok (.aload_n 2, 1) := by decide +kernel
theorem dL_law_424 : decode cL_law 424 = .ok (.aload_n 0, 1) := by decide +kernel
theorem dL_law_425 : decode cL_law 425 = .ok (.iload 4, 2) := by decide +kernel
theorem dL_law_427 : decode cL_law 427 = .ok (.iconst 1, 1) := by decide +kernel
theorem dL_law_428 : decode cL_law 428 = .ok (.iadd, 1) := by decide +kernel
theorem dL_law_429 : decode cL_law 429 = .ok (.iaload, 1) := by decide +kernel
theorem dL_law_430 : decode cL_law 430 = .ok (.invokevirtual 81, 3) := by decide +kernel
theorem dL_law_433 : decode cL_law 433 = .ok (.istore 6, 2) := by decide +kernel
theorem dL_law_435 : decode cL_law 435 = .ok (.aload_n 2, 1) := by decide +kernel
theorem dL_law_436 : decode cL_law 436 = .ok (.invokevirtual 67, 3) := by decide +kernel
theorem dL_law_439 : decode cL_law 439 = .ok (.iload 5, 2) := by decide +kernel
theorem dL_law_441 : decode cL_law 441 = .ok (.if_icmp .eq 5, 3) := by decide +kernel
theorem dL_law_444 : decode cL_law 444 = .ok (.iconst 0, 1) := by decide +kernel
theorem dL_law_445 : decode cL_law 445 = .ok (.ireturn, 1) := by decide +kernel
theorem dL_law_446 : decode cL_law 446 = .ok (.iload 5, 2) := by decide +kernel
theorem dL_law_448 : decode cL_law 448 = .ok (.ifCond .ne 15, 3) := by decide +kernel
theorem dL_law_451 : decode cL_law 451 = .ok (.aload_n 3, 1) := by decide +kernel
theorem dL_law_452 : decode cL_law 452 = .ok (.iconst 0, 1) := by decide +kernel
theorem dL_law_453 : decode cL_law 453 = .ok (.laload, 1) := by decide +kernel
theorem dL_law_454 : decode cL_law 454 = .ok (.iload 6, 2) := by decide +kernel
theorem dL_law_456 : decode cL_law 456 = .ok (.i2l, 1) := by decide +kernel
theorem dL_law_457 : decode cL_law 457 = .ok (.lcmp, 1) := by decide +kernel
theorem dL_law_458 : decode cL_law 458 = .ok (.ifCond .eq 5, 3) := by decide +kernel
theorem dL_law_461 : decode cL_law 461 = .ok (.iconst 0, 1) := by decide +kernel
theorem dL_law_462 : decode cL_law 462 = .ok (.ireturn, 1) := by decide +kernel
theorem dL_law_463 : decode cL_law 463 = .ok (.goto 716, 3) := by decide +kernel
theorem dL_law_466 : decode cL_law 466 = .ok (.aload_n 1, 1) := by decide +kernel
theorem dL_law_467 : decode cL_law 467 = .ok (.aload_n 0, 1) := by decide +kernel
theorem dL_law_468 : decode cL_law 468 = .ok (.iload 4, 2) := by decide +kernel
theorem dL_law_470 : decode cL_law 470 = .ok (.iconst 1, 1) := by decide +kernel
theorem dL_law_471 : decode cL_law 471 = .ok (.iadd, 1) := by decide +kernel
theorem dL_law_472 : decode cL_law 472 = .ok (.iaload, 1) := by decide +kernel
theorem dL_law_473 : decode cL_law 473 = .ok (.aload_n 0, 1) := by decide +kernel
theorem dL_law_474 : decode cL_law 474 = .ok (.iload 4, 2) := by decide +kernel
theorem dL_law_476 : decode cL_law 476 = .ok (.iconst 2, 1) := by decide +kernel
theorem dL_law_477 : decode cL_law 477 = .ok (.iadd, 1) := by decide +kernel
theorem dL_law_478 : decode cL_law 478 = .ok (.iaload, 1) := by decide +kernel
theorem dL_law_479 : decode cL_law 479 = .ok (.aload_n 0, 1) := by decide +kernel
theorem dL_law_480 : decode cL_law 480 = .ok (.iload 4, 2) := by decide +kernel
theorem dL_law_482 : decode cL_law 482 = .ok (.iconst 3, 1) := by decide +kernel
theorem dL_law_483 : decode cL_law 483 = .ok (.iadd, 1) := by decide +kernel
theorem dL_law_484 : decode cL_law 484 = .ok (.iaload, 1) := by decide +kernel
theorem dL_law_485 : decode cL_law 485 = .ok (.aload_n 3, 1) := by decide +kernel
theorem dL_law_486 : decode cL_law 486 = .ok (.invokestatic 82, 3) := by decide +kernel
theorem dL_law_489 : decode cL_law 489 = .ok (.istore 5, 2) := by decide +kernel
theorem dL_law_491 : decode cL_law 491 = .ok (.aload_n 2, 1) := by decide +kernel
theorem dL_law_492 : decode cL_law 492 = .ok (.aload_n 0, 1) := by decide +kernel
theorem dL_law_493 : decode cL_law 493 = .ok (.iload 4, 2) := by decide +kernel
theorem dL_law_495 : decode cL_law 495 = .ok (.iconst 1, 1) := by decide +kernel
theorem dL_law_496 : decode cL_law 496 = .ok (.iadd, 1) := by decide +kernel
theorem dL_law_497 : decode cL_law 497 = .ok (.iaload, 1) := by decide +kernel
theorem dL_law_498 : decode cL_law 498 = .ok (.aload_n 0, 1) := by decide +kernel
theorem dL_law_499 : decode cL_law 499 = .ok (.iload 4, 2) := by decide +kernel
theorem dL_law_501 : decode cL_law 501 = .ok (.iconst 2, 1) := by decide +kernel
theorem dL_law_502 : decode cL_law 502 = .ok (.iadd, 1) := by decide +kernel
theorem dL_law_503 : decode cL_law 503 = .ok (.iaload, 1) := by decide +kernel
theorem dL_law_504 : decode cL_law 504 = .ok (.aload_n 0, 1) := by decide +kernel
theorem dL_law_505 : decode cL_law 505 = .ok (.iload 4, 2) := by decide +kernel
theorem dL_law_507 : decode cL_law 507 = .ok (.iconst 3, 1) := by decide +kernel
theorem dL_law_508 : decode cL_law 508 = .ok (.iadd, 1) := by decide +kernel
theorem dL_law_509 : decode cL_law 509 = .ok (.iaload, 1) := by decide +kernel
theorem dL_law_510 : decode cL_law 510 = .ok (.invokevirtual 84, 3) := by decide +kernel
theorem dL_law_513 : decode cL_law 513 = .ok (.istore 6, 2) := by decide +kernel
theorem dL_law_515 : decode cL_law 515 = .ok (.aload_n 2, 1) := by decide +kernel
theorem dL_law_516 : decode cL_law 516 = .ok (.invokevirtual 67, 3) := by decide +kernel
theorem dL_law_519 : decode cL_law 519 = .ok (.iload 5, 2) := by decide +kernel
theorem dL_law_521 : decode cL_law 521 = .ok (.if_icmp .eq 5, 3) := by decide +kernel
theorem dL_law_524 : decode cL_law 524 = .ok (.iconst 0, 1) := by decide +kernel
theorem dL_law_525 : decode cL_law 525 = .ok (.ireturn, 1) := by decide +kernel
theorem dL_law_526 : decode cL_law 526 = .ok (.iload 5, 2) := by decide +kernel
theorem dL_law_528 : decode cL_law 528 = .ok (.ifCond .ne 15, 3) := by decide +kernel
theorem dL_law_531 : decode cL_law 531 = .ok (.aload_n 3, 1) := by decide +kernel
theorem dL_law_532 : decode cL_law 532 = .ok (.iconst 0, 1) := by decide +kernel
theorem dL_law_533 : decode cL_law 533 = .ok (.laload, 1) := by decide +kernel
theorem dL_law_534 : decode cL_law 534 = .ok (.iload 6, 2) := by decide +kernel
theorem dL_law_536 : decode cL_law 536 = .ok (.i2l, 1) := by decide +kernel
theorem dL_law_537 : decode cL_law 537 = .ok (.lcmp, 1) := by decide +kernel
theorem dL_law_538 : decode cL_law 538 = .ok (.ifCond .eq 5, 3) := by decide +kernel
theorem dL_law_541 : decode cL_law 541 = .ok (.iconst 0, 1) := by decide +kernel
theorem dL_law_542 : decode cL_law 542 = .ok (.ireturn, 1) := by decide +kernel
theorem dL_law_543 : decode cL_law 543 = .ok (.goto 636, 3) := by decide +kernel
theorem dL_law_546 : decode cL_law 546 = .ok (.aload_n 1, 1) := by decide +kernel
theorem dL_law_547 : decode cL_law 547 = .ok (.aload_n 0, 1) := by decide +kernel
theorem dL_law_548 : decode cL_law 548 = .ok (.iload 4, 2) := by decide +kernel
theorem dL_law_550 : decode cL_law 550 = .ok (.iconst 1, 1) := by decide +kernel
theorem dL_law_551 : decode cL_law 551 = .ok (.iadd, 1) := by decide +kernel
theorem dL_law_552 : decode cL_law 552 = .ok (.iaload, 1) := by decide +kernel
theorem dL_law_553 : decode cL_law 553 = .ok (.aload_n 0, 1) := by decide +kernel
theorem dL_law_554 : decode cL_law 554 = .ok (.iload 4, 2) := by decide +kernel
theorem dL_law_556 : decode cL_law 556 = .ok (.iconst 2, 1) := by decide +kernel
theorem dL_law_557 : decode cL_law 557 = .ok (.iadd, 1) := by decide +kernel
theorem dL_law_558 : decode cL_law 558 = .ok (.iaload, 1) := by decide +kernel
theorem dL_law_559 : decode cL_law 559 = .ok (.aload_n 0, 1) := by decide +kernel
theorem dL_law_560 : decode cL_law 560 = .ok (.iload 4, 2) := by decide +kernel
theorem dL_law_562 : decode cL_law 562 = .ok (.iconst 3, 1) := by decide +kernel
theorem dL_law_563 : decode cL_law 563 = .ok (.iadd, 1) := by decide +kernel
theorem dL_law_564 : decode cL_law 564 = .ok (.iaload, 1) := by decide +kernel
theorem dL_law_565 : decode cL_law 565 = .ok (.aload_n 3, 1) := by decide +kernel
theorem dL_law_566 : decode cL_law 566 = .ok (.invokestatic 85, 3) := by decide +kernel
theorem dL_law_569 : decode cL_law 569 = .ok (.istore 5, 2) := by decide +kernel
theorem dL_law_571 : decode cL_law 571 = .ok (.aload_n 2, 1) := by decide +kernel
theorem dL_law_572 : decode cL_law 572 = .ok (.aload_n 0, 1) := by decide +kernel
theorem dL_law_573 : decode cL_law 573 = .ok (.iload 4, 2) := by decide +kernel
theorem dL_law_575 : decode cL_law 575 = .ok (.iconst 1, 1) := by decide +kernel
theorem dL_law_576 : decode cL_law 576 = .ok (.iadd, 1) := by decide +kernel
theorem dL_law_577 : decode cL_law 577 = .ok (.iaload, 1) := by decide +kernel
theorem dL_law_578 : decode cL_law 578 = .ok (.aload_n 0, 1) := by decide +kernel
theorem dL_law_579 : decode cL_law 579 = .ok (.iload 4, 2) := by decide +kernel
theorem dL_law_581 : decode cL_law 581 = .ok (.iconst 2, 1) := by decide +kernel
theorem dL_law_582 : decode cL_law 582 = .ok (.iadd, 1) := by decide +kernel
theorem dL_law_583 : decode cL_law 583 = .ok (.iaload, 1) := by decide +kernel
theorem dL_law_584 : decode cL_law 584 = .ok (.aload_n 0, 1) := by decide +kernel
theorem dL_law_585 : decode cL_law 585 = .ok (.iload 4, 2) := by decide +kernel
theorem dL_law_587 : decode cL_law 587 = .ok (.iconst 3, 1) := by decide +kernel
theorem dL_law_588 : decode cL_law 588 = .ok (.iadd, 1) := by decide +kernel
theorem dL_law_589 : decode cL_law 589 = .ok (.iaload, 1) := by decide +kernel
theorem dL_law_590 : decode cL_law 590 = .ok (.invokevirtual 87, 3) := by decide +kernel
theorem dL_law_593 : decode cL_law 593 = .ok (.istore 6, 2) := by decide +kernel
theorem dL_law_595 : decode cL_law 595 = .ok (.aload_n 2, 1) := by decide +kernel
theorem dL_law_596 : decode cL_law 596 = .ok (.invokevirtual 67, 3) := by decide +kernel
theorem dL_law_599 : decode cL_law 599 = .ok (.iload 5, 2) := by decide +kernel
theorem dL_law_601 : decode cL_law 601 = .ok (.if_icmp .eq 5, 3) := by decide +kernel
theorem dL_law_604 : decode cL_law 604 = .ok (.iconst 0, 1) := by decide +kernel
theorem dL_law_605 : decode cL_law 605 = .ok (.ireturn, 1) := by decide +kernel
theorem dL_law_606 : decode cL_law 606 = .ok (.iload 5, 2) := by decide +kernel
theorem dL_law_608 : decode cL_law 608 = .ok (.ifCond .ne 15, 3) := by decide +kernel
theorem dL_law_611 : decode cL_law 611 = .ok (.aload_n 3, 1) := by decide +kernel
theorem dL_law_612 : decode cL_law 612 = .ok (.iconst 0, 1) := by decide +kernel
theorem dL_law_613 : decode cL_law 613 = .ok (.laload, 1) := by decide +kernel
theorem dL_law_614 : decode cL_law 614 = .ok (.iload 6, 2) := by decide +kernel
theorem dL_law_616 : decode cL_law 616 = .ok (.i2l, 1) := by decide +kernel
theorem dL_law_617 : decode cL_law 617 = .ok (.lcmp, 1) := by decide +kernel
theorem dL_law_618 : decode cL_law 618 = .ok (.ifCond .eq 5, 3) := by decide +kernel
theorem dL_law_621 : decode cL_law 621 = .ok (.iconst 0, 1) := by decide +kernel
theorem dL_law_622 : decode cL_law 622 = .ok (.ireturn, 1) := by decide +kernel
theorem dL_law_623 : decode cL_law 623 = .ok (.goto 556, 3) := by decide +kernel
theorem dL_law_626 : decode cL_law 626 = .ok (.aload_n 1, 1) := by decide +kernel
theorem dL_law_627 : decode cL_law 627 = .ok (.aload_n 0, 1) := by decide +kernel
theorem dL_law_628 : decode cL_law 628 = .ok (.iload 4, 2) := by decide +kernel
theorem dL_law_630 : decode cL_law 630 = .ok (.iconst 1, 1) := by decide +kernel
theorem dL_law_631 : decode cL_law 631 = .ok (.iadd, 1) := by decide +kernel
theorem dL_law_632 : decode cL_law 632 = .ok (.iaload, 1) := by decide +kernel
theorem dL_law_633 : decode cL_law 633 = .ok (.aload_n 0, 1) := by decide +kernel
theorem dL_law_634 : decode cL_law 634 = .ok (.iload 4, 2) := by decide +kernel
theorem dL_law_636 : decode cL_law 636 = .ok (.iconst 2, 1) := by decide +kernel
theorem dL_law_637 : decode cL_law 637 = .ok (.iadd, 1) := by decide +kernel
theorem dL_law_638 : decode cL_law 638 = .ok (.iaload, 1) := by decide +kernel
theorem dL_law_639 : decode cL_law 639 = .ok (.aload_n 0, 1) := by decide +kernel
theorem dL_law_640 : decode cL_law 640 = .ok (.iload 4, 2) := by decide +kernel
theorem dL_law_642 : decode cL_law 642 = .ok (.iconst 3, 1) := by decide +kernel
theorem dL_law_643 : decode cL_law 643 = .ok (.iadd, 1) := by decide +kernel
theorem dL_law_644 : decode cL_law 644 = .ok (.iaload, 1) := by decide +kernel
theorem dL_law_645 : decode cL_law 645 = .ok (.aload_n 3, 1) := by decide +kernel
theorem dL_law_646 : decode cL_law 646 = .ok (.invokestatic 88, 3) := by decide +kernel
theorem dL_law_649 : decode cL_law 649 = .ok (.istore 5, 2) := by decide +kernel
theorem dL_law_651 : decode cL_law 651 = .ok (.aload_n 2, 1) := by decide +kernel
theorem dL_law_652 : decode cL_law 652 = .ok (.aload_n 0, 1) := by decide +kernel
theorem dL_law_653 : decode cL_law 653 = .ok (.iload 4, 2) := by decide +kernel
theorem dL_law_655 : decode cL_law 655 = .ok (.iconst 1, 1) := by decide +kernel
theorem dL_law_656 : decode cL_law 656 = .ok (.iadd, 1) := by decide +kernel
theorem dL_law_657 : decode cL_law 657 = .ok (.iaload, 1) := by decide +kernel
theorem dL_law_658 : decode cL_law 658 = .ok (.aload_n 0, 1) := by decide +kernel
theorem dL_law_659 : decode cL_law 659 = .ok (.iload 4, 2) := by decide +kernel
theorem dL_law_661 : decode cL_law 661 = .ok (.iconst 2, 1) := by decide +kernel
theorem dL_law_662 : decode cL_law 662 = .ok (.iadd, 1) := by decide +kernel
theorem dL_law_663 : decode cL_law 663 = .ok (.iaload, 1) := by decide +kernel
theorem dL_law_664 : decode cL_law 664 = .ok (.aload_n 0, 1) := by decide +kernel
theorem dL_law_665 : decode cL_law 665 = .ok (.iload 4, 2) := by decide +kernel
theorem dL_law_667 : decode cL_law 667 = .ok (.iconst 3, 1) := by decide +kernel
theorem dL_law_668 : decode cL_law 668 = .ok (.iadd, 1) := by decide +kernel
theorem dL_law_669 : decode cL_law 669 = .ok (.iaload, 1) := by decide +kernel
theorem dL_law_670 : decode cL_law 670 = .ok (.invokevirtual 90, 3) := by decide +kernel
theorem dL_law_673 : decode cL_law 673 = .ok (.istore 6, 2) := by decide +kernel
theorem dL_law_675 : decode cL_law 675 = .ok (.aload_n 2, 1) := by decide +kernel
theorem dL_law_676 : decode cL_law 676 = .ok (.invokevirtual 67, 3) := by decide +kernel
theorem dL_law_679 : decode cL_law 679 = .ok (.iload 5, 2) := by decide +kernel
theorem dL_law_681 : decode cL_law 681 = .ok (.if_icmp .eq 5, 3) := by decide +kernel
theorem dL_law_684 : decode cL_law 684 = .ok (.iconst 0, 1) := by decide +kernel
theorem dL_law_685 : decode cL_law 685 = .ok (.ireturn, 1) := by decide +kernel
theorem dL_law_686 : decode cL_law 686 = .ok (.iload 5, 2) := by decide +kernel
theorem dL_law_688 : decode cL_law 688 = .ok (.ifCond .ne 15, 3) := by decide +kernel
theorem dL_law_691 : decode cL_law 691 = .ok (.aload_n 3, 1) := by decide +kernel
theorem dL_law_692 : decode cL_law 692 = .ok (.iconst 0, 1) := by decide +kernel
theorem dL_law_693 : decode cL_law 693 = .ok (.laload, 1) := by decide +kernel
theorem dL_law_694 : decode cL_law 694 = .ok (.iload 6, 2) := by decide +kernel
theorem dL_law_696 : decode cL_law 696 = .ok (.i2l, 1) := by decide +kernel
theorem dL_law_697 : decode cL_law 697 = .ok (.lcmp, 1) := by decide +kernel
theorem dL_law_698 : decode cL_law 698 = .ok (.ifCond .eq 5, 3) := by decide +kernel
theorem dL_law_701 : decode cL_law 701 = .ok (.iconst 0, 1) := by decide +kernel
theorem dL_law_702 : decode cL_law 702 = .ok (.ireturn, 1) := by decide +kernel
theorem dL_law_703 : decode cL_law 703 = .ok (.goto 476, 3) := by decide +kernel
theorem dL_law_706 : decode cL_law 706 = .ok (.aload_n 1, 1) := by decide +kernel
theorem dL_law_707 : decode cL_law 707 = .ok (.invokevirtual 91, 3) := by decide +kernel
theorem dL_law_710 : decode cL_law 710 = .ok (.aload_n 2, 1) := by decide +kernel
theorem dL_law_711 : decode cL_law 711 = .ok (.invokevirtual 94, 3) := by decide +kernel
theorem dL_law_714 : decode cL_law 714 = .ok (.if_icmp .eq 465, 3) := by decide +kernel
theorem dL_law_717 : decode cL_law 717 = .ok (.iconst 0, 1) := by decide +kernel
theorem dL_law_718 : decode cL_law 718 = .ok (.ireturn, 1) := by decide +kernel
theorem dL_law_719 : decode cL_law 719 = .ok (.aload_n 1, 1) := by decide +kernel
theorem dL_law_720 : decode cL_law 720 = .ok (.invokevirtual 95, 3) := by decide +kernel
theorem dL_law_723 : decode cL_law 723 = .ok (.aload_n 2, 1) := by decide +kernel
theorem dL_law_724 : decode cL_law 724 = .ok (.invokevirtual 98, 3) := by decide +kernel
theorem dL_law_727 : decode cL_law 727 = .ok (.if_icmp .eq 452, 3) := by decide +kernel
theorem dL_law_730 : decode cL_law 730 = .ok (.iconst 0, 1) := by decide +kernel
theorem dL_law_731 : decode cL_law 731 = .ok (.ireturn, 1) := by decide +kernel
theorem dL_law_732 : decode cL_law 732 = .ok (.aload_n 1, 1) := by decide +kernel
theorem dL_law_733 : decode cL_law 733 = .ok (.aload_n 0, 1) := by decide +kernel
theorem dL_law_734 : decode cL_law 734 = .ok (.iload 4, 2) := by decide +kernel
theorem dL_law_736 : decode cL_law 736 = .ok (.iconst 1, 1) := by decide +kernel
theorem dL_law_737 : decode cL_law 737 = .ok (.iadd, 1) := by decide +kernel
theorem dL_law_738 : decode cL_law 738 = .ok (.iaload, 1) := by decide +kernel
theorem dL_law_739 : decode cL_law 739 = .ok (.aload_n 0, 1) := by decide +kernel
theorem dL_law_740 : decode cL_law 740 = .ok (.iload 4, 2) := by decide +kernel
theorem dL_law_742 : decode cL_law 742 = .ok (.iconst 2, 1) := by decide +kernel
theorem dL_law_743 : decode cL_law 743 = .ok (.iadd, 1) := by decide +kernel
theorem dL_law_744 : decode cL_law 744 = .ok (.iaload, 1) := by decide +kernel
theorem dL_law_745 : decode cL_law 745 = .ok (.invokevirtual 99, 3) := by decide +kernel
theorem dL_law_748 : decode cL_law 748 = .ok (.aload_n 2, 1) := by decide +kernel
theorem dL_law_749 : decode cL_law 749 = .ok (.aload_n 0, 1) := by decide +kernel
theorem dL_law_750 : decode cL_law 750 = .ok (.iload 4, 2) := by decide +kernel
theorem dL_law_752 : decode cL_law 752 = .ok (.iconst 1, 1) := by decide +kernel
theorem dL_law_753 : decode cL_law 753 = .ok (.iadd, 1) := by decide +kernel
theorem dL_law_754 : decode cL_law 754 = .ok (.iaload, 1) := by decide +kernel
theorem dL_law_755 : decode cL_law 755 = .ok (.aload_n 0, 1) := by decide +kernel
theorem dL_law_756 : decode cL_law 756 = .ok (.iload 4, 2) := by decide +kernel
theorem dL_law_758 : decode cL_law 758 = .ok (.iconst 2, 1) := by decide +kernel
theorem dL_law_759 : decode cL_law 759 = .ok (.iadd, 1) := by decide +kernel
theorem dL_law_760 : decode cL_law 760 = .ok (.iaload, 1) := by decide +kernel
theorem dL_law_761 : decode cL_law 761 = .ok (.invokevirtual 103, 3) := by decide +kernel
theorem dL_law_764 : decode cL_law 764 = .ok (.if_icmp .eq 415, 3) := by decide +kernel
theorem dL_law_767 : decode cL_law 767 = .ok (.iconst 0, 1) := by decide +kernel
theorem dL_law_768 : decode cL_law 768 = .ok (.ireturn, 1) := by decide +kernel
theorem dL_law_769 : decode cL_law 769 = .ok (.aload_n 1, 1) := by decide +kernel
theorem dL_law_770 : decode cL_law 770 = .ok (.aload_n 0, 1) := by decide +kernel
theorem dL_law_771 : decode cL_law 771 = .ok (.iload 4, 2) := by decide +kernel
theorem dL_law_773 : decode cL_law 773 = .ok (.iconst 1, 1) := by decide +kernel
theorem dL_law_774 : decode cL_law 774 = .ok (.iadd, 1) := by decide +kernel
theorem dL_law_775 : decode cL_law 775 = .ok (.iaload, 1) := by decide +kernel
theorem dL_law_776 : decode cL_law 776 = .ok (.invokevirtual 104, 3) := by decide +kernel
theorem dL_law_779 : decode cL_law 779 = .ok (.aload_n 2, 1) := by decide +kernel
theorem dL_law_780 : decode cL_law 780 = .ok (.aload_n 0, 1) := by decide +kernel
theorem dL_law_781 : decode cL_law 781 = .ok (.iload 4, 2) := by decide +kernel
theorem dL_law_783 : decode cL_law 783 = .ok (.iconst 1, 1) := by decide +kernel
theorem dL_law_784 : decode cL_law 784 = .ok (.iadd, 1) := by decide +kernel
theorem dL_law_785 : decode cL_law 785 = .ok (.iaload, 1) := by decide +kernel
theorem dL_law_786 : decode cL_law 786 = .ok (.invokevirtual 107, 3) := by decide +kernel
theorem dL_law_789 : decode cL_law 789 = .ok (.if_icmp .eq 390, 3) := by decide +kernel
theorem dL_law_792 : decode cL_law 792 = .ok (.iconst 0, 1) := by decide +kernel
theorem dL_law_793 : decode cL_law 793 = .ok (.ireturn, 1) := by decide +kernel
theorem dL_law_794 : decode cL_law 794 = .ok (.aload_n 1, 1) := by decide +kernel
theorem dL_law_795 : decode cL_law 795 = .ok (.invokevirtual 108, 3) := by decide +kernel
theorem dL_law_798 : decode cL_law 798 = .ok (.aload_n 2, 1) := by decide +kernel
theorem dL_law_799 : decode cL_law 799 = .ok (.invokevirtual 111, 3) := by decide +kernel
theorem dL_law_802 : decode cL_law 802 = .ok (.if_icmp .eq 377, 3) := by decide +kernel
theorem dL_law_805 : decode cL_law 805 = .ok (.iconst 0, 1) := by decide +kernel
theorem dL_law_806 : decode cL_law 806 = .ok (.ireturn, 1) := by decide +kernel
theorem dL_law_807 : decode cL_law 807 = .ok (.aload_n 1, 1) := by decide +kernel
theorem dL_law_808 : decode cL_law 808 = .ok (.invokevirtual 112, 3) := by decide +kernel
theorem dL_law_811 : decode cL_law 811 = .ok (.aload_n 2, 1) := by decide +kernel
theorem dL_law_812 : decode cL_law 812 = .ok (.invokevirtual 115, 3) := by decide +kernel
theorem dL_law_815 : decode cL_law 815 = .ok (.if_icmp .eq 364, 3) := by decide +kernel
theorem dL_law_818 : decode cL_law 818 = .ok (.iconst 0, 1) := by decide +kernel
theorem dL_law_819 : decode cL_law 819 = .ok (.ireturn, 1) := by decide +kernel
theorem dL_law_820 : decode cL_law 820 = .ok (.aload_n 1, 1) := by decide +kernel
theorem dL_law_821 : decode cL_law 821 = .ok (.aload_n 0, 1) := by decide +kernel
theorem dL_law_822 : decode cL_law 822 = .ok (.iload 4, 2) := by decide +kernel
theorem dL_law_824 : decode cL_law 824 = .ok (.iconst 1, 1) := by decide +kernel
theorem dL_law_825 : decode cL_law 825 = .ok (.iadd, 1) := by decide +kernel
theorem dL_law_826 : decode cL_law 826 = .ok (.iaload, 1) := by decide +kernel
theorem dL_law_827 : decode cL_law 827 = .ok (.invokevirtual 116, 3) := by decide +kernel
theorem dL_law_830 : decode cL_law 830 = .ok (.aload_n 2, 1) := by decide +kernel
theorem dL_law_831 : decode cL_law 831 = .ok (.aload_n 0, 1) := by decide +kernel
theorem dL_law_832 : decode cL_law 832 = .ok (.iload 4, 2) := by decide +kernel
theorem dL_law_834 : decode cL_law 834 = .ok (.iconst 1, 1) := by decide +kernel
theorem dL_law_835 : decode cL_law 835 = .ok (.iadd, 1) := by decide +kernel
theorem dL_law_836 : decode cL_law 836 = .ok (.iaload, 1) := by decide +kernel
theorem dL_law_837 : decode cL_law 837 = .ok (.invokevirtual 119, 3) := by decide +kernel
theorem dL_law_840 : decode cL_law 840 = .ok (.if_icmp .eq 339, 3) := by decide +kernel
theorem dL_law_843 : decode cL_law 843 = .ok (.iconst 0, 1) := by decide +kernel
theorem dL_law_844 : decode cL_law 844 = .ok (.ireturn, 1) := by decide +kernel
theorem dL_law_845 : decode cL_law 845 = .ok (.aload_n 1, 1) := by decide +kernel
theorem dL_law_846 : decode cL_law 846 = .ok (.invokevirtual 120, 3) := by decide +kernel
theorem dL_law_849 : decode cL_law 849 = .ok (.aload_n 2, 1) := by decide +kernel
theorem dL_law_850 : decode cL_law 850 = .ok (.invokevirtual 123, 3) := by decide +kernel
theorem dL_law_853 : decode cL_law 853 = .ok (.if_icmp .eq 326, 3) := by decide +kernel
theorem dL_law_856 : decode cL_law 856 = .ok (.iconst 0, 1) := by decide +kernel
theorem dL_law_857 : decode cL_law 857 = .ok (.ireturn, 1) := by decide +kernel
theorem dL_law_858 : decode cL_law 858 = .ok (.aload_n 1, 1) := by decide +kernel
theorem dL_law_859 : decode cL_law 859 = .ok (.aload_n 0, 1) := by decide +kernel
theorem dL_law_860 : decode cL_law 860 = .ok (.iload 4, 2) := by decide +kernel
theorem dL_law_862 : decode cL_law 862 = .ok (.iconst 1, 1) := by decide +kernel
theorem dL_law_863 : decode cL_law 863 = .ok (.iadd, 1) := by decide +kernel
theorem dL_law_864 : decode cL_law 864 = .ok (.iaload, 1) := by decide +kernel
theorem dL_law_865 : decode cL_law 865 = .ok (.aload_n 0, 1) := by decide +kernel
theorem dL_law_866 : decode cL_law 866 = .ok (.iload 4, 2) := by decide +kernel
theorem dL_law_868 : decode cL_law 868 = .ok (.iconst 2, 1) := by decide +kernel
theorem dL_law_869 : decode cL_law 869 = .ok (.iadd, 1) := by decide +kernel
theorem dL_law_870 : decode cL_law 870 = .ok (.iaload, 1) := by decide +kernel
theorem dL_law_871 : decode cL_law 871 = .ok (.aload_n 3, 1) := by decide +kernel
theorem dL_law_872 : decode cL_law 872 = .ok (.invokestatic 124, 3) := by decide +kernel
theorem dL_law_875 : decode cL_law 875 = .ok (.istore 5, 2) := by decide +kernel
theorem dL_law_877 : decode cL_law 877 = .ok (.aload_n 2, 1) := by decide +kernel
theorem dL_law_878 : decode cL_law 878 = .ok (.aload_n 0, 1) := by decide +kernel
theorem dL_law_879 : decode cL_law 879 = .ok (.iload 4, 2) := by decide +kernel
theorem dL_law_881 : decode cL_law 881 = .ok (.iconst 1, 1) := by decide +kernel
theorem dL_law_882 : decode cL_law 882 = .ok (.iadd, 1) := by decide +kernel
theorem dL_law_883 : decode cL_law 883 = .ok (.iaload, 1) := by decide +kernel
theorem dL_law_884 : decode cL_law 884 = .ok (.aload_n 0, 1) := by decide +kernel
theorem dL_law_885 : decode cL_law 885 = .ok (.iload 4, 2) := by decide +kernel
theorem dL_law_887 : decode cL_law 887 = .ok (.iconst 2, 1) := by decide +kernel
theorem dL_law_888 : decode cL_law 888 = .ok (.iadd, 1) := by decide +kernel
theorem dL_law_889 : decode cL_law 889 = .ok (.iaload, 1) := by decide +kernel
theorem dL_law_890 : decode cL_law 890 = .ok (.invokevirtual 127, 3) := by decide +kernel
theorem dL_law_893 : decode cL_law 893 = .ok (.istore 6, 2) := by decide +kernel
theorem dL_law_895 : decode cL_law 895 = .ok (.aload_n 2, 1) := by decide +kernel
theorem dL_law_896 : decode cL_law 896 = .ok (.invokevirtual 67, 3) := by decide +kernel
theorem dL_law_899 : decode cL_law 899 = .ok (.iload 5, 2) := by decide +kernel
theorem dL_law_901 : decode cL_law 901 = .ok (.if_icmp .eq 5, 3) := by decide +kernel
theorem dL_law_904 : decode cL_law 904 = .ok (.iconst 0, 1) := by decide +kernel
theorem dL_law_905 : decode cL_law 905 = .ok (.ireturn, 1) := by decide +kernel
theorem dL_law_906 : decode cL_law 906 = .ok (.iload 5, 2) := by decide +kernel
theorem dL_law_908 : decode cL_law 908 = .ok (.ifCond .ne 22, 3) := by decide +kernel
theorem dL_law_911 : decode cL_law 911 = .ok (.aload_n 3, 1) := by decide +kernel
theorem dL_law_912 : decode cL_law 912 = .ok (.iconst 0, 1) := by decide +kernel
theorem dL_law_913 : decode cL_law 913 = .ok (.laload, 1) := by decide +kernel
theorem dL_law_914 : decode cL_law 914 = .ok (.iload 6, 2) := by decide +kernel
theorem dL_law_916 : decode cL_law 916 = .ok (.ifCond .eq 7, 3) := by decide +kernel
theorem dL_law_919 : decode cL_law 919 = .ok (.lconst 1, 1) := by decide +kernel
theorem dL_law_920 : decode cL_law 920 = .ok (.goto 4, 3) := by decide +kernel
theorem dL_law_923 : decode cL_law 923 = .ok (.lconst 0, 1) := by decide +kernel
theorem dL_law_924 : decode cL_law 924 = .ok (.lcmp, 1) := by decide +kernel
theorem dL_law_925 : decode cL_law 925 = .ok (.ifCond .eq 5, 3) := by decide +kernel
theorem dL_law_928 : decode cL_law 928 = .ok (.iconst 0, 1) := by decide +kernel
theorem dL_law_929 : decode cL_law 929 = .ok (.ireturn, 1) := by decide +kernel
theorem dL_law_930 : decode cL_law 930 = .ok (.goto 249, 3) := by decide +kernel
theorem dL_law_933 : decode cL_law 933 = .ok (.aload_n 1, 1) := by decide +kernel
theorem dL_law_934 : decode cL_law 934 = .ok (.aload_n 0, 1) := by decide +kernel
theorem dL_law_935 : decode cL_law 935 = .ok (.iload 4, 2) := by decide +kernel
theorem dL_law_937 : decode cL_law 937 = .ok (.iconst 1, 1) := by decide +kernel
theorem dL_law_938 : decode cL_law 938 = .ok (.iadd, 1) := by decide +kernel
theorem dL_law_939 : decode cL_law 939 = .ok (.iaload, 1) := by decide +kernel
theorem dL_law_940 : decode cL_law 940 = .ok (.aload_n 3, 1) := by decide +kernel
theorem dL_law_941 : decode cL_law 941 = .ok (.invokestatic 128, 3) := by decide +kernel
theorem dL_law_944 : decode cL_law 944 = .ok (.istore 5, 2) := by decide +kernel
theorem dL_law_946 : decode cL_law 946 = .ok (.aload_n 2, 1) := by decide +kernel
theorem dL_law_947 : decode cL_law 947 = .ok (.aload_n 0, 1) := by decide +kernel
theorem dL_law_948 : decode cL_law 948 = .ok (.iload 4, 2) := by decide +kernel
theorem dL_law_950 : decode cL_law 950 = .ok (.iconst 1, 1) := by decide +kernel
theorem dL_law_951 : decode cL_law 951 = .ok (.iadd, 1) := by decide +kernel
theorem dL_law_952 : decode cL_law 952 = .ok (.iaload, 1) := by decide +kernel
theorem dL_law_953 : decode cL_law 953 = .ok (.invokevirtual 130, 3) := by decide +kernel
theorem dL_law_956 : decode cL_law 956 = .ok (.istore 6, 2) := by decide +kernel
theorem dL_law_958 : decode cL_law 958 = .ok (.aload_n 2, 1) := by decide +kernel
theorem dL_law_959 : decode cL_law 959 = .ok (.invokevirtual 67, 3) := by decide +kernel
theorem dL_law_962 : decode cL_law 962 = .ok (.iload 5, 2) := by decide +kernel
theorem dL_law_964 : decode cL_law 964 = .ok (.if_icmp .eq 5, 3) := by decide +kernel
theorem dL_law_967 : decode cL_law 967 = .ok (.iconst 0, 1) := by decide +kernel
theorem dL_law_968 : decode cL_law 968 = .ok (.ireturn, 1) := by decide +kernel
theorem dL_law_969 : decode cL_law 969 = .ok (.iload 5, 2) := by decide +kernel
theorem dL_law_971 : decode cL_law 971 = .ok (.ifCond .ne 15, 3) := by decide +kernel
theorem dL_law_974 : decode cL_law 974 = .ok (.aload_n 3, 1) := by decide +kernel
theorem dL_law_975 : decode cL_law 975 = .ok (.iconst 0, 1) := by decide +kernel
theorem dL_law_976 : decode cL_law 976 = .ok (.laload, 1) := by decide +kernel
theorem dL_law_977 : decode cL_law 977 = .ok (.iload 6, 2) := by decide +kernel
theorem dL_law_979 : decode cL_law 979 = .ok (.i2l, 1) := by decide +kernel
theorem dL_law_980 : decode cL_law 980 = .ok (.lcmp, 1) := by decide +kernel
theorem dL_law_981 : decode cL_law 981 = .ok (.ifCond .eq 5, 3) := by decide +kernel
theorem dL_law_984 : decode cL_law 984 = .ok (.iconst 0, 1) := by decide +kernel
theorem dL_law_985 : decode cL_law 985 = .ok (.ireturn, 1) := by decide +kernel
theorem dL_law_986 : decode cL_law 986 = .ok (.goto 193, 3) := by decide +kernel
theorem dL_law_989 : decode cL_law 989 = .ok (.aload_n 1, 1) := by decide +kernel
theorem dL_law_990 : decode cL_law 990 = .ok (.aload_n 0, 1) := by decide +kernel
theorem dL_law_991 : decode cL_law 991 = .ok (.iload 4, 2) := by decide +kernel
theorem dL_law_993 : decode cL_law 993 = .ok (.iconst 1, 1) := by decide +kernel
theorem dL_law_994 : decode cL_law 994 = .ok (.iadd, 1) := by decide +kernel
theorem dL_law_995 : decode cL_law 995 = .ok (.iaload, 1) := by decide +kernel
theorem dL_law_996 : decode cL_law 996 = .ok (.aload_n 3, 1) := by decide +kernel
theorem dL_law_997 : decode cL_law 997 = .ok (.invokestatic 131, 3) := by decide +kernel
theorem dL_law_1000 : decode cL_law 1000 = .ok (.istore 5, 2) := by decide +kernel
theorem dL_law_1002 : decode cL_law 1002 = .ok (.aload_n 2, 1) := by decide +kernel
theorem dL_law_1003 : decode cL_law 1003 = .ok (.aload_n 0, 1) := by decide +kernel
theorem dL_law_1004 : decode cL_law 1004 = .ok (.iload 4, 2) := by decide +kernel
theorem dL_law_1006 : decode cL_law 1006 = .ok (.iconst 1, 1) := by decide +kernel
theorem dL_law_1007 : decode cL_law 1007 = .ok (.iadd, 1) := by decide +kernel
theorem dL_law_1008 : decode cL_law 1008 = .ok (.iaload, 1) := by decide +kernel
theorem dL_law_1009 : decode cL_law 1009 = .ok (.invokevirtual 133, 3) := by decide +kernel
theorem dL_law_1012 : decode cL_law 1012 = .ok (.istore 6, 2) := by decide +kernel
theorem dL_law_1014 : decode cL_law 1014 = .ok (.aload_n 2, 1) := by decide +kernel
theorem dL_law_1015 : decode cL_law 1015 = .ok (.invokevirtual 67, 3) := by decide +kernel
theorem dL_law_1018 : decode cL_law 1018 = .ok (.iload 5, 2) := by decide +kernel
theorem dL_law_1020 : decode cL_law 1020 = .ok (.if_icmp .eq 5, 3) := by decide +kernel
theorem dL_law_1023 : decode cL_law 1023 = .ok (.iconst 0, 1) := by decide +kernel
theorem dL_law_1024 : decode cL_law 1024 = .ok (.ireturn, 1) := by decide +kernel
theorem dL_law_1025 : decode cL_law 1025 = .ok (.iload 5, 2) := by decide +kernel
theorem dL_law_1027 : decode cL_law 1027 = .ok (.ifCond .ne 22, 3) := by decide +kernel
theorem dL_law_1030 : decode cL_law 1030 = .ok (.aload_n 3, 1) := by decide +kernel
theorem dL_law_1031 : decode cL_law 1031 = .ok (.iconst 0, 1) := by decide +kernel
theorem dL_law_1032 : decode cL_law 1032 = .ok (.laload, 1) := by decide +kernel
theorem dL_law_1033 : decode cL_law 1033 = .ok (.iload 6, 2) := by decide +kernel
theorem dL_law_1035 : decode cL_law 1035 = .ok (.ifCond .eq 7, 3) := by decide +kernel
theorem dL_law_1038 : decode cL_law 1038 = .ok (.lconst 1, 1) := by decide +kernel
theorem dL_law_1039 : decode cL_law 1039 = .ok (.goto 4, 3) := by decide +kernel
theorem dL_law_1042 : decode cL_law 1042 = .ok (.lconst 0, 1) := by decide +kernel
theorem dL_law_1043 : decode cL_law 1043 = .ok (.lcmp, 1) := by decide +kernel
theorem dL_law_1044 : decode cL_law 1044 = .ok (.ifCond .eq 5, 3) := by decide +kernel
theorem dL_law_1047 : decode cL_law 1047 = .ok (.iconst 0, 1) := by decide +kernel
theorem dL_law_1048 : decode cL_law 1048 = .ok (.ireturn, 1) := by decide +kernel
theorem dL_law_1049 : decode cL_law 1049 = .ok (.goto 130, 3) := by decide +kernel
theorem dL_law_1052 : decode cL_law 1052 = .ok (.aload_n 1, 1) := by decide +kernel
theorem dL_law_1053 : decode cL_law 1053 = .ok (.aload_n 0, 1) := by decide +kernel
theorem dL_law_1054 : decode cL_law 1054 = .ok (.iload 4, 2) := by decide +kernel
theorem dL_law_1056 : decode cL_law 1056 = .ok (.iconst 1, 1) := by decide +kernel
theorem dL_law_1057 : decode cL_law 1057 = .ok (.iadd, 1) := by decide +kernel
theorem dL_law_1058 : decode cL_law 1058 = .ok (.iaload, 1) := by decide +kernel
theorem dL_law_1059 : decode cL_law 1059 = .ok (.aload_n 0, 1) := by decide +kernel
theorem dL_law_1060 : decode cL_law 1060 = .ok (.iload 4, 2) := by decide +kernel
theorem dL_law_1062 : decode cL_law 1062 = .ok (.iconst 2, 1) := by decide +kernel
theorem dL_law_1063 : decode cL_law 1063 = .ok (.iadd, 1) := by decide +kernel
theorem dL_law_1064 : decode cL_law 1064 = .ok (.iaload, 1) := by decide +kernel
theorem dL_law_1065 : decode cL_law 1065 = .ok (.aload_n 3, 1) := by decide +kernel
theorem dL_law_1066 : decode cL_law 1066 = .ok (.invokestatic 134, 3) := by decide +kernel
theorem dL_law_1069 : decode cL_law 1069 = .ok (.istore 5, 2) := by decide +kernel
theorem dL_law_1071 : decode cL_law 1071 = .ok (.aload_n 2, 1) := by decide +kernel
theorem dL_law_1072 : decode cL_law 1072 = .ok (.aload_n 0, 1) := by decide +kernel
theorem dL_law_1073 : decode cL_law 1073 = .ok (.iload 4, 2) := by decide +kernel
theorem dL_law_1075 : decode cL_law 1075 = .ok (.iconst 1, 1) := by decide +kernel
theorem dL_law_1076 : decode cL_law 1076 = .ok (.iadd, 1) := by decide +kernel
theorem dL_law_1077 : decode cL_law 1077 = .ok (.iaload, 1) := by decide +kernel
theorem dL_law_1078 : decode cL_law 1078 = .ok (.aload_n 0, 1) := by decide +kernel
theorem dL_law_1079 : decode cL_law 1079 = .ok (.iload 4, 2) := by decide +kernel
theorem dL_law_1081 : decode cL_law 1081 = .ok (.iconst 2, 1) := by decide +kernel
theorem dL_law_1082 : decode cL_law 1082 = .ok (.iadd, 1) := by decide +kernel
theorem dL_law_1083 : decode cL_law 1083 = .ok (.iaload, 1) := by decide +kernel
theorem dL_law_1084 : decode cL_law 1084 = .ok (.invokevirtual 136, 3) := by decide +kernel
theorem dL_law_1087 : decode cL_law 1087 = .ok (.istore 6, 2) := by decide +kernel
theorem dL_law_1089 : decode cL_law 1089 = .ok (.aload_n 2, 1) := by decide +kernel
theorem dL_law_1090 : decode cL_law 1090 = .ok (.invokevirtual 67, 3) := by decide +kernel
theorem dL_law_1093 : decode cL_law 1093 = .ok (.iload 5, 2) := by decide +kernel
theorem dL_law_1095 : decode cL_law 1095 = .ok (.if_icmp .eq 5, 3) := by decide +kernel
theorem dL_law_1098 : decode cL_law 1098 = .ok (.iconst 0, 1) := by decide +kernel
theorem dL_law_1099 : decode cL_law 1099 = .ok (.ireturn, 1) := by decide +kernel
theorem dL_law_1100 : decode cL_law 1100 = .ok (.iload 5, 2) := by decide +kernel
theorem dL_law_1102 : decode cL_law 1102 = .ok (.ifCond .ne 22, 3) := by decide +kernel
theorem dL_law_1105 : decode cL_law 1105 = .ok (.aload_n 3, 1) := by decide +kernel
theorem dL_law_1106 : decode cL_law 1106 = .ok (.iconst 0, 1) := by decide +kernel
theorem dL_law_1107 : decode cL_law 1107 = .ok (.laload, 1) := by decide +kernel
theorem dL_law_1108 : decode cL_law 1108 = .ok (.iload 6, 2) := by decide +kernel
theorem dL_law_1110 : decode cL_law 1110 = .ok (.ifCond .eq 7, 3) := by decide +kernel
theorem dL_law_1113 : decode cL_law 1113 = .ok (.lconst 1, 1) := by decide +kernel
theorem dL_law_1114 : decode cL_law 1114 = .ok (.goto 4, 3) := by decide +kernel
theorem dL_law_1117 : decode cL_law 1117 = .ok (.lconst 0, 1) := by decide +kernel
theorem dL_law_1118 : decode cL_law 1118 = .ok (.lcmp, 1) := by decide +kernel
theorem dL_law_1119 : decode cL_law 1119 = .ok (.ifCond .eq 5, 3) := by decide +kernel
theorem dL_law_1122 : decode cL_law 1122 = .ok (.iconst 0, 1) := by decide +kernel
theorem dL_law_1123 : decode cL_law 1123 = .ok (.ireturn, 1) := by decide +kernel
theorem dL_law_1124 : decode cL_law 1124 = .ok (.goto 55, 3) := by decide +kernel
theorem dL_law_1127 : decode cL_law 1127 = .ok (.aload_n 1, 1) := by decide +kernel
theorem dL_law_1128 : decode cL_law 1128 = .ok (.invokevirtual 137, 3) := by decide +kernel
theorem dL_law_1131 : decode cL_law 1131 = .ok (.aload_n 2, 1) := by decide +kernel
theorem dL_law_1132 : decode cL_law 1132 = .ok (.invokevirtual 141, 3) := by decide +kernel
theorem dL_law_1135 : decode cL_law 1135 = .ok (.if_icmp .eq 44, 3) := by decide +kernel
theorem dL_law_1138 : decode cL_law 1138 = .ok (.iconst 0, 1) := by decide +kernel
theorem dL_law_1139 : decode cL_law 1139 = .ok (.ireturn, 1) := by decide +kernel
theorem dL_law_1140 : decode cL_law 1140 = .ok (.aload_n 1, 1) := by decide +kernel
theorem dL_law_1141 : decode cL_law 1141 = .ok (.invokevirtual 142, 3) := by decide +kernel
theorem dL_law_1144 : decode cL_law 1144 = .ok (.aload_n 2, 1) := by decide +kernel
theorem dL_law_1145 : decode cL_law 1145 = .ok (.invokevirtual 145, 3) := by decide +kernel
theorem dL_law_1148 : decode cL_law 1148 = .ok (.if_icmp .eq 31, 3) := by decide +kernel
theorem dL_law_1151 : decode cL_law 1151 = .ok (.iconst 0, 1) := by decide +kernel
theorem dL_law_1152 : decode cL_law 1152 = .ok (.ireturn, 1) := by decide +kernel
theorem dL_law_1153 : decode cL_law 1153 = .ok (.aload_n 1, 1) := by decide +kernel
theorem dL_law_1154 : decode cL_law 1154 = .ok (.invokevirtual 146, 3) := by decide +kernel
theorem dL_law_1157 : decode cL_law 1157 = .ok (.aload_n 2, 1) := by decide +kernel
theorem dL_law_1158 : decode cL_law 1158 = .ok (.invokevirtual 149, 3) := by decide +kernel
theorem dL_law_1161 : decode cL_law 1161 = .ok (.if_icmp .eq 18, 3) := by decide +kernel
theorem dL_law_1164 : decode cL_law 1164 = .ok (.iconst 0, 1) := by decide +kernel
theorem dL_law_1165 : decode cL_law 1165 = .ok (.ireturn, 1) := by decide +kernel
theorem dL_law_1166 : decode cL_law 1166 = .ok (.aload_n 1, 1) := by decide +kernel
theorem dL_law_1167 : decode cL_law 1167 = .ok (.invokevirtual 150, 3) := by decide +kernel
theorem dL_law_1170 : decode cL_law 1170 = .ok (.aload_n 2, 1) := by decide +kernel
theorem dL_law_1171 : decode cL_law 1171 = .ok (.invokevirtual 153, 3) := by decide +kernel
theorem dL_law_1174 : decode cL_law 1174 = .ok (.if_icmp .eq 5, 3) := by decide +kernel
theorem dL_law_1177 : decode cL_law 1177 = .ok (.iconst 0, 1) := by decide +kernel
theorem dL_law_1178 : decode cL_law 1178 = .ok (.ireturn, 1) := by decide +kernel
theorem dL_law_1179 : decode cL_law 1179 = .ok (.iinc 4 4, 3) := by decide +kernel
theorem dL_law_1182 : decode cL_law 1182 = .ok (.goto (-1139), 3) := by decide +kernel
theorem dL_law_1185 : decode cL_law 1185 = .ok (.iconst 1, 1) := by decide +kernel
theorem dL_law_1186 : decode cL_law 1186 = .ok (.ireturn, 1) := by decide +kernel
end
section
theorem zz_last : True := trivial
end
