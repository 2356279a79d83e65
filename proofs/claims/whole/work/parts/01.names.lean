-- ===== PART A: goes FIRST, ahead of the names: the tables' words, and 'selects' of the private methods out of them =====
/-- a private method of a class that the tables say can be made, by its rows of tables_1 -/
def lw_okq (q : MethodName × Nat) : Prop := (q.1.cls ≠ "java/lang/invoke/MethodHandle" ∧ q.1.cls ≠ "java/lang/invoke/VarHandle") ∧ Cond.instantiable q.1.cls q.2 ∈ tables_1 ∧ Cond.privateMethod q.1 ∈ tables_1 ∧ Cond.instanceMethod q.1 ∈ tables_1
theorem lw_p0 : lw_okq (⟨"DoorCodes$Town", "isGiven", "()Z"⟩, 5) := ⟨⟨by decide +kernel, by decide +kernel⟩, List.mem_of_getElem? (i := 216) (by decide +kernel), List.mem_of_getElem? (i := 285) (by decide +kernel), List.mem_of_getElem? (i := 286) (by decide +kernel)⟩
theorem lw_p1 : lw_okq (⟨"DoorCodes", "forgetShaped", "()V"⟩, 11) := ⟨⟨by decide +kernel, by decide +kernel⟩, List.mem_of_getElem? (i := 15) (by decide +kernel), List.mem_of_getElem? (i := 289) (by decide +kernel), List.mem_of_getElem? (i := 290) (by decide +kernel)⟩
theorem lw_p2 : lw_okq (⟨"DoorCodes$Shaper", "forget", "()V"⟩, 9) := ⟨⟨by decide +kernel, by decide +kernel⟩, List.mem_of_getElem? (i := 106) (by decide +kernel), List.mem_of_getElem? (i := 293) (by decide +kernel), List.mem_of_getElem? (i := 294) (by decide +kernel)⟩
theorem lw_p3 : lw_okq (⟨"DoorCodes$Wording", "forget", "()V"⟩, 14) := ⟨⟨by decide +kernel, by decide +kernel⟩, List.mem_of_getElem? (i := 146) (by decide +kernel), List.mem_of_getElem? (i := 297) (by decide +kernel), List.mem_of_getElem? (i := 298) (by decide +kernel)⟩
theorem lw_p4 : lw_okq (⟨"DoorCodes$Streets", "add", "(IIII)I"⟩, 9) := ⟨⟨by decide +kernel, by decide +kernel⟩, List.mem_of_getElem? (i := 23) (by decide +kernel), List.mem_of_getElem? (i := 301) (by decide +kernel), List.mem_of_getElem? (i := 302) (by decide +kernel)⟩
theorem lw_p5 : lw_okq (⟨"DoorCodes", "isSide", "(I)Z"⟩, 11) := ⟨⟨by decide +kernel, by decide +kernel⟩, List.mem_of_getElem? (i := 15) (by decide +kernel), List.mem_of_getElem? (i := 309) (by decide +kernel), List.mem_of_getElem? (i := 310) (by decide +kernel)⟩
theorem lw_p6 : lw_okq (⟨"DoorCodes$Streets", "setLink", "(III)I"⟩, 9) := ⟨⟨by decide +kernel, by decide +kernel⟩, List.mem_of_getElem? (i := 23) (by decide +kernel), List.mem_of_getElem? (i := 313) (by decide +kernel), List.mem_of_getElem? (i := 314) (by decide +kernel)⟩
theorem lw_p7 : lw_okq (⟨"DoorCodes$Streets", "doorsOf", "(II)I"⟩, 9) := ⟨⟨by decide +kernel, by decide +kernel⟩, List.mem_of_getElem? (i := 23) (by decide +kernel), List.mem_of_getElem? (i := 324) (by decide +kernel), List.mem_of_getElem? (i := 325) (by decide +kernel)⟩
theorem lw_p8 : lw_okq (⟨"DoorCodes", "isShape", "(I)Z"⟩, 11) := ⟨⟨by decide +kernel, by decide +kernel⟩, List.mem_of_getElem? (i := 15) (by decide +kernel), List.mem_of_getElem? (i := 335) (by decide +kernel), List.mem_of_getElem? (i := 336) (by decide +kernel)⟩
theorem lw_p9 : lw_okq (⟨"DoorCodes$Streets", "allSides", "()I"⟩, 9) := ⟨⟨by decide +kernel, by decide +kernel⟩, List.mem_of_getElem? (i := 23) (by decide +kernel), List.mem_of_getElem? (i := 339) (by decide +kernel), List.mem_of_getElem? (i := 340) (by decide +kernel)⟩
theorem lw_p10 : lw_okq (⟨"DoorCodes$Streets", "leastWalk", "(I)I"⟩, 9) := ⟨⟨by decide +kernel, by decide +kernel⟩, List.mem_of_getElem? (i := 23) (by decide +kernel), List.mem_of_getElem? (i := 343) (by decide +kernel), List.mem_of_getElem? (i := 344) (by decide +kernel)⟩
theorem lw_p11 : lw_okq (⟨"DoorCodes$Streets", "walkAll", "()V"⟩, 9) := ⟨⟨by decide +kernel, by decide +kernel⟩, List.mem_of_getElem? (i := 23) (by decide +kernel), List.mem_of_getElem? (i := 350) (by decide +kernel), List.mem_of_getElem? (i := 351) (by decide +kernel)⟩
theorem lw_p12 : lw_okq (⟨"DoorCodes$Streets", "stepsFrom", "(II)I"⟩, 9) := ⟨⟨by decide +kernel, by decide +kernel⟩, List.mem_of_getElem? (i := 23) (by decide +kernel), List.mem_of_getElem? (i := 354) (by decide +kernel), List.mem_of_getElem? (i := 355) (by decide +kernel)⟩
theorem lw_p13 : lw_okq (⟨"DoorCodes$Streets", "sideInRow", "(II)I"⟩, 9) := ⟨⟨by decide +kernel, by decide +kernel⟩, List.mem_of_getElem? (i := 23) (by decide +kernel), List.mem_of_getElem? (i := 366) (by decide +kernel), List.mem_of_getElem? (i := 367) (by decide +kernel)⟩
theorem lw_p14 : lw_okq (⟨"DoorCodes$Streets", "nextInRow", "(III)I"⟩, 9) := ⟨⟨by decide +kernel, by decide +kernel⟩, List.mem_of_getElem? (i := 23) (by decide +kernel), List.mem_of_getElem? (i := 371) (by decide +kernel), List.mem_of_getElem? (i := 372) (by decide +kernel)⟩
theorem lw_p15 : lw_okq (⟨"DoorCodes$Shaper", "isRight", "(II)Z"⟩, 9) := ⟨⟨by decide +kernel, by decide +kernel⟩, List.mem_of_getElem? (i := 106) (by decide +kernel), List.mem_of_getElem? (i := 379) (by decide +kernel), List.mem_of_getElem? (i := 380) (by decide +kernel)⟩
def lw_privs_1 : List (MethodName × Nat) := [(⟨"DoorCodes$Town", "isGiven", "()Z"⟩, 5), (⟨"DoorCodes", "forgetShaped", "()V"⟩, 11), (⟨"DoorCodes$Shaper", "forget", "()V"⟩, 9), (⟨"DoorCodes$Wording", "forget", "()V"⟩, 14), (⟨"DoorCodes$Streets", "add", "(IIII)I"⟩, 9), (⟨"DoorCodes", "isSide", "(I)Z"⟩, 11), (⟨"DoorCodes$Streets", "setLink", "(III)I"⟩, 9), (⟨"DoorCodes$Streets", "doorsOf", "(II)I"⟩, 9), (⟨"DoorCodes", "isShape", "(I)Z"⟩, 11), (⟨"DoorCodes$Streets", "allSides", "()I"⟩, 9), (⟨"DoorCodes$Streets", "leastWalk", "(I)I"⟩, 9), (⟨"DoorCodes$Streets", "walkAll", "()V"⟩, 9), (⟨"DoorCodes$Streets", "stepsFrom", "(II)I"⟩, 9), (⟨"DoorCodes$Streets", "sideInRow", "(II)I"⟩, 9), (⟨"DoorCodes$Streets", "nextInRow", "(III)I"⟩, 9), (⟨"DoorCodes$Shaper", "isRight", "(II)Z"⟩, 9)]
theorem lw_r1 : ∀ q ∈ lw_privs_1, lw_okq q := List.forall_mem_cons.mpr ⟨lw_p0, List.forall_mem_cons.mpr ⟨lw_p1, List.forall_mem_cons.mpr ⟨lw_p2, List.forall_mem_cons.mpr ⟨lw_p3, List.forall_mem_cons.mpr ⟨lw_p4, List.forall_mem_cons.mpr ⟨lw_p5, List.forall_mem_cons.mpr ⟨lw_p6, List.forall_mem_cons.mpr ⟨lw_p7, List.forall_mem_cons.mpr ⟨lw_p8, List.forall_mem_cons.mpr ⟨lw_p9, List.forall_mem_cons.mpr ⟨lw_p10, List.forall_mem_cons.mpr ⟨lw_p11, List.forall_mem_cons.mpr ⟨lw_p12, List.forall_mem_cons.mpr ⟨lw_p13, List.forall_mem_cons.mpr ⟨lw_p14, List.forall_mem_cons.mpr ⟨lw_p15, fun _ h => absurd h List.not_mem_nil⟩⟩⟩⟩⟩⟩⟩⟩⟩⟩⟩⟩⟩⟩⟩⟩
theorem lw_p16 : lw_okq (⟨"DoorCodes$Shaper", "dayLookedAt", "(I)I"⟩, 9) := ⟨⟨by decide +kernel, by decide +kernel⟩, List.mem_of_getElem? (i := 106) (by decide +kernel), List.mem_of_getElem? (i := 383) (by decide +kernel), List.mem_of_getElem? (i := 384) (by decide +kernel)⟩
theorem lw_p17 : lw_okq (⟨"DoorCodes$Items", "valueOn", "(II)I"⟩, 4) := ⟨⟨by decide +kernel, by decide +kernel⟩, List.mem_of_getElem? (i := 76) (by decide +kernel), List.mem_of_getElem? (i := 387) (by decide +kernel), List.mem_of_getElem? (i := 388) (by decide +kernel)⟩
theorem lw_p18 : lw_okq (⟨"DoorCodes$Items", "itemOn", "(II)I"⟩, 4) := ⟨⟨by decide +kernel, by decide +kernel⟩, List.mem_of_getElem? (i := 76) (by decide +kernel), List.mem_of_getElem? (i := 391) (by decide +kernel), List.mem_of_getElem? (i := 392) (by decide +kernel)⟩
theorem lw_p19 : lw_okq (⟨"DoorCodes$Shaper", "fits", "(III)Z"⟩, 9) := ⟨⟨by decide +kernel, by decide +kernel⟩, List.mem_of_getElem? (i := 106) (by decide +kernel), List.mem_of_getElem? (i := 398) (by decide +kernel), List.mem_of_getElem? (i := 399) (by decide +kernel)⟩
theorem lw_p20 : lw_okq (⟨"DoorCodes$Items", "allowsShape", "(I)Z"⟩, 4) := ⟨⟨by decide +kernel, by decide +kernel⟩, List.mem_of_getElem? (i := 76) (by decide +kernel), List.mem_of_getElem? (i := 405) (by decide +kernel), List.mem_of_getElem? (i := 406) (by decide +kernel)⟩
theorem lw_p21 : lw_okq (⟨"DoorCodes$Shaper", "shapeOn", "(I)V"⟩, 9) := ⟨⟨by decide +kernel, by decide +kernel⟩, List.mem_of_getElem? (i := 106) (by decide +kernel), List.mem_of_getElem? (i := 414) (by decide +kernel), List.mem_of_getElem? (i := 415) (by decide +kernel)⟩
theorem lw_p22 : lw_okq (⟨"DoorCodes$Shaper", "findPart", "(I)V"⟩, 9) := ⟨⟨by decide +kernel, by decide +kernel⟩, List.mem_of_getElem? (i := 106) (by decide +kernel), List.mem_of_getElem? (i := 419) (by decide +kernel), List.mem_of_getElem? (i := 420) (by decide +kernel)⟩
theorem lw_p23 : lw_okq (⟨"DoorCodes$Shaper", "bar", "()I"⟩, 9) := ⟨⟨by decide +kernel, by decide +kernel⟩, List.mem_of_getElem? (i := 106) (by decide +kernel), List.mem_of_getElem? (i := 424) (by decide +kernel), List.mem_of_getElem? (i := 425) (by decide +kernel)⟩
theorem lw_p24 : lw_okq (⟨"DoorCodes$Shaper", "isInRight", "(I)Z"⟩, 9) := ⟨⟨by decide +kernel, by decide +kernel⟩, List.mem_of_getElem? (i := 106) (by decide +kernel), List.mem_of_getElem? (i := 428) (by decide +kernel), List.mem_of_getElem? (i := 429) (by decide +kernel)⟩
theorem lw_p25 : lw_okq (⟨"DoorCodes$Text", "append", "(IJ)V"⟩, 2) := ⟨⟨by decide +kernel, by decide +kernel⟩, List.mem_of_getElem? (i := 60) (by decide +kernel), List.mem_of_getElem? (i := 437) (by decide +kernel), List.mem_of_getElem? (i := 438) (by decide +kernel)⟩
theorem lw_p26 : lw_okq (⟨"DoorCodes$Items", "readFrom", "(LDoorCodes$Text;)I"⟩, 4) := ⟨⟨by decide +kernel, by decide +kernel⟩, List.mem_of_getElem? (i := 76) (by decide +kernel), List.mem_of_getElem? (i := 449) (by decide +kernel), List.mem_of_getElem? (i := 450) (by decide +kernel)⟩
theorem lw_p27 : lw_okq (⟨"DoorCodes$Items", "readItem", "(LDoorCodes$Text;I)I"⟩, 4) := ⟨⟨by decide +kernel, by decide +kernel⟩, List.mem_of_getElem? (i := 76) (by decide +kernel), List.mem_of_getElem? (i := 453) (by decide +kernel), List.mem_of_getElem? (i := 454) (by decide +kernel)⟩
theorem lw_p28 : lw_okq (⟨"DoorCodes$Text", "endOfFigures", "(I)I"⟩, 2) := ⟨⟨by decide +kernel, by decide +kernel⟩, List.mem_of_getElem? (i := 60) (by decide +kernel), List.mem_of_getElem? (i := 457) (by decide +kernel), List.mem_of_getElem? (i := 458) (by decide +kernel)⟩
theorem lw_p29 : lw_okq (⟨"DoorCodes$Text", "at", "(I)I"⟩, 2) := ⟨⟨by decide +kernel, by decide +kernel⟩, List.mem_of_getElem? (i := 60) (by decide +kernel), List.mem_of_getElem? (i := 461) (by decide +kernel), List.mem_of_getElem? (i := 462) (by decide +kernel)⟩
theorem lw_p30 : lw_okq (⟨"DoorCodes$Text", "number", "(II)I"⟩, 2) := ⟨⟨by decide +kernel, by decide +kernel⟩, List.mem_of_getElem? (i := 60) (by decide +kernel), List.mem_of_getElem? (i := 467) (by decide +kernel), List.mem_of_getElem? (i := 468) (by decide +kernel)⟩
theorem lw_p31 : lw_okq (⟨"DoorCodes$Items", "copy", "(LDoorCodes$Items;)V"⟩, 4) := ⟨⟨by decide +kernel, by decide +kernel⟩, List.mem_of_getElem? (i := 76) (by decide +kernel), List.mem_of_getElem? (i := 483) (by decide +kernel), List.mem_of_getElem? (i := 484) (by decide +kernel)⟩
def lw_privs_2 : List (MethodName × Nat) := [(⟨"DoorCodes$Shaper", "dayLookedAt", "(I)I"⟩, 9), (⟨"DoorCodes$Items", "valueOn", "(II)I"⟩, 4), (⟨"DoorCodes$Items", "itemOn", "(II)I"⟩, 4), (⟨"DoorCodes$Shaper", "fits", "(III)Z"⟩, 9), (⟨"DoorCodes$Items", "allowsShape", "(I)Z"⟩, 4), (⟨"DoorCodes$Shaper", "shapeOn", "(I)V"⟩, 9), (⟨"DoorCodes$Shaper", "findPart", "(I)V"⟩, 9), (⟨"DoorCodes$Shaper", "bar", "()I"⟩, 9), (⟨"DoorCodes$Shaper", "isInRight", "(I)Z"⟩, 9), (⟨"DoorCodes$Text", "append", "(IJ)V"⟩, 2), (⟨"DoorCodes$Items", "readFrom", "(LDoorCodes$Text;)I"⟩, 4), (⟨"DoorCodes$Items", "readItem", "(LDoorCodes$Text;I)I"⟩, 4), (⟨"DoorCodes$Text", "endOfFigures", "(I)I"⟩, 2), (⟨"DoorCodes$Text", "at", "(I)I"⟩, 2), (⟨"DoorCodes$Text", "number", "(II)I"⟩, 2), (⟨"DoorCodes$Items", "copy", "(LDoorCodes$Items;)V"⟩, 4)]
theorem lw_r2 : ∀ q ∈ lw_privs_2, lw_okq q := List.forall_mem_cons.mpr ⟨lw_p16, List.forall_mem_cons.mpr ⟨lw_p17, List.forall_mem_cons.mpr ⟨lw_p18, List.forall_mem_cons.mpr ⟨lw_p19, List.forall_mem_cons.mpr ⟨lw_p20, List.forall_mem_cons.mpr ⟨lw_p21, List.forall_mem_cons.mpr ⟨lw_p22, List.forall_mem_cons.mpr ⟨lw_p23, List.forall_mem_cons.mpr ⟨lw_p24, List.forall_mem_cons.mpr ⟨lw_p25, List.forall_mem_cons.mpr ⟨lw_p26, List.forall_mem_cons.mpr ⟨lw_p27, List.forall_mem_cons.mpr ⟨lw_p28, List.forall_mem_cons.mpr ⟨lw_p29, List.forall_mem_cons.mpr ⟨lw_p30, List.forall_mem_cons.mpr ⟨lw_p31, fun _ h => absurd h List.not_mem_nil⟩⟩⟩⟩⟩⟩⟩⟩⟩⟩⟩⟩⟩⟩⟩⟩
theorem lw_p32 : lw_okq (⟨"DoorCodes$Items", "areAtOdds", "(II)Z"⟩, 4) := ⟨⟨by decide +kernel, by decide +kernel⟩, List.mem_of_getElem? (i := 76) (by decide +kernel), List.mem_of_getElem? (i := 504) (by decide +kernel), List.mem_of_getElem? (i := 505) (by decide +kernel)⟩
theorem lw_p33 : lw_okq (⟨"DoorCodes$Items", "pairOf", "(I)I"⟩, 4) := ⟨⟨by decide +kernel, by decide +kernel⟩, List.mem_of_getElem? (i := 76) (by decide +kernel), List.mem_of_getElem? (i := 508) (by decide +kernel), List.mem_of_getElem? (i := 509) (by decide +kernel)⟩
theorem lw_p34 : lw_okq (⟨"DoorCodes$Misreads", "hasRoom", "(III)Z"⟩, 1) := ⟨⟨by decide +kernel, by decide +kernel⟩, List.mem_of_getElem? (i := 96) (by decide +kernel), List.mem_of_getElem? (i := 517) (by decide +kernel), List.mem_of_getElem? (i := 518) (by decide +kernel)⟩
theorem lw_p35 : lw_okq (⟨"DoorCodes$Misreads", "leftOf", "(I)I"⟩, 1) := ⟨⟨by decide +kernel, by decide +kernel⟩, List.mem_of_getElem? (i := 96) (by decide +kernel), List.mem_of_getElem? (i := 521) (by decide +kernel), List.mem_of_getElem? (i := 522) (by decide +kernel)⟩
theorem lw_p36 : lw_okq (⟨"DoorCodes$Misreads", "set", "(III)I"⟩, 1) := ⟨⟨by decide +kernel, by decide +kernel⟩, List.mem_of_getElem? (i := 96) (by decide +kernel), List.mem_of_getElem? (i := 525) (by decide +kernel), List.mem_of_getElem? (i := 526) (by decide +kernel)⟩
theorem lw_p37 : lw_okq (⟨"DoorCodes$Misreads", "readAs", "(II)I"⟩, 1) := ⟨⟨by decide +kernel, by decide +kernel⟩, List.mem_of_getElem? (i := 96) (by decide +kernel), List.mem_of_getElem? (i := 536) (by decide +kernel), List.mem_of_getElem? (i := 537) (by decide +kernel)⟩
theorem lw_p38 : lw_okq (⟨"DoorCodes$Misreads", "letterAs", "(II)I"⟩, 1) := ⟨⟨by decide +kernel, by decide +kernel⟩, List.mem_of_getElem? (i := 96) (by decide +kernel), List.mem_of_getElem? (i := 540) (by decide +kernel), List.mem_of_getElem? (i := 541) (by decide +kernel)⟩
theorem lw_p39 : lw_okq (⟨"DoorCodes", "canBeWorded", "(I)Z"⟩, 11) := ⟨⟨by decide +kernel, by decide +kernel⟩, List.mem_of_getElem? (i := 15) (by decide +kernel), List.mem_of_getElem? (i := 548) (by decide +kernel), List.mem_of_getElem? (i := 549) (by decide +kernel)⟩
theorem lw_p40 : lw_okq (⟨"DoorCodes$Wording", "findWords", "(II)Z"⟩, 14) := ⟨⟨by decide +kernel, by decide +kernel⟩, List.mem_of_getElem? (i := 146) (by decide +kernel), List.mem_of_getElem? (i := 552) (by decide +kernel), List.mem_of_getElem? (i := 553) (by decide +kernel)⟩
theorem lw_p41 : lw_okq (⟨"DoorCodes$Wording", "gatherCandidates", "(I)V"⟩, 14) := ⟨⟨by decide +kernel, by decide +kernel⟩, List.mem_of_getElem? (i := 146) (by decide +kernel), List.mem_of_getElem? (i := 557) (by decide +kernel), List.mem_of_getElem? (i := 558) (by decide +kernel)⟩
theorem lw_p42 : lw_okq (⟨"DoorCodes$Items", "allowsWord", "(I)Z"⟩, 4) := ⟨⟨by decide +kernel, by decide +kernel⟩, List.mem_of_getElem? (i := 76) (by decide +kernel), List.mem_of_getElem? (i := 561) (by decide +kernel), List.mem_of_getElem? (i := 562) (by decide +kernel)⟩
theorem lw_p43 : lw_okq (⟨"DoorCodes$Wording", "compareAll", "()V"⟩, 14) := ⟨⟨by decide +kernel, by decide +kernel⟩, List.mem_of_getElem? (i := 146) (by decide +kernel), List.mem_of_getElem? (i := 565) (by decide +kernel), List.mem_of_getElem? (i := 566) (by decide +kernel)⟩
theorem lw_p44 : lw_okq (⟨"DoorCodes$Streets", "areLinked", "(II)Z"⟩, 9) := ⟨⟨by decide +kernel, by decide +kernel⟩, List.mem_of_getElem? (i := 23) (by decide +kernel), List.mem_of_getElem? (i := 570) (by decide +kernel), List.mem_of_getElem? (i := 571) (by decide +kernel)⟩
theorem lw_p45 : lw_okq (⟨"DoorCodes$Wording", "choose", "(II)V"⟩, 14) := ⟨⟨by decide +kernel, by decide +kernel⟩, List.mem_of_getElem? (i := 146) (by decide +kernel), List.mem_of_getElem? (i := 575) (by decide +kernel), List.mem_of_getElem? (i := 576) (by decide +kernel)⟩
theorem lw_p46 : lw_okq (⟨"DoorCodes$Wording", "isChosen", "(II)Z"⟩, 14) := ⟨⟨by decide +kernel, by decide +kernel⟩, List.mem_of_getElem? (i := 146) (by decide +kernel), List.mem_of_getElem? (i := 579) (by decide +kernel), List.mem_of_getElem? (i := 580) (by decide +kernel)⟩
theorem lw_p47 : lw_okq (⟨"DoorCodes$Wording", "harmOfLast", "(I)I"⟩, 14) := ⟨⟨by decide +kernel, by decide +kernel⟩, List.mem_of_getElem? (i := 146) (by decide +kernel), List.mem_of_getElem? (i := 583) (by decide +kernel), List.mem_of_getElem? (i := 584) (by decide +kernel)⟩
def lw_privs_3 : List (MethodName × Nat) := [(⟨"DoorCodes$Items", "areAtOdds", "(II)Z"⟩, 4), (⟨"DoorCodes$Items", "pairOf", "(I)I"⟩, 4), (⟨"DoorCodes$Misreads", "hasRoom", "(III)Z"⟩, 1), (⟨"DoorCodes$Misreads", "leftOf", "(I)I"⟩, 1), (⟨"DoorCodes$Misreads", "set", "(III)I"⟩, 1), (⟨"DoorCodes$Misreads", "readAs", "(II)I"⟩, 1), (⟨"DoorCodes$Misreads", "letterAs", "(II)I"⟩, 1), (⟨"DoorCodes", "canBeWorded", "(I)Z"⟩, 11), (⟨"DoorCodes$Wording", "findWords", "(II)Z"⟩, 14), (⟨"DoorCodes$Wording", "gatherCandidates", "(I)V"⟩, 14), (⟨"DoorCodes$Items", "allowsWord", "(I)Z"⟩, 4), (⟨"DoorCodes$Wording", "compareAll", "()V"⟩, 14), (⟨"DoorCodes$Streets", "areLinked", "(II)Z"⟩, 9), (⟨"DoorCodes$Wording", "choose", "(II)V"⟩, 14), (⟨"DoorCodes$Wording", "isChosen", "(II)Z"⟩, 14), (⟨"DoorCodes$Wording", "harmOfLast", "(I)I"⟩, 14)]
theorem lw_r3 : ∀ q ∈ lw_privs_3, lw_okq q := List.forall_mem_cons.mpr ⟨lw_p32, List.forall_mem_cons.mpr ⟨lw_p33, List.forall_mem_cons.mpr ⟨lw_p34, List.forall_mem_cons.mpr ⟨lw_p35, List.forall_mem_cons.mpr ⟨lw_p36, List.forall_mem_cons.mpr ⟨lw_p37, List.forall_mem_cons.mpr ⟨lw_p38, List.forall_mem_cons.mpr ⟨lw_p39, List.forall_mem_cons.mpr ⟨lw_p40, List.forall_mem_cons.mpr ⟨lw_p41, List.forall_mem_cons.mpr ⟨lw_p42, List.forall_mem_cons.mpr ⟨lw_p43, List.forall_mem_cons.mpr ⟨lw_p44, List.forall_mem_cons.mpr ⟨lw_p45, List.forall_mem_cons.mpr ⟨lw_p46, List.forall_mem_cons.mpr ⟨lw_p47, fun _ h => absurd h List.not_mem_nil⟩⟩⟩⟩⟩⟩⟩⟩⟩⟩⟩⟩⟩⟩⟩⟩
theorem lw_p48 : lw_okq (⟨"DoorCodes", "countOfMaybe", "(I)I"⟩, 11) := ⟨⟨by decide +kernel, by decide +kernel⟩, List.mem_of_getElem? (i := 15) (by decide +kernel), List.mem_of_getElem? (i := 591) (by decide +kernel), List.mem_of_getElem? (i := 592) (by decide +kernel)⟩
theorem lw_p49 : lw_okq (⟨"DoorCodes", "mayBe", "(II)Z"⟩, 11) := ⟨⟨by decide +kernel, by decide +kernel⟩, List.mem_of_getElem? (i := 15) (by decide +kernel), List.mem_of_getElem? (i := 595) (by decide +kernel), List.mem_of_getElem? (i := 596) (by decide +kernel)⟩
theorem lw_p50 : lw_okq (⟨"DoorCodes$Town", "sidesWith", "(I)I"⟩, 5) := ⟨⟨by decide +kernel, by decide +kernel⟩, List.mem_of_getElem? (i := 216) (by decide +kernel), List.mem_of_getElem? (i := 599) (by decide +kernel), List.mem_of_getElem? (i := 600) (by decide +kernel)⟩
theorem lw_p51 : lw_okq (⟨"DoorCodes", "rankOfMaybe", "(II)I"⟩, 11) := ⟨⟨by decide +kernel, by decide +kernel⟩, List.mem_of_getElem? (i := 15) (by decide +kernel), List.mem_of_getElem? (i := 603) (by decide +kernel), List.mem_of_getElem? (i := 604) (by decide +kernel)⟩
theorem lw_p52 : lw_okq (⟨"DoorCodes", "renameAll", "(III)V"⟩, 11) := ⟨⟨by decide +kernel, by decide +kernel⟩, List.mem_of_getElem? (i := 15) (by decide +kernel), List.mem_of_getElem? (i := 611) (by decide +kernel), List.mem_of_getElem? (i := 612) (by decide +kernel)⟩
theorem lw_p53 : lw_okq (⟨"DoorCodes$Town", "rename", "(III)V"⟩, 5) := ⟨⟨by decide +kernel, by decide +kernel⟩, List.mem_of_getElem? (i := 216) (by decide +kernel), List.mem_of_getElem? (i := 616) (by decide +kernel), List.mem_of_getElem? (i := 617) (by decide +kernel)⟩
theorem lw_p54 : lw_okq (⟨"DoorCodes$Town", "codeOf", "(I)I"⟩, 5) := ⟨⟨by decide +kernel, by decide +kernel⟩, List.mem_of_getElem? (i := 216) (by decide +kernel), List.mem_of_getElem? (i := 627) (by decide +kernel), List.mem_of_getElem? (i := 628) (by decide +kernel)⟩
theorem lw_p55 : lw_okq (⟨"DoorCodes", "bestHalf", "(II)I"⟩, 11) := ⟨⟨by decide +kernel, by decide +kernel⟩, List.mem_of_getElem? (i := 15) (by decide +kernel), List.mem_of_getElem? (i := 632) (by decide +kernel), List.mem_of_getElem? (i := 633) (by decide +kernel)⟩
theorem lw_p56 : lw_okq (⟨"DoorCodes", "keyOfHalves", "(III)I"⟩, 11) := ⟨⟨by decide +kernel, by decide +kernel⟩, List.mem_of_getElem? (i := 15) (by decide +kernel), List.mem_of_getElem? (i := 637) (by decide +kernel), List.mem_of_getElem? (i := 638) (by decide +kernel)⟩
theorem lw_p57 : lw_okq (⟨"DoorCodes", "lowestFreeWord", "(I)I"⟩, 11) := ⟨⟨by decide +kernel, by decide +kernel⟩, List.mem_of_getElem? (i := 15) (by decide +kernel), List.mem_of_getElem? (i := 645) (by decide +kernel), List.mem_of_getElem? (i := 646) (by decide +kernel)⟩
theorem lw_p58 : lw_okq (⟨"DoorCodes$Town", "ledTo", "(II)I"⟩, 5) := ⟨⟨by decide +kernel, by decide +kernel⟩, List.mem_of_getElem? (i := 216) (by decide +kernel), List.mem_of_getElem? (i := 650) (by decide +kernel), List.mem_of_getElem? (i := 651) (by decide +kernel)⟩
theorem lw_p59 : lw_okq (⟨"DoorCodes", "costOfAsk", "(III)I"⟩, 11) := ⟨⟨by decide +kernel, by decide +kernel⟩, List.mem_of_getElem? (i := 15) (by decide +kernel), List.mem_of_getElem? (i := 659) (by decide +kernel), List.mem_of_getElem? (i := 660) (by decide +kernel)⟩
theorem lw_p60 : lw_okq (⟨"DoorCodes$Town", "wordOf", "(I)I"⟩, 5) := ⟨⟨by decide +kernel, by decide +kernel⟩, List.mem_of_getElem? (i := 216) (by decide +kernel), List.mem_of_getElem? (i := 664) (by decide +kernel), List.mem_of_getElem? (i := 665) (by decide +kernel)⟩
theorem lw_p61 : lw_okq (⟨"DoorCodes$Rounder", "weigh", "(LDoorCodes$Streets;LDoorCodes$Town;I)V"⟩, 4) := ⟨⟨by decide +kernel, by decide +kernel⟩, List.mem_of_getElem? (i := 197) (by decide +kernel), List.mem_of_getElem? (i := 686) (by decide +kernel), List.mem_of_getElem? (i := 687) (by decide +kernel)⟩
theorem lw_p62 : lw_okq (⟨"DoorCodes$Streets", "weightOf", "(II)I"⟩, 9) := ⟨⟨by decide +kernel, by decide +kernel⟩, List.mem_of_getElem? (i := 23) (by decide +kernel), List.mem_of_getElem? (i := 691) (by decide +kernel), List.mem_of_getElem? (i := 692) (by decide +kernel)⟩
theorem lw_p63 : lw_okq (⟨"DoorCodes$Rounder", "loadOf", "(I)I"⟩, 4) := ⟨⟨by decide +kernel, by decide +kernel⟩, List.mem_of_getElem? (i := 197) (by decide +kernel), List.mem_of_getElem? (i := 696) (by decide +kernel), List.mem_of_getElem? (i := 697) (by decide +kernel)⟩
def lw_privs_4 : List (MethodName × Nat) := [(⟨"DoorCodes", "countOfMaybe", "(I)I"⟩, 11), (⟨"DoorCodes", "mayBe", "(II)Z"⟩, 11), (⟨"DoorCodes$Town", "sidesWith", "(I)I"⟩, 5), (⟨"DoorCodes", "rankOfMaybe", "(II)I"⟩, 11), (⟨"DoorCodes", "renameAll", "(III)V"⟩, 11), (⟨"DoorCodes$Town", "rename", "(III)V"⟩, 5), (⟨"DoorCodes$Town", "codeOf", "(I)I"⟩, 5), (⟨"DoorCodes", "bestHalf", "(II)I"⟩, 11), (⟨"DoorCodes", "keyOfHalves", "(III)I"⟩, 11), (⟨"DoorCodes", "lowestFreeWord", "(I)I"⟩, 11), (⟨"DoorCodes$Town", "ledTo", "(II)I"⟩, 5), (⟨"DoorCodes", "costOfAsk", "(III)I"⟩, 11), (⟨"DoorCodes$Town", "wordOf", "(I)I"⟩, 5), (⟨"DoorCodes$Rounder", "weigh", "(LDoorCodes$Streets;LDoorCodes$Town;I)V"⟩, 4), (⟨"DoorCodes$Streets", "weightOf", "(II)I"⟩, 9), (⟨"DoorCodes$Rounder", "loadOf", "(I)I"⟩, 4)]
theorem lw_r4 : ∀ q ∈ lw_privs_4, lw_okq q := List.forall_mem_cons.mpr ⟨lw_p48, List.forall_mem_cons.mpr ⟨lw_p49, List.forall_mem_cons.mpr ⟨lw_p50, List.forall_mem_cons.mpr ⟨lw_p51, List.forall_mem_cons.mpr ⟨lw_p52, List.forall_mem_cons.mpr ⟨lw_p53, List.forall_mem_cons.mpr ⟨lw_p54, List.forall_mem_cons.mpr ⟨lw_p55, List.forall_mem_cons.mpr ⟨lw_p56, List.forall_mem_cons.mpr ⟨lw_p57, List.forall_mem_cons.mpr ⟨lw_p58, List.forall_mem_cons.mpr ⟨lw_p59, List.forall_mem_cons.mpr ⟨lw_p60, List.forall_mem_cons.mpr ⟨lw_p61, List.forall_mem_cons.mpr ⟨lw_p62, List.forall_mem_cons.mpr ⟨lw_p63, fun _ h => absurd h List.not_mem_nil⟩⟩⟩⟩⟩⟩⟩⟩⟩⟩⟩⟩⟩⟩⟩⟩
theorem lw_p64 : lw_okq (⟨"DoorCodes$Rounder", "fewest", "(I)I"⟩, 4) := ⟨⟨by decide +kernel, by decide +kernel⟩, List.mem_of_getElem? (i := 197) (by decide +kernel), List.mem_of_getElem? (i := 701) (by decide +kernel), List.mem_of_getElem? (i := 702) (by decide +kernel)⟩
theorem lw_p65 : lw_okq (⟨"DoorCodes$Rounder", "bestOf", "(II)I"⟩, 4) := ⟨⟨by decide +kernel, by decide +kernel⟩, List.mem_of_getElem? (i := 197) (by decide +kernel), List.mem_of_getElem? (i := 705) (by decide +kernel), List.mem_of_getElem? (i := 706) (by decide +kernel)⟩
theorem lw_p66 : lw_okq (⟨"DoorCodes$Town", "print", "()I"⟩, 5) := ⟨⟨by decide +kernel, by decide +kernel⟩, List.mem_of_getElem? (i := 216) (by decide +kernel), List.mem_of_getElem? (i := 722) (by decide +kernel), List.mem_of_getElem? (i := 723) (by decide +kernel)⟩
theorem lw_p67 : lw_okq (⟨"DoorCodes", "isEdition", "(I)Z"⟩, 11) := ⟨⟨by decide +kernel, by decide +kernel⟩, List.mem_of_getElem? (i := 15) (by decide +kernel), List.mem_of_getElem? (i := 731) (by decide +kernel), List.mem_of_getElem? (i := 732) (by decide +kernel)⟩
theorem lw_p68 : lw_okq (⟨"DoorCodes$Town", "printed", "(II)I"⟩, 5) := ⟨⟨by decide +kernel, by decide +kernel⟩, List.mem_of_getElem? (i := 216) (by decide +kernel), List.mem_of_getElem? (i := 735) (by decide +kernel), List.mem_of_getElem? (i := 736) (by decide +kernel)⟩
theorem lw_p69 : lw_okq (⟨"DoorCodes$Town", "isMisprinted", "(III)Z"⟩, 5) := ⟨⟨by decide +kernel, by decide +kernel⟩, List.mem_of_getElem? (i := 216) (by decide +kernel), List.mem_of_getElem? (i := 743) (by decide +kernel), List.mem_of_getElem? (i := 744) (by decide +kernel)⟩
theorem lw_p70 : lw_okq (⟨"DoorCodes$Town", "copy", "(LDoorCodes$Town;)V"⟩, 5) := ⟨⟨by decide +kernel, by decide +kernel⟩, List.mem_of_getElem? (i := 216) (by decide +kernel), List.mem_of_getElem? (i := 754) (by decide +kernel), List.mem_of_getElem? (i := 755) (by decide +kernel)⟩
theorem lw_p71 : lw_okq (⟨"DoorCodes$Streets", "countLinks", "()I"⟩, 9) := ⟨⟨by decide +kernel, by decide +kernel⟩, List.mem_of_getElem? (i := 23) (by decide +kernel), List.mem_of_getElem? (i := 766) (by decide +kernel), List.mem_of_getElem? (i := 767) (by decide +kernel)⟩
theorem lw_p72 : lw_okq (⟨"DoorCodes$Town", "countCodes", "()I"⟩, 5) := ⟨⟨by decide +kernel, by decide +kernel⟩, List.mem_of_getElem? (i := 216) (by decide +kernel), List.mem_of_getElem? (i := 770) (by decide +kernel), List.mem_of_getElem? (i := 771) (by decide +kernel)⟩
theorem lw_p73 : lw_okq (⟨"DoorCodes$Town", "countOldWords", "()I"⟩, 5) := ⟨⟨by decide +kernel, by decide +kernel⟩, List.mem_of_getElem? (i := 216) (by decide +kernel), List.mem_of_getElem? (i := 774) (by decide +kernel), List.mem_of_getElem? (i := 775) (by decide +kernel)⟩
theorem lw_p74 : lw_okq (⟨"DoorCodesModel", "areGiven", "()Z"⟩, 36) := ⟨⟨by decide +kernel, by decide +kernel⟩, List.mem_of_getElem? (i := 779) (by decide +kernel), List.mem_of_getElem? (i := 905) (by decide +kernel), List.mem_of_getElem? (i := 906) (by decide +kernel)⟩
theorem lw_p75 : lw_okq (⟨"DoorCodesModel", "isSide", "(I)Z"⟩, 36) := ⟨⟨by decide +kernel, by decide +kernel⟩, List.mem_of_getElem? (i := 779) (by decide +kernel), List.mem_of_getElem? (i := 913) (by decide +kernel), List.mem_of_getElem? (i := 914) (by decide +kernel)⟩
theorem lw_p76 : lw_okq (⟨"DoorCodesModel", "doorsAt", "(II)I"⟩, 36) := ⟨⟨by decide +kernel, by decide +kernel⟩, List.mem_of_getElem? (i := 779) (by decide +kernel), List.mem_of_getElem? (i := 925) (by decide +kernel), List.mem_of_getElem? (i := 926) (by decide +kernel)⟩
theorem lw_p77 : lw_okq (⟨"DoorCodesModel", "isShape", "(I)Z"⟩, 36) := ⟨⟨by decide +kernel, by decide +kernel⟩, List.mem_of_getElem? (i := 779) (by decide +kernel), List.mem_of_getElem? (i := 933) (by decide +kernel), List.mem_of_getElem? (i := 934) (by decide +kernel)⟩
theorem lw_p78 : lw_okq (⟨"DoorCodesModel", "all", "()I"⟩, 36) := ⟨⟨by decide +kernel, by decide +kernel⟩, List.mem_of_getElem? (i := 779) (by decide +kernel), List.mem_of_getElem? (i := 937) (by decide +kernel), List.mem_of_getElem? (i := 938) (by decide +kernel)⟩
theorem lw_p79 : lw_okq (⟨"DoorCodesModel", "layFrom", "()V"⟩, 36) := ⟨⟨by decide +kernel, by decide +kernel⟩, List.mem_of_getElem? (i := 779) (by decide +kernel), List.mem_of_getElem? (i := 941) (by decide +kernel), List.mem_of_getElem? (i := 942) (by decide +kernel)⟩
def lw_privs_5 : List (MethodName × Nat) := [(⟨"DoorCodes$Rounder", "fewest", "(I)I"⟩, 4), (⟨"DoorCodes$Rounder", "bestOf", "(II)I"⟩, 4), (⟨"DoorCodes$Town", "print", "()I"⟩, 5), (⟨"DoorCodes", "isEdition", "(I)Z"⟩, 11), (⟨"DoorCodes$Town", "printed", "(II)I"⟩, 5), (⟨"DoorCodes$Town", "isMisprinted", "(III)Z"⟩, 5), (⟨"DoorCodes$Town", "copy", "(LDoorCodes$Town;)V"⟩, 5), (⟨"DoorCodes$Streets", "countLinks", "()I"⟩, 9), (⟨"DoorCodes$Town", "countCodes", "()I"⟩, 5), (⟨"DoorCodes$Town", "countOldWords", "()I"⟩, 5), (⟨"DoorCodesModel", "areGiven", "()Z"⟩, 36), (⟨"DoorCodesModel", "isSide", "(I)Z"⟩, 36), (⟨"DoorCodesModel", "doorsAt", "(II)I"⟩, 36), (⟨"DoorCodesModel", "isShape", "(I)Z"⟩, 36), (⟨"DoorCodesModel", "all", "()I"⟩, 36), (⟨"DoorCodesModel", "layFrom", "()V"⟩, 36)]
theorem lw_r5 : ∀ q ∈ lw_privs_5, lw_okq q := List.forall_mem_cons.mpr ⟨lw_p64, List.forall_mem_cons.mpr ⟨lw_p65, List.forall_mem_cons.mpr ⟨lw_p66, List.forall_mem_cons.mpr ⟨lw_p67, List.forall_mem_cons.mpr ⟨lw_p68, List.forall_mem_cons.mpr ⟨lw_p69, List.forall_mem_cons.mpr ⟨lw_p70, List.forall_mem_cons.mpr ⟨lw_p71, List.forall_mem_cons.mpr ⟨lw_p72, List.forall_mem_cons.mpr ⟨lw_p73, List.forall_mem_cons.mpr ⟨lw_p74, List.forall_mem_cons.mpr ⟨lw_p75, List.forall_mem_cons.mpr ⟨lw_p76, List.forall_mem_cons.mpr ⟨lw_p77, List.forall_mem_cons.mpr ⟨lw_p78, List.forall_mem_cons.mpr ⟨lw_p79, fun _ h => absurd h List.not_mem_nil⟩⟩⟩⟩⟩⟩⟩⟩⟩⟩⟩⟩⟩⟩⟩⟩
theorem lw_p80 : lw_okq (⟨"DoorCodesModel", "walkOf", "(I)I"⟩, 36) := ⟨⟨by decide +kernel, by decide +kernel⟩, List.mem_of_getElem? (i := 779) (by decide +kernel), List.mem_of_getElem? (i := 948) (by decide +kernel), List.mem_of_getElem? (i := 949) (by decide +kernel)⟩
theorem lw_p81 : lw_okq (⟨"DoorCodesModel", "readAll", "()I"⟩, 36) := ⟨⟨by decide +kernel, by decide +kernel⟩, List.mem_of_getElem? (i := 779) (by decide +kernel), List.mem_of_getElem? (i := 973) (by decide +kernel), List.mem_of_getElem? (i := 974) (by decide +kernel)⟩
theorem lw_p82 : lw_okq (⟨"DoorCodesModel", "item", "()Z"⟩, 36) := ⟨⟨by decide +kernel, by decide +kernel⟩, List.mem_of_getElem? (i := 779) (by decide +kernel), List.mem_of_getElem? (i := 977) (by decide +kernel), List.mem_of_getElem? (i := 978) (by decide +kernel)⟩
theorem lw_p83 : lw_okq (⟨"DoorCodesModel", "number", "(I)I"⟩, 36) := ⟨⟨by decide +kernel, by decide +kernel⟩, List.mem_of_getElem? (i := 779) (by decide +kernel), List.mem_of_getElem? (i := 981) (by decide +kernel), List.mem_of_getElem? (i := 982) (by decide +kernel)⟩
theorem lw_p84 : lw_okq (⟨"DoorCodesModel", "ruleOf", "(II)I"⟩, 36) := ⟨⟨by decide +kernel, by decide +kernel⟩, List.mem_of_getElem? (i := 779) (by decide +kernel), List.mem_of_getElem? (i := 999) (by decide +kernel), List.mem_of_getElem? (i := 1000) (by decide +kernel)⟩
theorem lw_p85 : lw_okq (⟨"DoorCodesModel", "whyOf", "(II)I"⟩, 36) := ⟨⟨by decide +kernel, by decide +kernel⟩, List.mem_of_getElem? (i := 779) (by decide +kernel), List.mem_of_getElem? (i := 1003) (by decide +kernel), List.mem_of_getElem? (i := 1004) (by decide +kernel)⟩
theorem lw_p86 : lw_okq (⟨"DoorCodesModel", "quarrels", "(II)Z"⟩, 36) := ⟨⟨by decide +kernel, by decide +kernel⟩, List.mem_of_getElem? (i := 779) (by decide +kernel), List.mem_of_getElem? (i := 1018) (by decide +kernel), List.mem_of_getElem? (i := 1019) (by decide +kernel)⟩
theorem lw_p87 : lw_okq (⟨"DoorCodesModel", "isRight", "(II)Z"⟩, 36) := ⟨⟨by decide +kernel, by decide +kernel⟩, List.mem_of_getElem? (i := 779) (by decide +kernel), List.mem_of_getElem? (i := 1026) (by decide +kernel), List.mem_of_getElem? (i := 1027) (by decide +kernel)⟩
theorem lw_p88 : lw_okq (⟨"DoorCodesModel", "doorsIn", "(II)I"⟩, 36) := ⟨⟨by decide +kernel, by decide +kernel⟩, List.mem_of_getElem? (i := 779) (by decide +kernel), List.mem_of_getElem? (i := 1030) (by decide +kernel), List.mem_of_getElem? (i := 1031) (by decide +kernel)⟩
theorem lw_p89 : lw_okq (⟨"DoorCodesModel", "layShapes", "(I)Z"⟩, 36) := ⟨⟨by decide +kernel, by decide +kernel⟩, List.mem_of_getElem? (i := 779) (by decide +kernel), List.mem_of_getElem? (i := 1038) (by decide +kernel), List.mem_of_getElem? (i := 1039) (by decide +kernel)⟩
theorem lw_p90 : lw_okq (⟨"DoorCodesModel", "bar", "()I"⟩, 36) := ⟨⟨by decide +kernel, by decide +kernel⟩, List.mem_of_getElem? (i := 779) (by decide +kernel), List.mem_of_getElem? (i := 1042) (by decide +kernel), List.mem_of_getElem? (i := 1043) (by decide +kernel)⟩
theorem lw_p91 : lw_okq (⟨"DoorCodesModel", "missed", "(I)I"⟩, 36) := ⟨⟨by decide +kernel, by decide +kernel⟩, List.mem_of_getElem? (i := 779) (by decide +kernel), List.mem_of_getElem? (i := 1051) (by decide +kernel), List.mem_of_getElem? (i := 1052) (by decide +kernel)⟩
theorem lw_p92 : lw_okq (⟨"DoorCodesModel", "readAs", "(II)I"⟩, 36) := ⟨⟨by decide +kernel, by decide +kernel⟩, List.mem_of_getElem? (i := 779) (by decide +kernel), List.mem_of_getElem? (i := 1063) (by decide +kernel), List.mem_of_getElem? (i := 1064) (by decide +kernel)⟩
theorem lw_p93 : lw_okq (⟨"DoorCodesModel", "readLetter", "(II)I"⟩, 36) := ⟨⟨by decide +kernel, by decide +kernel⟩, List.mem_of_getElem? (i := 779) (by decide +kernel), List.mem_of_getElem? (i := 1067) (by decide +kernel), List.mem_of_getElem? (i := 1068) (by decide +kernel)⟩
theorem lw_p94 : lw_okq (⟨"DoorCodesModel", "layWords", "(I)Z"⟩, 36) := ⟨⟨by decide +kernel, by decide +kernel⟩, List.mem_of_getElem? (i := 779) (by decide +kernel), List.mem_of_getElem? (i := 1076) (by decide +kernel), List.mem_of_getElem? (i := 1077) (by decide +kernel)⟩
theorem lw_p95 : lw_okq (⟨"DoorCodesModel", "mayStand", "(I)Z"⟩, 36) := ⟨⟨by decide +kernel, by decide +kernel⟩, List.mem_of_getElem? (i := 779) (by decide +kernel), List.mem_of_getElem? (i := 1080) (by decide +kernel), List.mem_of_getElem? (i := 1081) (by decide +kernel)⟩
def lw_privs_6 : List (MethodName × Nat) := [(⟨"DoorCodesModel", "walkOf", "(I)I"⟩, 36), (⟨"DoorCodesModel", "readAll", "()I"⟩, 36), (⟨"DoorCodesModel", "item", "()Z"⟩, 36), (⟨"DoorCodesModel", "number", "(I)I"⟩, 36), (⟨"DoorCodesModel", "ruleOf", "(II)I"⟩, 36), (⟨"DoorCodesModel", "whyOf", "(II)I"⟩, 36), (⟨"DoorCodesModel", "quarrels", "(II)Z"⟩, 36), (⟨"DoorCodesModel", "isRight", "(II)Z"⟩, 36), (⟨"DoorCodesModel", "doorsIn", "(II)I"⟩, 36), (⟨"DoorCodesModel", "layShapes", "(I)Z"⟩, 36), (⟨"DoorCodesModel", "bar", "()I"⟩, 36), (⟨"DoorCodesModel", "missed", "(I)I"⟩, 36), (⟨"DoorCodesModel", "readAs", "(II)I"⟩, 36), (⟨"DoorCodesModel", "readLetter", "(II)I"⟩, 36), (⟨"DoorCodesModel", "layWords", "(I)Z"⟩, 36), (⟨"DoorCodesModel", "mayStand", "(I)Z"⟩, 36)]
theorem lw_r6 : ∀ q ∈ lw_privs_6, lw_okq q := List.forall_mem_cons.mpr ⟨lw_p80, List.forall_mem_cons.mpr ⟨lw_p81, List.forall_mem_cons.mpr ⟨lw_p82, List.forall_mem_cons.mpr ⟨lw_p83, List.forall_mem_cons.mpr ⟨lw_p84, List.forall_mem_cons.mpr ⟨lw_p85, List.forall_mem_cons.mpr ⟨lw_p86, List.forall_mem_cons.mpr ⟨lw_p87, List.forall_mem_cons.mpr ⟨lw_p88, List.forall_mem_cons.mpr ⟨lw_p89, List.forall_mem_cons.mpr ⟨lw_p90, List.forall_mem_cons.mpr ⟨lw_p91, List.forall_mem_cons.mpr ⟨lw_p92, List.forall_mem_cons.mpr ⟨lw_p93, List.forall_mem_cons.mpr ⟨lw_p94, List.forall_mem_cons.mpr ⟨lw_p95, fun _ h => absurd h List.not_mem_nil⟩⟩⟩⟩⟩⟩⟩⟩⟩⟩⟩⟩⟩⟩⟩⟩
theorem lw_p96 : lw_okq (⟨"DoorCodesModel", "areLinked", "(II)Z"⟩, 36) := ⟨⟨by decide +kernel, by decide +kernel⟩, List.mem_of_getElem? (i := 779) (by decide +kernel), List.mem_of_getElem? (i := 1084) (by decide +kernel), List.mem_of_getElem? (i := 1085) (by decide +kernel)⟩
theorem lw_p97 : lw_okq (⟨"DoorCodesModel", "isAlive", "(I)Z"⟩, 36) := ⟨⟨by decide +kernel, by decide +kernel⟩, List.mem_of_getElem? (i := 779) (by decide +kernel), List.mem_of_getElem? (i := 1092) (by decide +kernel), List.mem_of_getElem? (i := 1093) (by decide +kernel)⟩
theorem lw_p98 : lw_okq (⟨"DoorCodesModel", "get", "(III)V"⟩, 36) := ⟨⟨by decide +kernel, by decide +kernel⟩, List.mem_of_getElem? (i := 779) (by decide +kernel), List.mem_of_getElem? (i := 1100) (by decide +kernel), List.mem_of_getElem? (i := 1101) (by decide +kernel)⟩
theorem lw_p99 : lw_okq (⟨"DoorCodesModel", "codeOf", "(I)I"⟩, 36) := ⟨⟨by decide +kernel, by decide +kernel⟩, List.mem_of_getElem? (i := 779) (by decide +kernel), List.mem_of_getElem? (i := 1108) (by decide +kernel), List.mem_of_getElem? (i := 1109) (by decide +kernel)⟩
theorem lw_p100 : lw_okq (⟨"DoorCodesModel", "leadOf", "(II)I"⟩, 36) := ⟨⟨by decide +kernel, by decide +kernel⟩, List.mem_of_getElem? (i := 779) (by decide +kernel), List.mem_of_getElem? (i := 1115) (by decide +kernel), List.mem_of_getElem? (i := 1116) (by decide +kernel)⟩
theorem lw_p101 : lw_okq (⟨"DoorCodesModel", "isAsk", "(III)Z"⟩, 36) := ⟨⟨by decide +kernel, by decide +kernel⟩, List.mem_of_getElem? (i := 779) (by decide +kernel), List.mem_of_getElem? (i := 1124) (by decide +kernel), List.mem_of_getElem? (i := 1125) (by decide +kernel)⟩
theorem lw_p102 : lw_okq (⟨"DoorCodesModel", "mayPass", "(III)Z"⟩, 36) := ⟨⟨by decide +kernel, by decide +kernel⟩, List.mem_of_getElem? (i := 779) (by decide +kernel), List.mem_of_getElem? (i := 1129) (by decide +kernel), List.mem_of_getElem? (i := 1130) (by decide +kernel)⟩
theorem lw_p103 : lw_okq (⟨"DoorCodesModel", "layCodes", "(I)V"⟩, 36) := ⟨⟨by decide +kernel, by decide +kernel⟩, List.mem_of_getElem? (i := 779) (by decide +kernel), List.mem_of_getElem? (i := 1151) (by decide +kernel), List.mem_of_getElem? (i := 1152) (by decide +kernel)⟩
theorem lw_p104 : lw_okq (⟨"DoorCodesModel", "weightOf", "(I)I"⟩, 36) := ⟨⟨by decide +kernel, by decide +kernel⟩, List.mem_of_getElem? (i := 779) (by decide +kernel), List.mem_of_getElem? (i := 1155) (by decide +kernel), List.mem_of_getElem? (i := 1156) (by decide +kernel)⟩
theorem lw_p105 : lw_okq (⟨"DoorCodesModel", "copy", "(II)V"⟩, 36) := ⟨⟨by decide +kernel, by decide +kernel⟩, List.mem_of_getElem? (i := 779) (by decide +kernel), List.mem_of_getElem? (i := 1179) (by decide +kernel), List.mem_of_getElem? (i := 1180) (by decide +kernel)⟩
def lw_privs_7 : List (MethodName × Nat) := [(⟨"DoorCodesModel", "areLinked", "(II)Z"⟩, 36), (⟨"DoorCodesModel", "isAlive", "(I)Z"⟩, 36), (⟨"DoorCodesModel", "get", "(III)V"⟩, 36), (⟨"DoorCodesModel", "codeOf", "(I)I"⟩, 36), (⟨"DoorCodesModel", "leadOf", "(II)I"⟩, 36), (⟨"DoorCodesModel", "isAsk", "(III)Z"⟩, 36), (⟨"DoorCodesModel", "mayPass", "(III)Z"⟩, 36), (⟨"DoorCodesModel", "layCodes", "(I)V"⟩, 36), (⟨"DoorCodesModel", "weightOf", "(I)I"⟩, 36), (⟨"DoorCodesModel", "copy", "(II)V"⟩, 36)]
theorem lw_r7 : ∀ q ∈ lw_privs_7, lw_okq q := List.forall_mem_cons.mpr ⟨lw_p96, List.forall_mem_cons.mpr ⟨lw_p97, List.forall_mem_cons.mpr ⟨lw_p98, List.forall_mem_cons.mpr ⟨lw_p99, List.forall_mem_cons.mpr ⟨lw_p100, List.forall_mem_cons.mpr ⟨lw_p101, List.forall_mem_cons.mpr ⟨lw_p102, List.forall_mem_cons.mpr ⟨lw_p103, List.forall_mem_cons.mpr ⟨lw_p104, List.forall_mem_cons.mpr ⟨lw_p105, fun _ h => absurd h List.not_mem_nil⟩⟩⟩⟩⟩⟩⟩⟩⟩⟩
def lw_privs : List (MethodName × Nat) := lw_privs_1 ++ (lw_privs_2 ++ (lw_privs_3 ++ (lw_privs_4 ++ (lw_privs_5 ++ (lw_privs_6 ++ (lw_privs_7))))))
def lw_tbl : List Cond := k2_sels lw_privs ++ tables_1
theorem lw_privs_ok : ∀ q ∈ lw_privs, lw_okq q := by
  show ∀ q ∈ lw_privs_1 ++ (lw_privs_2 ++ (lw_privs_3 ++ (lw_privs_4 ++ (lw_privs_5 ++ (lw_privs_6 ++ (lw_privs_7)))))), lw_okq q
  exact List.forall_mem_append.mpr ⟨lw_r1, List.forall_mem_append.mpr ⟨lw_r2, List.forall_mem_append.mpr ⟨lw_r3, List.forall_mem_append.mpr ⟨lw_r4, List.forall_mem_append.mpr ⟨lw_r5, List.forall_mem_append.mpr ⟨lw_r6, lw_r7⟩⟩⟩⟩⟩⟩
def RX0 : String := "DoorCodes$Items"
def TX0 : u_T := fun k => match k with
  | 0 => ("DoorCodes$Items", "letters", "[I", true)
  | 1 => ("DoorCodes$Items", "firsts", "[I", true)
  | 2 => ("DoorCodes$Items", "seconds", "[I", true)
  | _ => ("DoorCodes$Items", "count", "I", false)
def tyX0 : Nat → FieldType := fun k => match k with
  | 0 => .array .int
  | 1 => .array .int
  | 2 => .array .int
  | _ => .int
theorem nmX0 : ∀ a, a < 4 → ∀ b, b < 4 → a ≠ b → (TX0 a).2.1 ≠ (TX0 b).2.1 := by decide +kernel
theorem tyX0_ok : ∀ k, k < 4 → parseFieldDescriptor (TX0 k).2.2.1 = some (tyX0 k) := by decide +kernel
abbrev cX0_init : ByteArray := prog_2_method_1_code
def yX0_init : MethodName := ⟨RX0, "<init>", "()V"⟩
abbrev cX0_copy : ByteArray := prog_2_method_2_code
def yX0_copy : MethodName := ⟨RX0, "copy", "(LDoorCodes$Items;)V"⟩
abbrev cX0_readFrom : ByteArray := prog_2_method_3_code
def yX0_readFrom : MethodName := ⟨RX0, "readFrom", "(LDoorCodes$Text;)I"⟩
abbrev cX0_readItem : ByteArray := prog_2_method_4_code
def yX0_readItem : MethodName := ⟨RX0, "readItem", "(LDoorCodes$Text;I)I"⟩
abbrev cX0_isItem : ByteArray := prog_2_method_5_code
def yX0_isItem : MethodName := ⟨RX0, "isItem", "(III)Z"⟩
abbrev cX0_letterOf : ByteArray := prog_2_method_6_code
def yX0_letterOf : MethodName := ⟨RX0, "letterOf", "(I)I"⟩
abbrev cX0_itemOn : ByteArray := prog_2_method_7_code
def yX0_itemOn : MethodName := ⟨RX0, "itemOn", "(II)I"⟩
abbrev cX0_valueOn : ByteArray := prog_2_method_8_code
def yX0_valueOn : MethodName := ⟨RX0, "valueOn", "(II)I"⟩
abbrev cX0_areAtOdds : ByteArray := prog_2_method_9_code
def yX0_areAtOdds : MethodName := ⟨RX0, "areAtOdds", "(II)Z"⟩
abbrev cX0_pairOf : ByteArray := prog_2_method_10_code
def yX0_pairOf : MethodName := ⟨RX0, "pairOf", "(I)I"⟩
abbrev cX0_allowsWord : ByteArray := prog_2_method_11_code
def yX0_allowsWord : MethodName := ⟨RX0, "allowsWord", "(I)Z"⟩
abbrev cX0_allowsShape : ByteArray := prog_2_method_12_code
def yX0_allowsShape : MethodName := ⟨RX0, "allowsShape", "(I)Z"⟩
def RX1 : String := "DoorCodes$Misreads"
def TX1 : u_T := fun k => match k with
  | _ => ("DoorCodes$Misreads", "hundredths", "[I", true)
def tyX1 : Nat → FieldType := fun k => match k with
  | _ => .array .int
theorem nmX1 : ∀ a, a < 1 → ∀ b, b < 1 → a ≠ b → (TX1 a).2.1 ≠ (TX1 b).2.1 := by decide +kernel
theorem tyX1_ok : ∀ k, k < 1 → parseFieldDescriptor (TX1 k).2.2.1 = some (tyX1 k) := by decide +kernel
abbrev cX1_init : ByteArray := prog_3_method_1_code
def yX1_init : MethodName := ⟨RX1, "<init>", "()V"⟩
abbrev cX1_hasRoom : ByteArray := prog_3_method_2_code
def yX1_hasRoom : MethodName := ⟨RX1, "hasRoom", "(III)Z"⟩
abbrev cX1_set : ByteArray := prog_3_method_3_code
def yX1_set : MethodName := ⟨RX1, "set", "(III)I"⟩
abbrev cX1_leftOf : ByteArray := prog_3_method_4_code
def yX1_leftOf : MethodName := ⟨RX1, "leftOf", "(I)I"⟩
abbrev cX1_letterAs : ByteArray := prog_3_method_5_code
def yX1_letterAs : MethodName := ⟨RX1, "letterAs", "(II)I"⟩
abbrev cX1_readAs : ByteArray := prog_3_method_6_code
def yX1_readAs : MethodName := ⟨RX1, "readAs", "(II)I"⟩
def RX2 : String := "DoorCodes$Rounder"
def TX2 : u_T := fun k => match k with
  | 0 => ("DoorCodes$Rounder", "weights", "[I", true)
  | 1 => ("DoorCodes$Rounder", "loads", "[I", true)
  | 2 => ("DoorCodes$Rounder", "keys", "[I", true)
  | _ => ("DoorCodes$Rounder", "codes", "I", false)
def tyX2 : Nat → FieldType := fun k => match k with
  | 0 => .array .int
  | 1 => .array .int
  | 2 => .array .int
  | _ => .int
theorem nmX2 : ∀ a, a < 4 → ∀ b, b < 4 → a ≠ b → (TX2 a).2.1 ≠ (TX2 b).2.1 := by decide +kernel
theorem tyX2_ok : ∀ k, k < 4 → parseFieldDescriptor (TX2 k).2.2.1 = some (tyX2 k) := by decide +kernel
abbrev cX2_init : ByteArray := prog_4_method_1_code
def yX2_init : MethodName := ⟨RX2, "<init>", "()V"⟩
abbrev cX2_weigh : ByteArray := prog_4_method_2_code
def yX2_weigh : MethodName := ⟨RX2, "weigh", "(LDoorCodes$Streets;LDoorCodes$Town;I)V"⟩
abbrev cX2_loadOf : ByteArray := prog_4_method_3_code
def yX2_loadOf : MethodName := ⟨RX2, "loadOf", "(I)I"⟩
abbrev cX2_fewest : ByteArray := prog_4_method_4_code
def yX2_fewest : MethodName := ⟨RX2, "fewest", "(I)I"⟩
abbrev cX2_bestOf : ByteArray := prog_4_method_5_code
def yX2_bestOf : MethodName := ⟨RX2, "bestOf", "(II)I"⟩
def RX3 : String := "DoorCodes$Shaper"
def TX3 : u_T := fun k => match k with
  | 0 => ("DoorCodes$Shaper", "streets", "LDoorCodes$Streets;", true)
  | 1 => ("DoorCodes$Shaper", "rules", "LDoorCodes$Items;", true)
  | 2 => ("DoorCodes$Shaper", "rights", "[Z", true)
  | 3 => ("DoorCodes$Shaper", "keys", "[I", true)
  | 4 => ("DoorCodes$Shaper", "parts", "[I", true)
  | 5 => ("DoorCodes$Shaper", "shapes", "[I", true)
  | 6 => ("DoorCodes$Shaper", "count", "I", false)
  | 7 => ("DoorCodes$Shaper", "walks", "I", false)
  | _ => ("DoorCodes$Shaper", "dayShaped", "I", false)
def tyX3 : Nat → FieldType := fun k => match k with
  | 0 => .object "DoorCodes$Streets"
  | 1 => .object "DoorCodes$Items"
  | 2 => .array .boolean
  | 3 => .array .int
  | 4 => .array .int
  | 5 => .array .int
  | 6 => .int
  | 7 => .int
  | _ => .int
theorem nmX3 : ∀ a, a < 9 → ∀ b, b < 9 → a ≠ b → (TX3 a).2.1 ≠ (TX3 b).2.1 := by decide +kernel
theorem tyX3_ok : ∀ k, k < 9 → parseFieldDescriptor (TX3 k).2.2.1 = some (tyX3 k) := by decide +kernel
abbrev cX3_init : ByteArray := prog_5_method_1_code
def yX3_init : MethodName := ⟨RX3, "<init>", "(LDoorCodes$Streets;LDoorCodes$Items;)V"⟩
abbrev cX3_forget : ByteArray := prog_5_method_2_code
def yX3_forget : MethodName := ⟨RX3, "forget", "()V"⟩
abbrev cX3_isRight : ByteArray := prog_5_method_3_code
def yX3_isRight : MethodName := ⟨RX3, "isRight", "(II)Z"⟩
abbrev cX3_dayLookedAt : ByteArray := prog_5_method_4_code
def yX3_dayLookedAt : MethodName := ⟨RX3, "dayLookedAt", "(I)I"⟩
abbrev cX3_fits : ByteArray := prog_5_method_5_code
def yX3_fits : MethodName := ⟨RX3, "fits", "(III)Z"⟩
abbrev cX3_shapeOn : ByteArray := prog_5_method_6_code
def yX3_shapeOn : MethodName := ⟨RX3, "shapeOn", "(I)V"⟩
abbrev cX3_findPart : ByteArray := prog_5_method_7_code
def yX3_findPart : MethodName := ⟨RX3, "findPart", "(I)V"⟩
abbrev cX3_bar : ByteArray := prog_5_method_8_code
def yX3_bar : MethodName := ⟨RX3, "bar", "()I"⟩
abbrev cX3_isInRight : ByteArray := prog_5_method_9_code
def yX3_isInRight : MethodName := ⟨RX3, "isInRight", "(I)Z"⟩
def RX4 : String := "DoorCodes$Streets"
def TX4 : u_T := fun k => match k with
  | 0 => ("DoorCodes$Streets", "doorsFirst", "[I", true)
  | 1 => ("DoorCodes$Streets", "growths", "[I", true)
  | 2 => ("DoorCodes$Streets", "lengths", "[I", true)
  | 3 => ("DoorCodes$Streets", "mails", "[I", true)
  | 4 => ("DoorCodes$Streets", "links", "[I", true)
  | 5 => ("DoorCodes$Streets", "least", "[I", true)
  | 6 => ("DoorCodes$Streets", "leastFrom", "[I", true)
  | 7 => ("DoorCodes$Streets", "size", "I", false)
  | _ => ("DoorCodes$Streets", "walked", "Z", false)
def tyX4 : Nat → FieldType := fun k => match k with
  | 0 => .array .int
  | 1 => .array .int
  | 2 => .array .int
  | 3 => .array .int
  | 4 => .array .int
  | 5 => .array .int
  | 6 => .array .int
  | 7 => .int
  | _ => .boolean
theorem nmX4 : ∀ a, a < 9 → ∀ b, b < 9 → a ≠ b → (TX4 a).2.1 ≠ (TX4 b).2.1 := by decide +kernel
theorem tyX4_ok : ∀ k, k < 9 → parseFieldDescriptor (TX4 k).2.2.1 = some (tyX4 k) := by decide +kernel
abbrev cX4_init : ByteArray := prog_6_method_1_code
def yX4_init : MethodName := ⟨RX4, "<init>", "()V"⟩
abbrev cX4_add : ByteArray := prog_6_method_2_code
def yX4_add : MethodName := ⟨RX4, "add", "(IIII)I"⟩
abbrev cX4_setLink : ByteArray := prog_6_method_3_code
def yX4_setLink : MethodName := ⟨RX4, "setLink", "(III)I"⟩
abbrev cX4_countLinks : ByteArray := prog_6_method_4_code
def yX4_countLinks : MethodName := ⟨RX4, "countLinks", "()I"⟩
abbrev cX4_allSides : ByteArray := prog_6_method_5_code
def yX4_allSides : MethodName := ⟨RX4, "allSides", "()I"⟩
abbrev cX4_doorsOf : ByteArray := prog_6_method_6_code
def yX4_doorsOf : MethodName := ⟨RX4, "doorsOf", "(II)I"⟩
abbrev cX4_weightOf : ByteArray := prog_6_method_7_code
def yX4_weightOf : MethodName := ⟨RX4, "weightOf", "(II)I"⟩
abbrev cX4_areLinked : ByteArray := prog_6_method_8_code
def yX4_areLinked : MethodName := ⟨RX4, "areLinked", "(II)Z"⟩
abbrev cX4_leastWalk : ByteArray := prog_6_method_9_code
def yX4_leastWalk : MethodName := ⟨RX4, "leastWalk", "(I)I"⟩
abbrev cX4_walkAll : ByteArray := prog_6_method_10_code
def yX4_walkAll : MethodName := ⟨RX4, "walkAll", "()V"⟩
abbrev cX4_stepsFrom : ByteArray := prog_6_method_11_code
def yX4_stepsFrom : MethodName := ⟨RX4, "stepsFrom", "(II)I"⟩
abbrev cX4_sideInRow : ByteArray := prog_6_method_12_code
def yX4_sideInRow : MethodName := ⟨RX4, "sideInRow", "(II)I"⟩
abbrev cX4_nextInRow : ByteArray := prog_6_method_13_code
def yX4_nextInRow : MethodName := ⟨RX4, "nextInRow", "(III)I"⟩
def RX5 : String := "DoorCodes$Text"
def TX5 : u_T := fun k => match k with
  | 0 => ("DoorCodes$Text", "bytes", "[B", true)
  | _ => ("DoorCodes$Text", "length", "I", false)
def tyX5 : Nat → FieldType := fun k => match k with
  | 0 => .array .byte
  | _ => .int
theorem nmX5 : ∀ a, a < 2 → ∀ b, b < 2 → a ≠ b → (TX5 a).2.1 ≠ (TX5 b).2.1 := by decide +kernel
theorem tyX5_ok : ∀ k, k < 2 → parseFieldDescriptor (TX5 k).2.2.1 = some (tyX5 k) := by decide +kernel
abbrev cX5_init : ByteArray := prog_7_method_1_code
def yX5_init : MethodName := ⟨RX5, "<init>", "()V"⟩
abbrev cX5_append : ByteArray := prog_7_method_2_code
def yX5_append : MethodName := ⟨RX5, "append", "(IJ)V"⟩
abbrev cX5_at : ByteArray := prog_7_method_3_code
def yX5_at : MethodName := ⟨RX5, "at", "(I)I"⟩
abbrev cX5_endOfFigures : ByteArray := prog_7_method_4_code
def yX5_endOfFigures : MethodName := ⟨RX5, "endOfFigures", "(I)I"⟩
abbrev cX5_number : ByteArray := prog_7_method_5_code
def yX5_number : MethodName := ⟨RX5, "number", "(II)I"⟩
def RX6 : String := "DoorCodes$Town"
def TX6 : u_T := fun k => match k with
  | 0 => ("DoorCodes$Town", "words", "[I", true)
  | 1 => ("DoorCodes$Town", "lastLed", "[I", true)
  | 2 => ("DoorCodes$Town", "books", "[I", true)
  | 3 => ("DoorCodes$Town", "editions", "I", false)
  | _ => ("DoorCodes$Town", "latest", "I", false)
def tyX6 : Nat → FieldType := fun k => match k with
  | 0 => .array .int
  | 1 => .array .int
  | 2 => .array .int
  | 3 => .int
  | _ => .int
theorem nmX6 : ∀ a, a < 5 → ∀ b, b < 5 → a ≠ b → (TX6 a).2.1 ≠ (TX6 b).2.1 := by decide +kernel
theorem tyX6_ok : ∀ k, k < 5 → parseFieldDescriptor (TX6 k).2.2.1 = some (tyX6 k) := by decide +kernel
abbrev cX6_init : ByteArray := prog_8_method_1_code
def yX6_init : MethodName := ⟨RX6, "<init>", "()V"⟩
abbrev cX6_copy : ByteArray := prog_8_method_2_code
def yX6_copy : MethodName := ⟨RX6, "copy", "(LDoorCodes$Town;)V"⟩
abbrev cX6_isGiven : ByteArray := prog_8_method_3_code
def yX6_isGiven : MethodName := ⟨RX6, "isGiven", "()Z"⟩
abbrev cX6_wordOf : ByteArray := prog_8_method_4_code
def yX6_wordOf : MethodName := ⟨RX6, "wordOf", "(I)I"⟩
abbrev cX6_sidesWith : ByteArray := prog_8_method_5_code
def yX6_sidesWith : MethodName := ⟨RX6, "sidesWith", "(I)I"⟩
abbrev cX6_codeOf : ByteArray := prog_8_method_6_code
def yX6_codeOf : MethodName := ⟨RX6, "codeOf", "(I)I"⟩
abbrev cX6_ledTo : ByteArray := prog_8_method_7_code
def yX6_ledTo : MethodName := ⟨RX6, "ledTo", "(II)I"⟩
abbrev cX6_rename : ByteArray := prog_8_method_8_code
def yX6_rename : MethodName := ⟨RX6, "rename", "(III)V"⟩
abbrev cX6_countCodes : ByteArray := prog_8_method_9_code
def yX6_countCodes : MethodName := ⟨RX6, "countCodes", "()I"⟩
abbrev cX6_countOldWords : ByteArray := prog_8_method_10_code
def yX6_countOldWords : MethodName := ⟨RX6, "countOldWords", "()I"⟩
abbrev cX6_print : ByteArray := prog_8_method_11_code
def yX6_print : MethodName := ⟨RX6, "print", "()I"⟩
abbrev cX6_printed : ByteArray := prog_8_method_12_code
def yX6_printed : MethodName := ⟨RX6, "printed", "(II)I"⟩
abbrev cX6_isMisprinted : ByteArray := prog_8_method_13_code
def yX6_isMisprinted : MethodName := ⟨RX6, "isMisprinted", "(III)Z"⟩
def RX7 : String := "DoorCodes$Wording"
def TX7 : u_T := fun k => match k with
  | 0 => ("DoorCodes$Wording", "streets", "LDoorCodes$Streets;", true)
  | 1 => ("DoorCodes$Wording", "rules", "LDoorCodes$Items;", true)
  | 2 => ("DoorCodes$Wording", "misreads", "LDoorCodes$Misreads;", true)
  | 3 => ("DoorCodes$Wording", "shaper", "LDoorCodes$Shaper;", true)
  | 4 => ("DoorCodes$Wording", "candidates", "[I", true)
  | 5 => ("DoorCodes$Wording", "harms", "[I", true)
  | 6 => ("DoorCodes$Wording", "times", "[I", true)
  | 7 => ("DoorCodes$Wording", "chosen", "[I", true)
  | 8 => ("DoorCodes$Wording", "best", "[I", true)
  | 9 => ("DoorCodes$Wording", "candidateCount", "I", false)
  | 10 => ("DoorCodes$Wording", "codeCount", "I", false)
  | 11 => ("DoorCodes$Wording", "leastHarm", "I", false)
  | 12 => ("DoorCodes$Wording", "dayFound", "I", false)
  | _ => ("DoorCodes$Wording", "lettersFound", "I", false)
def tyX7 : Nat → FieldType := fun k => match k with
  | 0 => .object "DoorCodes$Streets"
  | 1 => .object "DoorCodes$Items"
  | 2 => .object "DoorCodes$Misreads"
  | 3 => .object "DoorCodes$Shaper"
  | 4 => .array .int
  | 5 => .array .int
  | 6 => .array .int
  | 7 => .array .int
  | 8 => .array .int
  | 9 => .int
  | 10 => .int
  | 11 => .int
  | 12 => .int
  | _ => .int
theorem nmX7 : ∀ a, a < 14 → ∀ b, b < 14 → a ≠ b → (TX7 a).2.1 ≠ (TX7 b).2.1 := by decide +kernel
theorem tyX7_ok : ∀ k, k < 14 → parseFieldDescriptor (TX7 k).2.2.1 = some (tyX7 k) := by decide +kernel
abbrev cX7_init : ByteArray := prog_9_method_1_code
def yX7_init : MethodName := ⟨RX7, "<init>", "(LDoorCodes$Streets;LDoorCodes$Items;LDoorCodes$Misreads;LDoorCodes$Shaper;)V"⟩
abbrev cX7_forget : ByteArray := prog_9_method_2_code
def yX7_forget : MethodName := ⟨RX7, "forget", "()V"⟩
abbrev cX7_findWords : ByteArray := prog_9_method_3_code
def yX7_findWords : MethodName := ⟨RX7, "findWords", "(II)Z"⟩
abbrev cX7_gatherCandidates : ByteArray := prog_9_method_4_code
def yX7_gatherCandidates : MethodName := ⟨RX7, "gatherCandidates", "(I)V"⟩
abbrev cX7_compareAll : ByteArray := prog_9_method_5_code
def yX7_compareAll : MethodName := ⟨RX7, "compareAll", "()V"⟩
abbrev cX7_choose : ByteArray := prog_9_method_6_code
def yX7_choose : MethodName := ⟨RX7, "choose", "(II)V"⟩
abbrev cX7_isChosen : ByteArray := prog_9_method_7_code
def yX7_isChosen : MethodName := ⟨RX7, "isChosen", "(II)Z"⟩
abbrev cX7_harmOfLast : ByteArray := prog_9_method_8_code
def yX7_harmOfLast : MethodName := ⟨RX7, "harmOfLast", "(I)I"⟩
def RX8 : String := "DoorCodes"
def TX8 : u_T := fun k => match k with
  | 0 => ("DoorCodes", "streets", "LDoorCodes$Streets;", true)
  | 1 => ("DoorCodes", "text", "LDoorCodes$Text;", true)
  | 2 => ("DoorCodes", "draft", "LDoorCodes$Items;", true)
  | 3 => ("DoorCodes", "inForce", "LDoorCodes$Items;", true)
  | 4 => ("DoorCodes", "misreads", "LDoorCodes$Misreads;", true)
  | 5 => ("DoorCodes", "shaper", "LDoorCodes$Shaper;", true)
  | 6 => ("DoorCodes", "wording", "LDoorCodes$Wording;", true)
  | 7 => ("DoorCodes", "rounder", "LDoorCodes$Rounder;", true)
  | 8 => ("DoorCodes", "town", "LDoorCodes$Town;", true)
  | 9 => ("DoorCodes", "kept", "[LDoorCodes$Town;", true)
  | _ => ("DoorCodes", "keptCount", "I", false)
def tyX8 : Nat → FieldType := fun k => match k with
  | 0 => .object "DoorCodes$Streets"
  | 1 => .object "DoorCodes$Text"
  | 2 => .object "DoorCodes$Items"
  | 3 => .object "DoorCodes$Items"
  | 4 => .object "DoorCodes$Misreads"
  | 5 => .object "DoorCodes$Shaper"
  | 6 => .object "DoorCodes$Wording"
  | 7 => .object "DoorCodes$Rounder"
  | 8 => .object "DoorCodes$Town"
  | 9 => .array (.object "DoorCodes$Town")
  | _ => .int
theorem nmX8 : ∀ a, a < 11 → ∀ b, b < 11 → a ≠ b → (TX8 a).2.1 ≠ (TX8 b).2.1 := by decide +kernel
theorem tyX8_ok : ∀ k, k < 11 → parseFieldDescriptor (TX8 k).2.2.1 = some (tyX8 k) := by decide +kernel
abbrev cX8_init : ByteArray := prog_1_method_1_code
def yX8_init : MethodName := ⟨RX8, "<init>", "()V"⟩
abbrev cX8_side : ByteArray := prog_1_method_2_code
def yX8_side : MethodName := ⟨RX8, "side", "(IIII)I"⟩
abbrev cX8_link : ByteArray := prog_1_method_3_code
def yX8_link : MethodName := ⟨RX8, "link", "(III)I"⟩
abbrev cX8_doors : ByteArray := prog_1_method_4_code
def yX8_doors : MethodName := ⟨RX8, "doors", "(II)I"⟩
abbrev cX8_walk : ByteArray := prog_1_method_5_code
def yX8_walk : MethodName := ⟨RX8, "walk", "(I)I"⟩
abbrev cX8_row : ByteArray := prog_1_method_6_code
def yX8_row : MethodName := ⟨RX8, "row", "(II)I"⟩
abbrev cX8_right : ByteArray := prog_1_method_7_code
def yX8_right : MethodName := ⟨RX8, "right", "(II)I"⟩
abbrev cX8_shaped : ByteArray := prog_1_method_8_code
def yX8_shaped : MethodName := ⟨RX8, "shaped", "(II)I"⟩
abbrev cX8_write : ByteArray := prog_1_method_9_code
def yX8_write : MethodName := ⟨RX8, "write", "(IJ)I"⟩
abbrev cX8_wipe : ByteArray := prog_1_method_10_code
def yX8_wipe : MethodName := ⟨RX8, "wipe", "()I"⟩
abbrev cX8_fault : ByteArray := prog_1_method_11_code
def yX8_fault : MethodName := ⟨RX8, "fault", "()I"⟩
abbrev cX8_force : ByteArray := prog_1_method_12_code
def yX8_force : MethodName := ⟨RX8, "force", "()I"⟩
abbrev cX8_rule : ByteArray := prog_1_method_13_code
def yX8_rule : MethodName := ⟨RX8, "rule", "(II)I"⟩
abbrev cX8_why : ByteArray := prog_1_method_14_code
def yX8_why : MethodName := ⟨RX8, "why", "(II)I"⟩
abbrev cX8_quarrel : ByteArray := prog_1_method_15_code
def yX8_quarrel : MethodName := ⟨RX8, "quarrel", "()I"⟩
abbrev cX8_misread : ByteArray := prog_1_method_16_code
def yX8_misread : MethodName := ⟨RX8, "misread", "(III)I"⟩
abbrev cX8_read : ByteArray := prog_1_method_17_code
def yX8_read : MethodName := ⟨RX8, "read", "(II)I"⟩
abbrev cX8_words : ByteArray := prog_1_method_18_code
def yX8_words : MethodName := ⟨RX8, "words", "(III)I"⟩
abbrev cX8_who : ByteArray := prog_1_method_19_code
def yX8_who : MethodName := ⟨RX8, "who", "(II)I"⟩
abbrev cX8_mayBe : ByteArray := prog_1_method_20_code
def yX8_mayBe : MethodName := ⟨RX8, "mayBe", "(II)Z"⟩
abbrev cX8_countOfMaybe : ByteArray := prog_1_method_21_code
def yX8_countOfMaybe : MethodName := ⟨RX8, "countOfMaybe", "(I)I"⟩
abbrev cX8_rankOfMaybe : ByteArray := prog_1_method_22_code
def yX8_rankOfMaybe : MethodName := ⟨RX8, "rankOfMaybe", "(II)I"⟩
abbrev cX8_give : ByteArray := prog_1_method_23_code
def yX8_give : MethodName := ⟨RX8, "give", "(II)I"⟩
abbrev cX8_split : ByteArray := prog_1_method_24_code
def yX8_split : MethodName := ⟨RX8, "split", "(II)I"⟩
abbrev cX8_ask : ByteArray := prog_1_method_25_code
def yX8_ask : MethodName := ⟨RX8, "ask", "(III)I"⟩
abbrev cX8_pass : ByteArray := prog_1_method_26_code
def yX8_pass : MethodName := ⟨RX8, "pass", "(III)I"⟩
abbrev cX8_code : ByteArray := prog_1_method_27_code
def yX8_code : MethodName := ⟨RX8, "code", "(II)I"⟩
abbrev cX8_lead : ByteArray := prog_1_method_28_code
def yX8_lead : MethodName := ⟨RX8, "lead", "(II)I"⟩
abbrev cX8_renameAll : ByteArray := prog_1_method_29_code
def yX8_renameAll : MethodName := ⟨RX8, "renameAll", "(III)V"⟩
abbrev cX8_bestHalf : ByteArray := prog_1_method_30_code
def yX8_bestHalf : MethodName := ⟨RX8, "bestHalf", "(II)I"⟩
abbrev cX8_keyOfHalves : ByteArray := prog_1_method_31_code
def yX8_keyOfHalves : MethodName := ⟨RX8, "keyOfHalves", "(III)I"⟩
abbrev cX8_lowestFreeWord : ByteArray := prog_1_method_32_code
def yX8_lowestFreeWord : MethodName := ⟨RX8, "lowestFreeWord", "(I)I"⟩
abbrev cX8_costOfAsk : ByteArray := prog_1_method_33_code
def yX8_costOfAsk : MethodName := ⟨RX8, "costOfAsk", "(III)I"⟩
abbrev cX8_rounds : ByteArray := prog_1_method_34_code
def yX8_rounds : MethodName := ⟨RX8, "rounds", "(III)I"⟩
abbrev cX8_fullYear : ByteArray := prog_1_method_35_code
def yX8_fullYear : MethodName := ⟨RX8, "fullYear", "(II)I"⟩
abbrev cX8_edition : ByteArray := prog_1_method_36_code
def yX8_edition : MethodName := ⟨RX8, "edition", "()I"⟩
abbrev cX8_book : ByteArray := prog_1_method_37_code
def yX8_book : MethodName := ⟨RX8, "book", "(II)I"⟩
abbrev cX8_wrong : ByteArray := prog_1_method_38_code
def yX8_wrong : MethodName := ⟨RX8, "wrong", "(II)I"⟩
abbrev cX8_keep : ByteArray := prog_1_method_39_code
def yX8_keep : MethodName := ⟨RX8, "keep", "()I"⟩
abbrev cX8_back : ByteArray := prog_1_method_40_code
def yX8_back : MethodName := ⟨RX8, "back", "()I"⟩
abbrev cX8_count : ByteArray := prog_1_method_41_code
def yX8_count : MethodName := ⟨RX8, "count", "(I)I"⟩
abbrev cX8_within : ByteArray := prog_1_method_42_code
def yX8_within : MethodName := ⟨RX8, "within", "(III)Z"⟩
abbrev cX8_isDay : ByteArray := prog_1_method_43_code
def yX8_isDay : MethodName := ⟨RX8, "isDay", "(I)Z"⟩
abbrev cX8_isLetter : ByteArray := prog_1_method_44_code
def yX8_isLetter : MethodName := ⟨RX8, "isLetter", "(I)Z"⟩
abbrev cX8_isWord : ByteArray := prog_1_method_45_code
def yX8_isWord : MethodName := ⟨RX8, "isWord", "(I)Z"⟩
abbrev cX8_hasSide : ByteArray := prog_1_method_46_code
def yX8_hasSide : MethodName := ⟨RX8, "hasSide", "(II)Z"⟩
abbrev cX8_isSide : ByteArray := prog_1_method_47_code
def yX8_isSide : MethodName := ⟨RX8, "isSide", "(I)Z"⟩
abbrev cX8_isShape : ByteArray := prog_1_method_48_code
def yX8_isShape : MethodName := ⟨RX8, "isShape", "(I)Z"⟩
abbrev cX8_isEdition : ByteArray := prog_1_method_49_code
def yX8_isEdition : MethodName := ⟨RX8, "isEdition", "(I)Z"⟩
abbrev cX8_canBeWorded : ByteArray := prog_1_method_50_code
def yX8_canBeWorded : MethodName := ⟨RX8, "canBeWorded", "(I)Z"⟩
abbrev cX8_forgetShaped : ByteArray := prog_1_method_51_code
def yX8_forgetShaped : MethodName := ⟨RX8, "forgetShaped", "()V"⟩
def RX9 : String := "DoorCodesModel"
def TX9 : u_T := fun k => match k with
  | 0 => ("DoorCodesModel", "sideMany", "I", false)
  | 1 => ("DoorCodesModel", "doorsOf", "[I", true)
  | 2 => ("DoorCodesModel", "growthOf", "[I", true)
  | 3 => ("DoorCodesModel", "lengthOf", "[I", true)
  | 4 => ("DoorCodesModel", "mailOf", "[I", true)
  | 5 => ("DoorCodesModel", "links", "[I", true)
  | 6 => ("DoorCodesModel", "length", "I", false)
  | 7 => ("DoorCodesModel", "text", "[I", true)
  | 8 => ("DoorCodesModel", "itemMany", "[I", true)
  | 9 => ("DoorCodesModel", "items", "[I", true)
  | 10 => ("DoorCodesModel", "misreads", "[I", true)
  | 11 => ("DoorCodesModel", "words", "[I", true)
  | 12 => ("DoorCodesModel", "until", "[I", true)
  | 13 => ("DoorCodesModel", "latest", "[I", true)
  | 14 => ("DoorCodesModel", "editionMany", "[I", true)
  | 15 => ("DoorCodesModel", "editions", "[I", true)
  | 16 => ("DoorCodesModel", "keptMany", "I", false)
  | 17 => ("DoorCodesModel", "from", "[I", true)
  | 18 => ("DoorCodesModel", "at", "I", false)
  | 19 => ("DoorCodesModel", "one", "I", false)
  | 20 => ("DoorCodesModel", "two", "I", false)
  | 21 => ("DoorCodesModel", "isGood", "[Z", true)
  | 22 => ("DoorCodesModel", "fewest", "[I", true)
  | 23 => ("DoorCodesModel", "walks", "[I", true)
  | 24 => ("DoorCodesModel", "shapeOf", "[I", true)
  | 25 => ("DoorCodesModel", "shapeMany", "I", false)
  | 26 => ("DoorCodesModel", "shapes", "[I", true)
  | 27 => ("DoorCodesModel", "bestHarm", "I", false)
  | 28 => ("DoorCodesModel", "bestWords", "[I", true)
  | 29 => ("DoorCodesModel", "tryWords", "[I", true)
  | 30 => ("DoorCodesModel", "cost", "I", false)
  | 31 => ("DoorCodesModel", "codeMany", "I", false)
  | 32 => ("DoorCodesModel", "codes", "[I", true)
  | 33 => ("DoorCodesModel", "weights", "[I", true)
  | 34 => ("DoorCodesModel", "roundMany", "[I", true)
  | _ => ("DoorCodesModel", "heaviest", "[I", true)
def tyX9 : Nat → FieldType := fun k => match k with
  | 0 => .int
  | 1 => .array .int
  | 2 => .array .int
  | 3 => .array .int
  | 4 => .array .int
  | 5 => .array .int
  | 6 => .int
  | 7 => .array .int
  | 8 => .array .int
  | 9 => .array .int
  | 10 => .array .int
  | 11 => .array .int
  | 12 => .array .int
  | 13 => .array .int
  | 14 => .array .int
  | 15 => .array .int
  | 16 => .int
  | 17 => .array .int
  | 18 => .int
  | 19 => .int
  | 20 => .int
  | 21 => .array .boolean
  | 22 => .array .int
  | 23 => .array .int
  | 24 => .array .int
  | 25 => .int
  | 26 => .array .int
  | 27 => .int
  | 28 => .array .int
  | 29 => .array .int
  | 30 => .int
  | 31 => .int
  | 32 => .array .int
  | 33 => .array .int
  | 34 => .array .int
  | _ => .array .int
theorem nmX9 : ∀ a, a < 36 → ∀ b, b < 36 → a ≠ b → (TX9 a).2.1 ≠ (TX9 b).2.1 := by decide +kernel
theorem tyX9_ok : ∀ k, k < 36 → parseFieldDescriptor (TX9 k).2.2.1 = some (tyX9 k) := by decide +kernel
abbrev cX9_init : ByteArray := prog_11_method_1_code
def yX9_init : MethodName := ⟨RX9, "<init>", "()V"⟩
abbrev cX9_in : ByteArray := prog_11_method_2_code
def yX9_in : MethodName := ⟨RX9, "in", "(JJJ)Z"⟩
abbrev cX9_has : ByteArray := prog_11_method_3_code
def yX9_has : MethodName := ⟨RX9, "has", "(II)Z"⟩
abbrev cX9_bits : ByteArray := prog_11_method_4_code
def yX9_bits : MethodName := ⟨RX9, "bits", "(I)I"⟩
abbrev cX9_isDay : ByteArray := prog_11_method_5_code
def yX9_isDay : MethodName := ⟨RX9, "isDay", "(I)Z"⟩
abbrev cX9_isSide : ByteArray := prog_11_method_6_code
def yX9_isSide : MethodName := ⟨RX9, "isSide", "(I)Z"⟩
abbrev cX9_all : ByteArray := prog_11_method_7_code
def yX9_all : MethodName := ⟨RX9, "all", "()I"⟩
abbrev cX9_isShape : ByteArray := prog_11_method_8_code
def yX9_isShape : MethodName := ⟨RX9, "isShape", "(I)Z"⟩
abbrev cX9_areGiven : ByteArray := prog_11_method_9_code
def yX9_areGiven : MethodName := ⟨RX9, "areGiven", "()Z"⟩
abbrev cX9_side : ByteArray := prog_11_method_10_code
def yX9_side : MethodName := ⟨RX9, "side", "(IIII)I"⟩
abbrev cX9_link : ByteArray := prog_11_method_11_code
def yX9_link : MethodName := ⟨RX9, "link", "(III)I"⟩
abbrev cX9_doorsAt : ByteArray := prog_11_method_12_code
def yX9_doorsAt : MethodName := ⟨RX9, "doorsAt", "(II)I"⟩
abbrev cX9_doors : ByteArray := prog_11_method_13_code
def yX9_doors : MethodName := ⟨RX9, "doors", "(II)I"⟩
abbrev cX9_doorsIn : ByteArray := prog_11_method_14_code
def yX9_doorsIn : MethodName := ⟨RX9, "doorsIn", "(II)I"⟩
abbrev cX9_layFrom : ByteArray := prog_11_method_15_code
def yX9_layFrom : MethodName := ⟨RX9, "layFrom", "()V"⟩
abbrev cX9_walkOf : ByteArray := prog_11_method_16_code
def yX9_walkOf : MethodName := ⟨RX9, "walkOf", "(I)I"⟩
abbrev cX9_walk : ByteArray := prog_11_method_17_code
def yX9_walk : MethodName := ⟨RX9, "walk", "(I)I"⟩
abbrev cX9_row : ByteArray := prog_11_method_18_code
def yX9_row : MethodName := ⟨RX9, "row", "(II)I"⟩
abbrev cX9_write : ByteArray := prog_11_method_19_code
def yX9_write : MethodName := ⟨RX9, "write", "(IJ)I"⟩
abbrev cX9_wipe : ByteArray := prog_11_method_20_code
def yX9_wipe : MethodName := ⟨RX9, "wipe", "()I"⟩
abbrev cX9_number : ByteArray := prog_11_method_21_code
def yX9_number : MethodName := ⟨RX9, "number", "(I)I"⟩
abbrev cX9_item : ByteArray := prog_11_method_22_code
def yX9_item : MethodName := ⟨RX9, "item", "()Z"⟩
abbrev cX9_readAll : ByteArray := prog_11_method_23_code
def yX9_readAll : MethodName := ⟨RX9, "readAll", "()I"⟩
abbrev cX9_fault : ByteArray := prog_11_method_24_code
def yX9_fault : MethodName := ⟨RX9, "fault", "()I"⟩
abbrev cX9_force : ByteArray := prog_11_method_25_code
def yX9_force : MethodName := ⟨RX9, "force", "()I"⟩
abbrev cX9_letterOf : ByteArray := prog_11_method_26_code
def yX9_letterOf : MethodName := ⟨RX9, "letterOf", "(I)I"⟩
abbrev cX9_whyOf : ByteArray := prog_11_method_27_code
def yX9_whyOf : MethodName := ⟨RX9, "whyOf", "(II)I"⟩
abbrev cX9_ruleOf : ByteArray := prog_11_method_28_code
def yX9_ruleOf : MethodName := ⟨RX9, "ruleOf", "(II)I"⟩
abbrev cX9_rule : ByteArray := prog_11_method_29_code
def yX9_rule : MethodName := ⟨RX9, "rule", "(II)I"⟩
abbrev cX9_why : ByteArray := prog_11_method_30_code
def yX9_why : MethodName := ⟨RX9, "why", "(II)I"⟩
abbrev cX9_quarrels : ByteArray := prog_11_method_31_code
def yX9_quarrels : MethodName := ⟨RX9, "quarrels", "(II)Z"⟩
abbrev cX9_quarrel : ByteArray := prog_11_method_32_code
def yX9_quarrel : MethodName := ⟨RX9, "quarrel", "()I"⟩
abbrev cX9_isRight : ByteArray := prog_11_method_33_code
def yX9_isRight : MethodName := ⟨RX9, "isRight", "(II)Z"⟩
abbrev cX9_right : ByteArray := prog_11_method_34_code
def yX9_right : MethodName := ⟨RX9, "right", "(II)I"⟩
abbrev cX9_layShapes : ByteArray := prog_11_method_35_code
def yX9_layShapes : MethodName := ⟨RX9, "layShapes", "(I)Z"⟩
abbrev cX9_bar : ByteArray := prog_11_method_36_code
def yX9_bar : MethodName := ⟨RX9, "bar", "()I"⟩
abbrev cX9_shaped : ByteArray := prog_11_method_37_code
def yX9_shaped : MethodName := ⟨RX9, "shaped", "(II)I"⟩
abbrev cX9_missed : ByteArray := prog_11_method_38_code
def yX9_missed : MethodName := ⟨RX9, "missed", "(I)I"⟩
abbrev cX9_misread : ByteArray := prog_11_method_39_code
def yX9_misread : MethodName := ⟨RX9, "misread", "(III)I"⟩
abbrev cX9_readLetter : ByteArray := prog_11_method_40_code
def yX9_readLetter : MethodName := ⟨RX9, "readLetter", "(II)I"⟩
abbrev cX9_readAs : ByteArray := prog_11_method_41_code
def yX9_readAs : MethodName := ⟨RX9, "readAs", "(II)I"⟩
abbrev cX9_isWord : ByteArray := prog_11_method_42_code
def yX9_isWord : MethodName := ⟨RX9, "isWord", "(I)Z"⟩
abbrev cX9_read : ByteArray := prog_11_method_43_code
def yX9_read : MethodName := ⟨RX9, "read", "(II)I"⟩
abbrev cX9_mayStand : ByteArray := prog_11_method_44_code
def yX9_mayStand : MethodName := ⟨RX9, "mayStand", "(I)Z"⟩
abbrev cX9_areLinked : ByteArray := prog_11_method_45_code
def yX9_areLinked : MethodName := ⟨RX9, "areLinked", "(II)Z"⟩
abbrev cX9_layWords : ByteArray := prog_11_method_46_code
def yX9_layWords : MethodName := ⟨RX9, "layWords", "(I)Z"⟩
abbrev cX9_words : ByteArray := prog_11_method_47_code
def yX9_words : MethodName := ⟨RX9, "words", "(III)I"⟩
abbrev cX9_isAlive : ByteArray := prog_11_method_48_code
def yX9_isAlive : MethodName := ⟨RX9, "isAlive", "(I)Z"⟩
abbrev cX9_who : ByteArray := prog_11_method_49_code
def yX9_who : MethodName := ⟨RX9, "who", "(II)I"⟩
abbrev cX9_codeOf : ByteArray := prog_11_method_50_code
def yX9_codeOf : MethodName := ⟨RX9, "codeOf", "(I)I"⟩
abbrev cX9_get : ByteArray := prog_11_method_51_code
def yX9_get : MethodName := ⟨RX9, "get", "(III)V"⟩
abbrev cX9_give : ByteArray := prog_11_method_52_code
def yX9_give : MethodName := ⟨RX9, "give", "(II)I"⟩
abbrev cX9_leadOf : ByteArray := prog_11_method_53_code
def yX9_leadOf : MethodName := ⟨RX9, "leadOf", "(II)I"⟩
abbrev cX9_size : ByteArray := prog_11_method_54_code
def yX9_size : MethodName := ⟨RX9, "size", "(I)I"⟩
abbrev cX9_split : ByteArray := prog_11_method_55_code
def yX9_split : MethodName := ⟨RX9, "split", "(II)I"⟩
abbrev cX9_mayPass : ByteArray := prog_11_method_56_code
def yX9_mayPass : MethodName := ⟨RX9, "mayPass", "(III)Z"⟩
abbrev cX9_isAsk : ByteArray := prog_11_method_57_code
def yX9_isAsk : MethodName := ⟨RX9, "isAsk", "(III)Z"⟩
abbrev cX9_ask : ByteArray := prog_11_method_58_code
def yX9_ask : MethodName := ⟨RX9, "ask", "(III)I"⟩
abbrev cX9_pass : ByteArray := prog_11_method_59_code
def yX9_pass : MethodName := ⟨RX9, "pass", "(III)I"⟩
abbrev cX9_code : ByteArray := prog_11_method_60_code
def yX9_code : MethodName := ⟨RX9, "code", "(II)I"⟩
abbrev cX9_lead : ByteArray := prog_11_method_61_code
def yX9_lead : MethodName := ⟨RX9, "lead", "(II)I"⟩
abbrev cX9_layCodes : ByteArray := prog_11_method_62_code
def yX9_layCodes : MethodName := ⟨RX9, "layCodes", "(I)V"⟩
abbrev cX9_weightOf : ByteArray := prog_11_method_63_code
def yX9_weightOf : MethodName := ⟨RX9, "weightOf", "(I)I"⟩
abbrev cX9_rounds : ByteArray := prog_11_method_64_code
def yX9_rounds : MethodName := ⟨RX9, "rounds", "(III)I"⟩
abbrev cX9_fullYear : ByteArray := prog_11_method_65_code
def yX9_fullYear : MethodName := ⟨RX9, "fullYear", "(II)I"⟩
abbrev cX9_edition : ByteArray := prog_11_method_66_code
def yX9_edition : MethodName := ⟨RX9, "edition", "()I"⟩
abbrev cX9_book : ByteArray := prog_11_method_67_code
def yX9_book : MethodName := ⟨RX9, "book", "(II)I"⟩
abbrev cX9_wrong : ByteArray := prog_11_method_68_code
def yX9_wrong : MethodName := ⟨RX9, "wrong", "(II)I"⟩
abbrev cX9_copy : ByteArray := prog_11_method_69_code
def yX9_copy : MethodName := ⟨RX9, "copy", "(II)V"⟩
abbrev cX9_keep : ByteArray := prog_11_method_70_code
def yX9_keep : MethodName := ⟨RX9, "keep", "()I"⟩
abbrev cX9_back : ByteArray := prog_11_method_71_code
def yX9_back : MethodName := ⟨RX9, "back", "()I"⟩
abbrev cX9_count : ByteArray := prog_11_method_72_code
def yX9_count : MethodName := ⟨RX9, "count", "(I)I"⟩
def RJ9 : String := "java/lang/Math"
abbrev cJ9_abs_0f7a4 : ByteArray := prog_12_method_59_code
def yJ9_abs_0f7a4 : MethodName := ⟨RJ9, "abs", "(I)I"⟩
abbrev cJ9_max_7cf53 : ByteArray := prog_12_method_65_code
def yJ9_max_7cf53 : MethodName := ⟨RJ9, "max", "(II)I"⟩
abbrev cJ9_min_7cf53 : ByteArray := prog_12_method_69_code
def yJ9_min_7cf53 : MethodName := ⟨RJ9, "min", "(II)I"⟩
def RJ10 : String := "java/lang/System"
def RJ7 : String := "java/util/Arrays"
abbrev cJ7_fill_53178 : ByteArray := prog_14_method_103_code
def yJ7_fill_53178 : MethodName := ⟨RJ7, "fill", "([II)V"⟩
def RL : String := "DoorCodesLaw"
abbrev cL_law : ByteArray := code
def yL_law : MethodName := ⟨RL, "law", "([I)Z"⟩
abbrev vwCl : List vw_C := [(RX0, TX0, 4), (RX1, TX1, 1), (RX2, TX2, 4), (RX3, TX3, 9), (RX4, TX4, 9), (RX5, TX5, 2), (RX6, TX6, 5), (RX7, TX7, 14), (RX8, TX8, 11), (RX9, TX9, 36)]
