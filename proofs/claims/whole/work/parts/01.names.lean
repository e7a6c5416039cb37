-- ===== PART A: goes FIRST, ahead of the names: the tables' words, and 'selects' of the private methods out of them =====
/-- a private method of a class that the tables say can be made, by its rows of tables_1 -/
def lw_okq (q : MethodName × Nat) : Prop := (q.1.cls ≠ "java/lang/invoke/MethodHandle" ∧ q.1.cls ≠ "java/lang/invoke/VarHandle") ∧ Cond.instantiable q.1.cls q.2 ∈ tables_1 ∧ Cond.privateMethod q.1 ∈ tables_1 ∧ Cond.instanceMethod q.1 ∈ tables_1
theorem lw_p0 : lw_okq (⟨"MilestonesOn", "found", "(I)I"⟩, 16) := ⟨⟨by decide +kernel, by decide +kernel⟩, List.mem_of_getElem? (i := 18) (by decide +kernel), List.mem_of_getElem? (i := 261) (by decide +kernel), List.mem_of_getElem? (i := 262) (by decide +kernel)⟩
theorem lw_p1 : lw_okq (⟨"MilestonesOn", "refusePlace", "([LMilestonesOn$Row;II)I"⟩, 16) := ⟨⟨by decide +kernel, by decide +kernel⟩, List.mem_of_getElem? (i := 18) (by decide +kernel), List.mem_of_getElem? (i := 280) (by decide +kernel), List.mem_of_getElem? (i := 281) (by decide +kernel)⟩
theorem lw_p2 : lw_okq (⟨"MilestonesOn", "refuseMissing", "([LMilestonesOn$Row;I)I"⟩, 16) := ⟨⟨by decide +kernel, by decide +kernel⟩, List.mem_of_getElem? (i := 18) (by decide +kernel), List.mem_of_getElem? (i := 284) (by decide +kernel), List.mem_of_getElem? (i := 285) (by decide +kernel)⟩
theorem lw_p3 : lw_okq (⟨"MilestonesOn$Reader", "skipBlanks", "()V"⟩, 3) := ⟨⟨by decide +kernel, by decide +kernel⟩, List.mem_of_getElem? (i := 344) (by decide +kernel), List.mem_of_getElem? (i := 367) (by decide +kernel), List.mem_of_getElem? (i := 368) (by decide +kernel)⟩
theorem lw_p4 : lw_okq (⟨"MilestonesOn$Reader", "readPosts", "()Z"⟩, 3) := ⟨⟨by decide +kernel, by decide +kernel⟩, List.mem_of_getElem? (i := 344) (by decide +kernel), List.mem_of_getElem? (i := 372) (by decide +kernel), List.mem_of_getElem? (i := 373) (by decide +kernel)⟩
theorem lw_p5 : lw_okq (⟨"MilestonesOn$Reader", "sign", "()I"⟩, 3) := ⟨⟨by decide +kernel, by decide +kernel⟩, List.mem_of_getElem? (i := 344) (by decide +kernel), List.mem_of_getElem? (i := 376) (by decide +kernel), List.mem_of_getElem? (i := 377) (by decide +kernel)⟩
theorem lw_p6 : lw_okq (⟨"MilestonesOn$Reader", "isFigure", "(II)Z"⟩, 3) := ⟨⟨by decide +kernel, by decide +kernel⟩, List.mem_of_getElem? (i := 344) (by decide +kernel), List.mem_of_getElem? (i := 381) (by decide +kernel), List.mem_of_getElem? (i := 382) (by decide +kernel)⟩
theorem lw_p7 : lw_okq (⟨"MilestonesOn$Reader", "takeFigure", "()I"⟩, 3) := ⟨⟨by decide +kernel, by decide +kernel⟩, List.mem_of_getElem? (i := 344) (by decide +kernel), List.mem_of_getElem? (i := 385) (by decide +kernel), List.mem_of_getElem? (i := 386) (by decide +kernel)⟩
theorem lw_p8 : lw_okq (⟨"MilestonesOn$Reader", "readStone", "()Z"⟩, 3) := ⟨⟨by decide +kernel, by decide +kernel⟩, List.mem_of_getElem? (i := 344) (by decide +kernel), List.mem_of_getElem? (i := 389) (by decide +kernel), List.mem_of_getElem? (i := 390) (by decide +kernel)⟩
theorem lw_p9 : lw_okq (⟨"MilestonesOn$Reader", "readWalker", "()Z"⟩, 3) := ⟨⟨by decide +kernel, by decide +kernel⟩, List.mem_of_getElem? (i := 344) (by decide +kernel), List.mem_of_getElem? (i := 410) (by decide +kernel), List.mem_of_getElem? (i := 411) (by decide +kernel)⟩
theorem lw_p10 : lw_okq (⟨"MilestonesOn", "ofStone", "(II)I"⟩, 16) := ⟨⟨by decide +kernel, by decide +kernel⟩, List.mem_of_getElem? (i := 18) (by decide +kernel), List.mem_of_getElem? (i := 512) (by decide +kernel), List.mem_of_getElem? (i := 513) (by decide +kernel)⟩
theorem lw_p11 : lw_okq (⟨"MilestonesOn", "allMoves", "(I)I"⟩, 16) := ⟨⟨by decide +kernel, by decide +kernel⟩, List.mem_of_getElem? (i := 18) (by decide +kernel), List.mem_of_getElem? (i := 522) (by decide +kernel), List.mem_of_getElem? (i := 523) (by decide +kernel)⟩
theorem lw_p12 : lw_okq (⟨"MilestonesOn", "ofWalker", "(II)I"⟩, 16) := ⟨⟨by decide +kernel, by decide +kernel⟩, List.mem_of_getElem? (i := 18) (by decide +kernel), List.mem_of_getElem? (i := 535) (by decide +kernel), List.mem_of_getElem? (i := 536) (by decide +kernel)⟩
theorem lw_p13 : lw_okq (⟨"MilestonesOn", "allPay", "(I)I"⟩, 16) := ⟨⟨by decide +kernel, by decide +kernel⟩, List.mem_of_getElem? (i := 18) (by decide +kernel), List.mem_of_getElem? (i := 563) (by decide +kernel), List.mem_of_getElem? (i := 564) (by decide +kernel)⟩
theorem lw_p14 : lw_okq (⟨"MilestonesOn$Thief", "chosen", "(LMilestonesOn$Trip;)I"⟩, 2) := ⟨⟨by decide +kernel, by decide +kernel⟩, List.mem_of_getElem? (i := 476) (by decide +kernel), List.mem_of_getElem? (i := 661) (by decide +kernel), List.mem_of_getElem? (i := 662) (by decide +kernel)⟩
theorem lw_p15 : lw_okq (⟨"MilestonesOn", "doWalk", "(I)I"⟩, 16) := ⟨⟨by decide +kernel, by decide +kernel⟩, List.mem_of_getElem? (i := 18) (by decide +kernel), List.mem_of_getElem? (i := 682) (by decide +kernel), List.mem_of_getElem? (i := 683) (by decide +kernel)⟩
def lw_privs_1 : List (MethodName × Nat) := [(⟨"MilestonesOn", "found", "(I)I"⟩, 16), (⟨"MilestonesOn", "refusePlace", "([LMilestonesOn$Row;II)I"⟩, 16), (⟨"MilestonesOn", "refuseMissing", "([LMilestonesOn$Row;I)I"⟩, 16), (⟨"MilestonesOn$Reader", "skipBlanks", "()V"⟩, 3), (⟨"MilestonesOn$Reader", "readPosts", "()Z"⟩, 3), (⟨"MilestonesOn$Reader", "sign", "()I"⟩, 3), (⟨"MilestonesOn$Reader", "isFigure", "(II)Z"⟩, 3), (⟨"MilestonesOn$Reader", "takeFigure", "()I"⟩, 3), (⟨"MilestonesOn$Reader", "readStone", "()Z"⟩, 3), (⟨"MilestonesOn$Reader", "readWalker", "()Z"⟩, 3), (⟨"MilestonesOn", "ofStone", "(II)I"⟩, 16), (⟨"MilestonesOn", "allMoves", "(I)I"⟩, 16), (⟨"MilestonesOn", "ofWalker", "(II)I"⟩, 16), (⟨"MilestonesOn", "allPay", "(I)I"⟩, 16), (⟨"MilestonesOn$Thief", "chosen", "(LMilestonesOn$Trip;)I"⟩, 2), (⟨"MilestonesOn", "doWalk", "(I)I"⟩, 16)]
theorem lw_r1 : ∀ q ∈ lw_privs_1, lw_okq q := List.forall_mem_cons.mpr ⟨lw_p0, List.forall_mem_cons.mpr ⟨lw_p1, List.forall_mem_cons.mpr ⟨lw_p2, List.forall_mem_cons.mpr ⟨lw_p3, List.forall_mem_cons.mpr ⟨lw_p4, List.forall_mem_cons.mpr ⟨lw_p5, List.forall_mem_cons.mpr ⟨lw_p6, List.forall_mem_cons.mpr ⟨lw_p7, List.forall_mem_cons.mpr ⟨lw_p8, List.forall_mem_cons.mpr ⟨lw_p9, List.forall_mem_cons.mpr ⟨lw_p10, List.forall_mem_cons.mpr ⟨lw_p11, List.forall_mem_cons.mpr ⟨lw_p12, List.forall_mem_cons.mpr ⟨lw_p13, List.forall_mem_cons.mpr ⟨lw_p14, List.forall_mem_cons.mpr ⟨lw_p15, fun _ h => absurd h List.not_mem_nil⟩⟩⟩⟩⟩⟩⟩⟩⟩⟩⟩⟩⟩⟩⟩⟩
theorem lw_p16 : lw_okq (⟨"MilestonesOn", "isSeenFrom", "(LMilestonesOn$Row;I)Z"⟩, 16) := ⟨⟨by decide +kernel, by decide +kernel⟩, List.mem_of_getElem? (i := 18) (by decide +kernel), List.mem_of_getElem? (i := 768) (by decide +kernel), List.mem_of_getElem? (i := 769) (by decide +kernel)⟩
theorem lw_p17 : lw_okq (⟨"MilestonesOn$Search", "firstRow", "()V"⟩, 17) := ⟨⟨by decide +kernel, by decide +kernel⟩, List.mem_of_getElem? (i := 122) (by decide +kernel), List.mem_of_getElem? (i := 788) (by decide +kernel), List.mem_of_getElem? (i := 789) (by decide +kernel)⟩
theorem lw_p18 : lw_okq (⟨"MilestonesOn$Search", "gather", "(I)V"⟩, 17) := ⟨⟨by decide +kernel, by decide +kernel⟩, List.mem_of_getElem? (i := 122) (by decide +kernel), List.mem_of_getElem? (i := 798) (by decide +kernel), List.mem_of_getElem? (i := 799) (by decide +kernel)⟩
theorem lw_p19 : lw_okq (⟨"MilestonesOn$Search", "nextRow", "(I)V"⟩, 17) := ⟨⟨by decide +kernel, by decide +kernel⟩, List.mem_of_getElem? (i := 122) (by decide +kernel), List.mem_of_getElem? (i := 802) (by decide +kernel), List.mem_of_getElem? (i := 803) (by decide +kernel)⟩
theorem lw_p20 : lw_okq (⟨"MilestonesOn$Search", "explore", "()V"⟩, 17) := ⟨⟨by decide +kernel, by decide +kernel⟩, List.mem_of_getElem? (i := 122) (by decide +kernel), List.mem_of_getElem? (i := 830) (by decide +kernel), List.mem_of_getElem? (i := 831) (by decide +kernel)⟩
theorem lw_p21 : lw_okq (⟨"MilestonesOn$Search", "clearRoom", "()V"⟩, 17) := ⟨⟨by decide +kernel, by decide +kernel⟩, List.mem_of_getElem? (i := 122) (by decide +kernel), List.mem_of_getElem? (i := 834) (by decide +kernel), List.mem_of_getElem? (i := 835) (by decide +kernel)⟩
theorem lw_p22 : lw_okq (⟨"MilestonesOn$Search", "reach", "(III)V"⟩, 17) := ⟨⟨by decide +kernel, by decide +kernel⟩, List.mem_of_getElem? (i := 122) (by decide +kernel), List.mem_of_getElem? (i := 838) (by decide +kernel), List.mem_of_getElem? (i := 839) (by decide +kernel)⟩
theorem lw_p23 : lw_okq (⟨"MilestonesOn$Search", "isIn", "(I)Z"⟩, 17) := ⟨⟨by decide +kernel, by decide +kernel⟩, List.mem_of_getElem? (i := 122) (by decide +kernel), List.mem_of_getElem? (i := 842) (by decide +kernel), List.mem_of_getElem? (i := 843) (by decide +kernel)⟩
theorem lw_p24 : lw_okq (⟨"MilestonesOn$Search", "figuresOf", "(I)I"⟩, 17) := ⟨⟨by decide +kernel, by decide +kernel⟩, List.mem_of_getElem? (i := 122) (by decide +kernel), List.mem_of_getElem? (i := 911) (by decide +kernel), List.mem_of_getElem? (i := 912) (by decide +kernel)⟩
theorem lw_p25 : lw_okq (⟨"MilestonesOn", "refuseStanding", "(I)I"⟩, 16) := ⟨⟨by decide +kernel, by decide +kernel⟩, List.mem_of_getElem? (i := 18) (by decide +kernel), List.mem_of_getElem? (i := 919) (by decide +kernel), List.mem_of_getElem? (i := 920) (by decide +kernel)⟩
theorem lw_p26 : lw_okq (⟨"MilestonesOn", "standingOf", "(LMilestonesOn$Row;)I"⟩, 16) := ⟨⟨by decide +kernel, by decide +kernel⟩, List.mem_of_getElem? (i := 18) (by decide +kernel), List.mem_of_getElem? (i := 923) (by decide +kernel), List.mem_of_getElem? (i := 924) (by decide +kernel)⟩
theorem lw_p27 : lw_okq (⟨"MilestonesOn$Search", "compareRowsTo", "(II)V"⟩, 17) := ⟨⟨by decide +kernel, by decide +kernel⟩, List.mem_of_getElem? (i := 122) (by decide +kernel), List.mem_of_getElem? (i := 932) (by decide +kernel), List.mem_of_getElem? (i := 933) (by decide +kernel)⟩
theorem lw_p28 : lw_okq (⟨"MilestonesOn$Search", "walkersOf", "(I)I"⟩, 17) := ⟨⟨by decide +kernel, by decide +kernel⟩, List.mem_of_getElem? (i := 122) (by decide +kernel), List.mem_of_getElem? (i := 936) (by decide +kernel), List.mem_of_getElem? (i := 937) (by decide +kernel)⟩
theorem lw_p29 : lw_okq (⟨"MilestonesOn", "tellFraction", "(II)V"⟩, 16) := ⟨⟨by decide +kernel, by decide +kernel⟩, List.mem_of_getElem? (i := 18) (by decide +kernel), List.mem_of_getElem? (i := 954) (by decide +kernel), List.mem_of_getElem? (i := 955) (by decide +kernel)⟩
theorem lw_p30 : lw_okq (⟨"MilestonesOn", "digestKept", "(J)J"⟩, 16) := ⟨⟨by decide +kernel, by decide +kernel⟩, List.mem_of_getElem? (i := 18) (by decide +kernel), List.mem_of_getElem? (i := 1012) (by decide +kernel), List.mem_of_getElem? (i := 1013) (by decide +kernel)⟩
theorem lw_p31 : lw_okq (⟨"MilestonesOnModel", "find", "(I)I"⟩, 51) := ⟨⟨by decide +kernel, by decide +kernel⟩, List.mem_of_getElem? (i := 1019) (by decide +kernel), List.mem_of_getElem? (i := 1192) (by decide +kernel), List.mem_of_getElem? (i := 1193) (by decide +kernel)⟩
def lw_privs_2 : List (MethodName × Nat) := [(⟨"MilestonesOn", "isSeenFrom", "(LMilestonesOn$Row;I)Z"⟩, 16), (⟨"MilestonesOn$Search", "firstRow", "()V"⟩, 17), (⟨"MilestonesOn$Search", "gather", "(I)V"⟩, 17), (⟨"MilestonesOn$Search", "nextRow", "(I)V"⟩, 17), (⟨"MilestonesOn$Search", "explore", "()V"⟩, 17), (⟨"MilestonesOn$Search", "clearRoom", "()V"⟩, 17), (⟨"MilestonesOn$Search", "reach", "(III)V"⟩, 17), (⟨"MilestonesOn$Search", "isIn", "(I)Z"⟩, 17), (⟨"MilestonesOn$Search", "figuresOf", "(I)I"⟩, 17), (⟨"MilestonesOn", "refuseStanding", "(I)I"⟩, 16), (⟨"MilestonesOn", "standingOf", "(LMilestonesOn$Row;)I"⟩, 16), (⟨"MilestonesOn$Search", "compareRowsTo", "(II)V"⟩, 17), (⟨"MilestonesOn$Search", "walkersOf", "(I)I"⟩, 17), (⟨"MilestonesOn", "tellFraction", "(II)V"⟩, 16), (⟨"MilestonesOn", "digestKept", "(J)J"⟩, 16), (⟨"MilestonesOnModel", "find", "(I)I"⟩, 51)]
theorem lw_r2 : ∀ q ∈ lw_privs_2, lw_okq q := List.forall_mem_cons.mpr ⟨lw_p16, List.forall_mem_cons.mpr ⟨lw_p17, List.forall_mem_cons.mpr ⟨lw_p18, List.forall_mem_cons.mpr ⟨lw_p19, List.forall_mem_cons.mpr ⟨lw_p20, List.forall_mem_cons.mpr ⟨lw_p21, List.forall_mem_cons.mpr ⟨lw_p22, List.forall_mem_cons.mpr ⟨lw_p23, List.forall_mem_cons.mpr ⟨lw_p24, List.forall_mem_cons.mpr ⟨lw_p25, List.forall_mem_cons.mpr ⟨lw_p26, List.forall_mem_cons.mpr ⟨lw_p27, List.forall_mem_cons.mpr ⟨lw_p28, List.forall_mem_cons.mpr ⟨lw_p29, List.forall_mem_cons.mpr ⟨lw_p30, List.forall_mem_cons.mpr ⟨lw_p31, fun _ h => absurd h List.not_mem_nil⟩⟩⟩⟩⟩⟩⟩⟩⟩⟩⟩⟩⟩⟩⟩⟩
theorem lw_p32 : lw_okq (⟨"MilestonesOnModel", "makes", "(II)V"⟩, 51) := ⟨⟨by decide +kernel, by decide +kernel⟩, List.mem_of_getElem? (i := 1019) (by decide +kernel), List.mem_of_getElem? (i := 1196) (by decide +kernel), List.mem_of_getElem? (i := 1197) (by decide +kernel)⟩
theorem lw_p33 : lw_okq (⟨"MilestonesOnModel", "lacks", "(II)I"⟩, 51) := ⟨⟨by decide +kernel, by decide +kernel⟩, List.mem_of_getElem? (i := 1019) (by decide +kernel), List.mem_of_getElem? (i := 1204) (by decide +kernel), List.mem_of_getElem? (i := 1205) (by decide +kernel)⟩
theorem lw_p34 : lw_okq (⟨"MilestonesOnModel", "tells", "(I)I"⟩, 51) := ⟨⟨by decide +kernel, by decide +kernel⟩, List.mem_of_getElem? (i := 1019) (by decide +kernel), List.mem_of_getElem? (i := 1212) (by decide +kernel), List.mem_of_getElem? (i := 1213) (by decide +kernel)⟩
theorem lw_p35 : lw_okq (⟨"MilestonesOnModel", "reads", "(I)Z"⟩, 51) := ⟨⟨by decide +kernel, by decide +kernel⟩, List.mem_of_getElem? (i := 1019) (by decide +kernel), List.mem_of_getElem? (i := 1244) (by decide +kernel), List.mem_of_getElem? (i := 1245) (by decide +kernel)⟩
theorem lw_p36 : lw_okq (⟨"MilestonesOnModel", "skip", "(I)V"⟩, 51) := ⟨⟨by decide +kernel, by decide +kernel⟩, List.mem_of_getElem? (i := 1019) (by decide +kernel), List.mem_of_getElem? (i := 1248) (by decide +kernel), List.mem_of_getElem? (i := 1249) (by decide +kernel)⟩
theorem lw_p37 : lw_okq (⟨"MilestonesOnModel", "here", "(I)I"⟩, 51) := ⟨⟨by decide +kernel, by decide +kernel⟩, List.mem_of_getElem? (i := 1019) (by decide +kernel), List.mem_of_getElem? (i := 1252) (by decide +kernel), List.mem_of_getElem? (i := 1253) (by decide +kernel)⟩
theorem lw_p38 : lw_okq (⟨"MilestonesOnModel", "figure", "(IIII)I"⟩, 51) := ⟨⟨by decide +kernel, by decide +kernel⟩, List.mem_of_getElem? (i := 1019) (by decide +kernel), List.mem_of_getElem? (i := 1256) (by decide +kernel), List.mem_of_getElem? (i := 1257) (by decide +kernel)⟩
theorem lw_p39 : lw_okq (⟨"MilestonesOnModel", "takesStone", "(I)Z"⟩, 51) := ⟨⟨by decide +kernel, by decide +kernel⟩, List.mem_of_getElem? (i := 1019) (by decide +kernel), List.mem_of_getElem? (i := 1260) (by decide +kernel), List.mem_of_getElem? (i := 1261) (by decide +kernel)⟩
theorem lw_p40 : lw_okq (⟨"MilestonesOnModel", "takesWalker", "(I)Z"⟩, 51) := ⟨⟨by decide +kernel, by decide +kernel⟩, List.mem_of_getElem? (i := 1019) (by decide +kernel), List.mem_of_getElem? (i := 1264) (by decide +kernel), List.mem_of_getElem? (i := 1265) (by decide +kernel)⟩
theorem lw_p41 : lw_okq (⟨"MilestonesOnModel", "clear", "()V"⟩, 51) := ⟨⟨by decide +kernel, by decide +kernel⟩, List.mem_of_getElem? (i := 1019) (by decide +kernel), List.mem_of_getElem? (i := 1275) (by decide +kernel), List.mem_of_getElem? (i := 1276) (by decide +kernel)⟩
theorem lw_p42 : lw_okq (⟨"MilestonesOnModel", "isStone", "(I)Z"⟩, 51) := ⟨⟨by decide +kernel, by decide +kernel⟩, List.mem_of_getElem? (i := 1019) (by decide +kernel), List.mem_of_getElem? (i := 1283) (by decide +kernel), List.mem_of_getElem? (i := 1284) (by decide +kernel)⟩
theorem lw_p43 : lw_okq (⟨"MilestonesOnModel", "home", "(I)I"⟩, 51) := ⟨⟨by decide +kernel, by decide +kernel⟩, List.mem_of_getElem? (i := 1019) (by decide +kernel), List.mem_of_getElem? (i := 1293) (by decide +kernel), List.mem_of_getElem? (i := 1294) (by decide +kernel)⟩
theorem lw_p44 : lw_okq (⟨"MilestonesOnModel", "isWalker", "(I)Z"⟩, 51) := ⟨⟨by decide +kernel, by decide +kernel⟩, List.mem_of_getElem? (i := 1019) (by decide +kernel), List.mem_of_getElem? (i := 1301) (by decide +kernel), List.mem_of_getElem? (i := 1302) (by decide +kernel)⟩
theorem lw_p45 : lw_okq (⟨"MilestonesOnModel", "behind", "(III)I"⟩, 51) := ⟨⟨by decide +kernel, by decide +kernel⟩, List.mem_of_getElem? (i := 1019) (by decide +kernel), List.mem_of_getElem? (i := 1312) (by decide +kernel), List.mem_of_getElem? (i := 1313) (by decide +kernel)⟩
theorem lw_p46 : lw_okq (⟨"MilestonesOnModel", "spread", "(I)V"⟩, 51) := ⟨⟨by decide +kernel, by decide +kernel⟩, List.mem_of_getElem? (i := 1019) (by decide +kernel), List.mem_of_getElem? (i := 1316) (by decide +kernel), List.mem_of_getElem? (i := 1317) (by decide +kernel)⟩
theorem lw_p47 : lw_okq (⟨"MilestonesOnModel", "taken", "(II)I"⟩, 51) := ⟨⟨by decide +kernel, by decide +kernel⟩, List.mem_of_getElem? (i := 1019) (by decide +kernel), List.mem_of_getElem? (i := 1320) (by decide +kernel), List.mem_of_getElem? (i := 1321) (by decide +kernel)⟩
def lw_privs_3 : List (MethodName × Nat) := [(⟨"MilestonesOnModel", "makes", "(II)V"⟩, 51), (⟨"MilestonesOnModel", "lacks", "(II)I"⟩, 51), (⟨"MilestonesOnModel", "tells", "(I)I"⟩, 51), (⟨"MilestonesOnModel", "reads", "(I)Z"⟩, 51), (⟨"MilestonesOnModel", "skip", "(I)V"⟩, 51), (⟨"MilestonesOnModel", "here", "(I)I"⟩, 51), (⟨"MilestonesOnModel", "figure", "(IIII)I"⟩, 51), (⟨"MilestonesOnModel", "takesStone", "(I)Z"⟩, 51), (⟨"MilestonesOnModel", "takesWalker", "(I)Z"⟩, 51), (⟨"MilestonesOnModel", "clear", "()V"⟩, 51), (⟨"MilestonesOnModel", "isStone", "(I)Z"⟩, 51), (⟨"MilestonesOnModel", "home", "(I)I"⟩, 51), (⟨"MilestonesOnModel", "isWalker", "(I)Z"⟩, 51), (⟨"MilestonesOnModel", "behind", "(III)I"⟩, 51), (⟨"MilestonesOnModel", "spread", "(I)V"⟩, 51), (⟨"MilestonesOnModel", "taken", "(II)I"⟩, 51)]
theorem lw_r3 : ∀ q ∈ lw_privs_3, lw_okq q := List.forall_mem_cons.mpr ⟨lw_p32, List.forall_mem_cons.mpr ⟨lw_p33, List.forall_mem_cons.mpr ⟨lw_p34, List.forall_mem_cons.mpr ⟨lw_p35, List.forall_mem_cons.mpr ⟨lw_p36, List.forall_mem_cons.mpr ⟨lw_p37, List.forall_mem_cons.mpr ⟨lw_p38, List.forall_mem_cons.mpr ⟨lw_p39, List.forall_mem_cons.mpr ⟨lw_p40, List.forall_mem_cons.mpr ⟨lw_p41, List.forall_mem_cons.mpr ⟨lw_p42, List.forall_mem_cons.mpr ⟨lw_p43, List.forall_mem_cons.mpr ⟨lw_p44, List.forall_mem_cons.mpr ⟨lw_p45, List.forall_mem_cons.mpr ⟨lw_p46, List.forall_mem_cons.mpr ⟨lw_p47, fun _ h => absurd h List.not_mem_nil⟩⟩⟩⟩⟩⟩⟩⟩⟩⟩⟩⟩⟩⟩⟩⟩
theorem lw_p48 : lw_okq (⟨"MilestonesOnModel", "isAhead", "(IIII)Z"⟩, 51) := ⟨⟨by decide +kernel, by decide +kernel⟩, List.mem_of_getElem? (i := 1019) (by decide +kernel), List.mem_of_getElem? (i := 1324) (by decide +kernel), List.mem_of_getElem? (i := 1325) (by decide +kernel)⟩
theorem lw_p49 : lw_okq (⟨"MilestonesOnModel", "put", "(II)V"⟩, 51) := ⟨⟨by decide +kernel, by decide +kernel⟩, List.mem_of_getElem? (i := 1019) (by decide +kernel), List.mem_of_getElem? (i := 1331) (by decide +kernel), List.mem_of_getElem? (i := 1332) (by decide +kernel)⟩
theorem lw_p50 : lw_okq (⟨"MilestonesOnModel", "carries", "(IIIIZ)V"⟩, 51) := ⟨⟨by decide +kernel, by decide +kernel⟩, List.mem_of_getElem? (i := 1019) (by decide +kernel), List.mem_of_getElem? (i := 1335) (by decide +kernel), List.mem_of_getElem? (i := 1336) (by decide +kernel)⟩
theorem lw_p51 : lw_okq (⟨"MilestonesOnModel", "walks1", "(I)I"⟩, 51) := ⟨⟨by decide +kernel, by decide +kernel⟩, List.mem_of_getElem? (i := 1019) (by decide +kernel), List.mem_of_getElem? (i := 1348) (by decide +kernel), List.mem_of_getElem? (i := 1349) (by decide +kernel)⟩
theorem lw_p52 : lw_okq (⟨"MilestonesOnModel", "apartOf", "(I)I"⟩, 51) := ⟨⟨by decide +kernel, by decide +kernel⟩, List.mem_of_getElem? (i := 1019) (by decide +kernel), List.mem_of_getElem? (i := 1356) (by decide +kernel), List.mem_of_getElem? (i := 1357) (by decide +kernel)⟩
theorem lw_p53 : lw_okq (⟨"MilestonesOnModel", "isHome", "(II)Z"⟩, 51) := ⟨⟨by decide +kernel, by decide +kernel⟩, List.mem_of_getElem? (i := 1019) (by decide +kernel), List.mem_of_getElem? (i := 1376) (by decide +kernel), List.mem_of_getElem? (i := 1377) (by decide +kernel)⟩
theorem lw_p54 : lw_okq (⟨"MilestonesOnModel", "isPost", "(I)Z"⟩, 51) := ⟨⟨by decide +kernel, by decide +kernel⟩, List.mem_of_getElem? (i := 1019) (by decide +kernel), List.mem_of_getElem? (i := 1392) (by decide +kernel), List.mem_of_getElem? (i := 1393) (by decide +kernel)⟩
theorem lw_p55 : lw_okq (⟨"MilestonesOnModel", "seen", "(II)I"⟩, 51) := ⟨⟨by decide +kernel, by decide +kernel⟩, List.mem_of_getElem? (i := 1019) (by decide +kernel), List.mem_of_getElem? (i := 1396) (by decide +kernel), List.mem_of_getElem? (i := 1397) (by decide +kernel)⟩
theorem lw_p56 : lw_okq (⟨"MilestonesOnModel", "meets", "(I)V"⟩, 51) := ⟨⟨by decide +kernel, by decide +kernel⟩, List.mem_of_getElem? (i := 1019) (by decide +kernel), List.mem_of_getElem? (i := 1409) (by decide +kernel), List.mem_of_getElem? (i := 1410) (by decide +kernel)⟩
theorem lw_p57 : lw_okq (⟨"MilestonesOnModel", "power", "(I)I"⟩, 51) := ⟨⟨by decide +kernel, by decide +kernel⟩, List.mem_of_getElem? (i := 1019) (by decide +kernel), List.mem_of_getElem? (i := 1413) (by decide +kernel), List.mem_of_getElem? (i := 1414) (by decide +kernel)⟩
theorem lw_p58 : lw_okq (⟨"MilestonesOnModel", "behindRow", "(II)I"⟩, 51) := ⟨⟨by decide +kernel, by decide +kernel⟩, List.mem_of_getElem? (i := 1019) (by decide +kernel), List.mem_of_getElem? (i := 1417) (by decide +kernel), List.mem_of_getElem? (i := 1418) (by decide +kernel)⟩
theorem lw_p59 : lw_okq (⟨"MilestonesOnModel", "fewestBy", "(I)I"⟩, 51) := ⟨⟨by decide +kernel, by decide +kernel⟩, List.mem_of_getElem? (i := 1019) (by decide +kernel), List.mem_of_getElem? (i := 1429) (by decide +kernel), List.mem_of_getElem? (i := 1430) (by decide +kernel)⟩
theorem lw_p60 : lw_okq (⟨"MilestonesOnModel", "goesOut", "(I)V"⟩, 51) := ⟨⟨by decide +kernel, by decide +kernel⟩, List.mem_of_getElem? (i := 1019) (by decide +kernel), List.mem_of_getElem? (i := 1433) (by decide +kernel), List.mem_of_getElem? (i := 1434) (by decide +kernel)⟩
theorem lw_p61 : lw_okq (⟨"MilestonesOnModel", "isDone", "(I)Z"⟩, 51) := ⟨⟨by decide +kernel, by decide +kernel⟩, List.mem_of_getElem? (i := 1019) (by decide +kernel), List.mem_of_getElem? (i := 1437) (by decide +kernel), List.mem_of_getElem? (i := 1438) (by decide +kernel)⟩
theorem lw_p62 : lw_okq (⟨"MilestonesOnModel", "bars", "(I)I"⟩, 51) := ⟨⟨by decide +kernel, by decide +kernel⟩, List.mem_of_getElem? (i := 1019) (by decide +kernel), List.mem_of_getElem? (i := 1470) (by decide +kernel), List.mem_of_getElem? (i := 1471) (by decide +kernel)⟩
theorem lw_p63 : lw_okq (⟨"MilestonesOnModel", "fewestTo", "()I"⟩, 51) := ⟨⟨by decide +kernel, by decide +kernel⟩, List.mem_of_getElem? (i := 1019) (by decide +kernel), List.mem_of_getElem? (i := 1474) (by decide +kernel), List.mem_of_getElem? (i := 1475) (by decide +kernel)⟩
def lw_privs_4 : List (MethodName × Nat) := [(⟨"MilestonesOnModel", "isAhead", "(IIII)Z"⟩, 51), (⟨"MilestonesOnModel", "put", "(II)V"⟩, 51), (⟨"MilestonesOnModel", "carries", "(IIIIZ)V"⟩, 51), (⟨"MilestonesOnModel", "walks1", "(I)I"⟩, 51), (⟨"MilestonesOnModel", "apartOf", "(I)I"⟩, 51), (⟨"MilestonesOnModel", "isHome", "(II)Z"⟩, 51), (⟨"MilestonesOnModel", "isPost", "(I)Z"⟩, 51), (⟨"MilestonesOnModel", "seen", "(II)I"⟩, 51), (⟨"MilestonesOnModel", "meets", "(I)V"⟩, 51), (⟨"MilestonesOnModel", "power", "(I)I"⟩, 51), (⟨"MilestonesOnModel", "behindRow", "(II)I"⟩, 51), (⟨"MilestonesOnModel", "fewestBy", "(I)I"⟩, 51), (⟨"MilestonesOnModel", "goesOut", "(I)V"⟩, 51), (⟨"MilestonesOnModel", "isDone", "(I)Z"⟩, 51), (⟨"MilestonesOnModel", "bars", "(I)I"⟩, 51), (⟨"MilestonesOnModel", "fewestTo", "()I"⟩, 51)]
theorem lw_r4 : ∀ q ∈ lw_privs_4, lw_okq q := List.forall_mem_cons.mpr ⟨lw_p48, List.forall_mem_cons.mpr ⟨lw_p49, List.forall_mem_cons.mpr ⟨lw_p50, List.forall_mem_cons.mpr ⟨lw_p51, List.forall_mem_cons.mpr ⟨lw_p52, List.forall_mem_cons.mpr ⟨lw_p53, List.forall_mem_cons.mpr ⟨lw_p54, List.forall_mem_cons.mpr ⟨lw_p55, List.forall_mem_cons.mpr ⟨lw_p56, List.forall_mem_cons.mpr ⟨lw_p57, List.forall_mem_cons.mpr ⟨lw_p58, List.forall_mem_cons.mpr ⟨lw_p59, List.forall_mem_cons.mpr ⟨lw_p60, List.forall_mem_cons.mpr ⟨lw_p61, List.forall_mem_cons.mpr ⟨lw_p62, List.forall_mem_cons.mpr ⟨lw_p63, fun _ h => absurd h List.not_mem_nil⟩⟩⟩⟩⟩⟩⟩⟩⟩⟩⟩⟩⟩⟩⟩⟩
theorem lw_p64 : lw_okq (⟨"MilestonesOnModel", "looks", "(II)V"⟩, 51) := ⟨⟨by decide +kernel, by decide +kernel⟩, List.mem_of_getElem? (i := 1019) (by decide +kernel), List.mem_of_getElem? (i := 1478) (by decide +kernel), List.mem_of_getElem? (i := 1479) (by decide +kernel)⟩
theorem lw_p65 : lw_okq (⟨"MilestonesOnModel", "ofKind", "(I)I"⟩, 51) := ⟨⟨by decide +kernel, by decide +kernel⟩, List.mem_of_getElem? (i := 1019) (by decide +kernel), List.mem_of_getElem? (i := 1514) (by decide +kernel), List.mem_of_getElem? (i := 1515) (by decide +kernel)⟩
def lw_privs_5 : List (MethodName × Nat) := [(⟨"MilestonesOnModel", "looks", "(II)V"⟩, 51), (⟨"MilestonesOnModel", "ofKind", "(I)I"⟩, 51)]
theorem lw_r5 : ∀ q ∈ lw_privs_5, lw_okq q := List.forall_mem_cons.mpr ⟨lw_p64, List.forall_mem_cons.mpr ⟨lw_p65, fun _ h => absurd h List.not_mem_nil⟩⟩
def lw_privs : List (MethodName × Nat) := lw_privs_1 ++ (lw_privs_2 ++ (lw_privs_3 ++ (lw_privs_4 ++ (lw_privs_5))))
def lw_tbl : List Cond := k2_sels lw_privs ++ tables_1
theorem lw_privs_ok : ∀ q ∈ lw_privs, lw_okq q := by
  show ∀ q ∈ lw_privs_1 ++ (lw_privs_2 ++ (lw_privs_3 ++ (lw_privs_4 ++ (lw_privs_5)))), lw_okq q
  exact List.forall_mem_append.mpr ⟨lw_r1, List.forall_mem_append.mpr ⟨lw_r2, List.forall_mem_append.mpr ⟨lw_r3, List.forall_mem_append.mpr ⟨lw_r4, lw_r5⟩⟩⟩⟩
def RX0 : String := "MilestonesOn$Both"
def TX0 : u_T := fun k => match k with
  | 0 => ("MilestonesOn$Walker", "start", "I", true)
  | _ => ("MilestonesOn$Walker", "end", "I", true)
def tyX0 : Nat → FieldType := fun k => match k with
  | 0 => .int
  | _ => .int
theorem nmX0 : ∀ a, a < 2 → ∀ b, b < 2 → a ≠ b → (TX0 a).2.1 ≠ (TX0 b).2.1 := by decide +kernel
theorem tyX0_ok : ∀ k, k < 2 → parseFieldDescriptor (TX0 k).2.2.1 = some (tyX0 k) := by decide +kernel
abbrev cX0_init : ByteArray := prog_2_method_1_code
def yX0_init : MethodName := ⟨RX0, "<init>", "(II)V"⟩
abbrev cX0_kind : ByteArray := prog_2_method_2_code
def yX0_kind : MethodName := ⟨RX0, "kind", "()I"⟩
abbrev cX0_go : ByteArray := prog_2_method_3_code
def yX0_go : MethodName := ⟨RX0, "go", "(LMilestonesOn$Trip;)V"⟩
abbrev cX0_tell : ByteArray := prog_2_method_4_code
def yX0_tell : MethodName := ⟨RX0, "tell", "(ILMilestonesOn$Trip;)I"⟩
def RX1 : String := "MilestonesOn$Cart"
def TX1 : u_T := fun k => match k with
  | 0 => ("MilestonesOn$Walker", "start", "I", true)
  | _ => ("MilestonesOn$Walker", "end", "I", true)
def tyX1 : Nat → FieldType := fun k => match k with
  | 0 => .int
  | _ => .int
theorem nmX1 : ∀ a, a < 2 → ∀ b, b < 2 → a ≠ b → (TX1 a).2.1 ≠ (TX1 b).2.1 := by decide +kernel
theorem tyX1_ok : ∀ k, k < 2 → parseFieldDescriptor (TX1 k).2.2.1 = some (tyX1 k) := by decide +kernel
abbrev cX1_init : ByteArray := prog_3_method_1_code
def yX1_init : MethodName := ⟨RX1, "<init>", "(II)V"⟩
abbrev cX1_kind : ByteArray := prog_3_method_2_code
def yX1_kind : MethodName := ⟨RX1, "kind", "()I"⟩
abbrev cX1_go : ByteArray := prog_3_method_3_code
def yX1_go : MethodName := ⟨RX1, "go", "(LMilestonesOn$Trip;)V"⟩
abbrev cX1_tell : ByteArray := prog_3_method_4_code
def yX1_tell : MethodName := ⟨RX1, "tell", "(ILMilestonesOn$Trip;)I"⟩
def RX2 : String := "MilestonesOn$Lame"
def TX2 : u_T := fun k => match k with
  | 0 => ("MilestonesOn$Walker", "start", "I", true)
  | _ => ("MilestonesOn$Walker", "end", "I", true)
def tyX2 : Nat → FieldType := fun k => match k with
  | 0 => .int
  | _ => .int
theorem nmX2 : ∀ a, a < 2 → ∀ b, b < 2 → a ≠ b → (TX2 a).2.1 ≠ (TX2 b).2.1 := by decide +kernel
theorem tyX2_ok : ∀ k, k < 2 → parseFieldDescriptor (TX2 k).2.2.1 = some (tyX2 k) := by decide +kernel
abbrev cX2_init : ByteArray := prog_4_method_1_code
def yX2_init : MethodName := ⟨RX2, "<init>", "(II)V"⟩
abbrev cX2_kind : ByteArray := prog_4_method_2_code
def yX2_kind : MethodName := ⟨RX2, "kind", "()I"⟩
abbrev cX2_go : ByteArray := prog_4_method_3_code
def yX2_go : MethodName := ⟨RX2, "go", "(LMilestonesOn$Trip;)V"⟩
abbrev cX2_tell : ByteArray := prog_4_method_4_code
def yX2_tell : MethodName := ⟨RX2, "tell", "(ILMilestonesOn$Trip;)I"⟩
def RX3 : String := "MilestonesOn$Pilgrim"
def TX3 : u_T := fun k => match k with
  | 0 => ("MilestonesOn$Walker", "start", "I", true)
  | _ => ("MilestonesOn$Walker", "end", "I", true)
def tyX3 : Nat → FieldType := fun k => match k with
  | 0 => .int
  | _ => .int
theorem nmX3 : ∀ a, a < 2 → ∀ b, b < 2 → a ≠ b → (TX3 a).2.1 ≠ (TX3 b).2.1 := by decide +kernel
theorem tyX3_ok : ∀ k, k < 2 → parseFieldDescriptor (TX3 k).2.2.1 = some (tyX3 k) := by decide +kernel
abbrev cX3_init : ByteArray := prog_5_method_1_code
def yX3_init : MethodName := ⟨RX3, "<init>", "(II)V"⟩
abbrev cX3_kind : ByteArray := prog_5_method_2_code
def yX3_kind : MethodName := ⟨RX3, "kind", "()I"⟩
abbrev cX3_goalFrom : ByteArray := prog_5_method_3_code
def yX3_goalFrom : MethodName := ⟨RX3, "goalFrom", "(II)I"⟩
abbrev cX3_tell : ByteArray := prog_5_method_4_code
def yX3_tell : MethodName := ⟨RX3, "tell", "(ILMilestonesOn$Trip;)I"⟩
def RX4 : String := "MilestonesOn$Reader"
def TX4 : u_T := fun k => match k with
  | 0 => ("MilestonesOn$Reader", "road", "LMilestonesOn$Road;", true)
  | 1 => ("MilestonesOn$Reader", "text", "LMilestonesOn$Row;", true)
  | _ => ("MilestonesOn$Reader", "place", "I", false)
def tyX4 : Nat → FieldType := fun k => match k with
  | 0 => .object "MilestonesOn$Road"
  | 1 => .object "MilestonesOn$Row"
  | _ => .int
theorem nmX4 : ∀ a, a < 3 → ∀ b, b < 3 → a ≠ b → (TX4 a).2.1 ≠ (TX4 b).2.1 := by decide +kernel
theorem tyX4_ok : ∀ k, k < 3 → parseFieldDescriptor (TX4 k).2.2.1 = some (tyX4 k) := by decide +kernel
abbrev cX4_init : ByteArray := prog_6_method_1_code
def yX4_init : MethodName := ⟨RX4, "<init>", "(LMilestonesOn$Row;)V"⟩
abbrev cX4_read : ByteArray := prog_6_method_2_code
def yX4_read : MethodName := ⟨RX4, "read", "()I"⟩
abbrev cX4_sign : ByteArray := prog_6_method_3_code
def yX4_sign : MethodName := ⟨RX4, "sign", "()I"⟩
abbrev cX4_skipBlanks : ByteArray := prog_6_method_4_code
def yX4_skipBlanks : MethodName := ⟨RX4, "skipBlanks", "()V"⟩
abbrev cX4_isFigure : ByteArray := prog_6_method_5_code
def yX4_isFigure : MethodName := ⟨RX4, "isFigure", "(II)Z"⟩
abbrev cX4_takeFigure : ByteArray := prog_6_method_6_code
def yX4_takeFigure : MethodName := ⟨RX4, "takeFigure", "()I"⟩
abbrev cX4_readPosts : ByteArray := prog_6_method_7_code
def yX4_readPosts : MethodName := ⟨RX4, "readPosts", "()Z"⟩
abbrev cX4_readStone : ByteArray := prog_6_method_8_code
def yX4_readStone : MethodName := ⟨RX4, "readStone", "()Z"⟩
abbrev cX4_readWalker : ByteArray := prog_6_method_9_code
def yX4_readWalker : MethodName := ⟨RX4, "readWalker", "()Z"⟩
abbrev cX4_isWalker : ByteArray := prog_6_method_10_code
def yX4_isWalker : MethodName := ⟨RX4, "isWalker", "(I)Z"⟩
abbrev cX4_make : ByteArray := prog_6_method_11_code
def yX4_make : MethodName := ⟨RX4, "make", "(III)LMilestonesOn$Walker;"⟩
def RX5 : String := "MilestonesOn$Road"
def TX5 : u_T := fun k => match k with
  | 0 => ("MilestonesOn$Road", "numbers", "[I", true)
  | 1 => ("MilestonesOn$Road", "homes", "[I", true)
  | 2 => ("MilestonesOn$Road", "waysHome", "[I", true)
  | 3 => ("MilestonesOn$Road", "folk", "[LMilestonesOn$Walker;", true)
  | 4 => ("MilestonesOn$Road", "posts", "I", false)
  | 5 => ("MilestonesOn$Road", "stones", "I", false)
  | 6 => ("MilestonesOn$Road", "walkers", "I", false)
  | 7 => ("MilestonesOn$Road", "start", "I", false)
  | 8 => ("MilestonesOn$Road", "homeBits", "I", false)
  | _ => ("MilestonesOn$Road", "homeStanding", "I", false)
def tyX5 : Nat → FieldType := fun k => match k with
  | 0 => .array .int
  | 1 => .array .int
  | 2 => .array .int
  | 3 => .array (.object "MilestonesOn$Walker")
  | 4 => .int
  | 5 => .int
  | 6 => .int
  | 7 => .int
  | 8 => .int
  | _ => .int
theorem nmX5 : ∀ a, a < 10 → ∀ b, b < 10 → a ≠ b → (TX5 a).2.1 ≠ (TX5 b).2.1 := by decide +kernel
theorem tyX5_ok : ∀ k, k < 10 → parseFieldDescriptor (TX5 k).2.2.1 = some (tyX5 k) := by decide +kernel
abbrev cX5_init : ByteArray := prog_7_method_1_code
def yX5_init : MethodName := ⟨RX5, "<init>", "()V"⟩
abbrev cX5_postOf : ByteArray := prog_7_method_2_code
def yX5_postOf : MethodName := ⟨RX5, "postOf", "(II)I"⟩
abbrev cX5_withPost : ByteArray := prog_7_method_3_code
def yX5_withPost : MethodName := ⟨RX5, "withPost", "(III)I"⟩
abbrev cX5_tellPost : ByteArray := prog_7_method_4_code
def yX5_tellPost : MethodName := ⟨RX5, "tellPost", "(II)I"⟩
abbrev cX5_addStone : ByteArray := prog_7_method_5_code
def yX5_addStone : MethodName := ⟨RX5, "addStone", "(II)V"⟩
abbrev cX5_wayBetween : ByteArray := prog_7_method_6_code
def yX5_wayBetween : MethodName := ⟨RX5, "wayBetween", "(II)I"⟩
abbrev cX5_addWalker : ByteArray := prog_7_method_7_code
def yX5_addWalker : MethodName := ⟨RX5, "addWalker", "(LMilestonesOn$Walker;)V"⟩
abbrev cX5_walkerAt : ByteArray := prog_7_method_8_code
def yX5_walkerAt : MethodName := ⟨RX5, "walkerAt", "(I)LMilestonesOn$Walker;"⟩
abbrev cX5_hasNumber : ByteArray := prog_7_method_9_code
def yX5_hasNumber : MethodName := ⟨RX5, "hasNumber", "(I)Z"⟩
abbrev cX5_turnOf : ByteArray := prog_7_method_10_code
def yX5_turnOf : MethodName := ⟨RX5, "turnOf", "(III)I"⟩
abbrev cX5_isAllHome : ByteArray := prog_7_method_11_code
def yX5_isAllHome : MethodName := ⟨RX5, "isAllHome", "(I)Z"⟩
abbrev cX5_farFromHome : ByteArray := prog_7_method_12_code
def yX5_farFromHome : MethodName := ⟨RX5, "farFromHome", "(I)I"⟩
abbrev cX5_homeOf : ByteArray := prog_7_method_13_code
def yX5_homeOf : MethodName := ⟨RX5, "homeOf", "(I)I"⟩
abbrev cX5_lostOf : ByteArray := prog_7_method_14_code
def yX5_lostOf : MethodName := ⟨RX5, "lostOf", "(I)I"⟩
abbrev cX5_heapAt : ByteArray := prog_7_method_15_code
def yX5_heapAt : MethodName := ⟨RX5, "heapAt", "(II)I"⟩
abbrev cX5_leastAt : ByteArray := prog_7_method_16_code
def yX5_leastAt : MethodName := ⟨RX5, "leastAt", "(II)I"⟩
abbrev cX5_fullestPost : ByteArray := prog_7_method_17_code
def yX5_fullestPost : MethodName := ⟨RX5, "fullestPost", "(I)I"⟩
abbrev cX5_bothWays : ByteArray := prog_7_method_18_code
def yX5_bothWays : MethodName := ⟨RX5, "bothWays", "()I"⟩
abbrev cX5_lameOnes : ByteArray := prog_7_method_19_code
def yX5_lameOnes : MethodName := ⟨RX5, "lameOnes", "()I"⟩
def RX6 : String := "MilestonesOn$Row"
def TX6 : u_T := fun k => match k with
  | 0 => ("MilestonesOn$Row", "places", "[I", true)
  | _ => ("MilestonesOn$Row", "size", "I", false)
def tyX6 : Nat → FieldType := fun k => match k with
  | 0 => .array .int
  | _ => .int
theorem nmX6 : ∀ a, a < 2 → ∀ b, b < 2 → a ≠ b → (TX6 a).2.1 ≠ (TX6 b).2.1 := by decide +kernel
theorem tyX6_ok : ∀ k, k < 2 → parseFieldDescriptor (TX6 k).2.2.1 = some (tyX6 k) := by decide +kernel
abbrev cX6_init : ByteArray := prog_8_method_1_code
def yX6_init : MethodName := ⟨RX6, "<init>", "()V"⟩
abbrev cX6_isMissing : ByteArray := prog_8_method_2_code
def yX6_isMissing : MethodName := ⟨RX6, "isMissing", "()Z"⟩
abbrev cX6_has : ByteArray := prog_8_method_3_code
def yX6_has : MethodName := ⟨RX6, "has", "(I)Z"⟩
abbrev cX6_hasPart : ByteArray := prog_8_method_4_code
def yX6_hasPart : MethodName := ⟨RX6, "hasPart", "(II)Z"⟩
abbrev cX6_get : ByteArray := prog_8_method_5_code
def yX6_get : MethodName := ⟨RX6, "get", "(I)I"⟩
abbrev cX6_set : ByteArray := prog_8_method_6_code
def yX6_set : MethodName := ⟨RX6, "set", "(II)V"⟩
abbrev cX6_begin : ByteArray := prog_8_method_7_code
def yX6_begin : MethodName := ⟨RX6, "begin", "(II)V"⟩
abbrev cX6_remove : ByteArray := prog_8_method_8_code
def yX6_remove : MethodName := ⟨RX6, "remove", "()V"⟩
def RX7 : String := "MilestonesOn$Search"
def TX7 : u_T := fun k => match k with
  | 0 => ("MilestonesOn$Search", "trip", "LMilestonesOn$Trip;", true)
  | 1 => ("MilestonesOn$Search", "tried", "[I", true)
  | 2 => ("MilestonesOn$Search", "ends", "[I", true)
  | 3 => ("MilestonesOn$Search", "alike", "[I", true)
  | 4 => ("MilestonesOn$Search", "road", "LMilestonesOn$Road;", false)
  | 5 => ("MilestonesOn$Search", "start", "I", false)
  | 6 => ("MilestonesOn$Search", "law", "I", false)
  | 7 => ("MilestonesOn$Search", "explored", "Z", false)
  | 8 => ("MilestonesOn$Search", "far", "[I", false)
  | 9 => ("MilestonesOn$Search", "links", "[I", false)
  | 10 => ("MilestonesOn$Search", "queue", "[I", false)
  | 11 => ("MilestonesOn$Search", "reached", "I", false)
  | 12 => ("MilestonesOn$Search", "gathered", "I", false)
  | 13 => ("MilestonesOn$Search", "dearestRow", "I", false)
  | 14 => ("MilestonesOn$Search", "rowsThere", "I", false)
  | 15 => ("MilestonesOn$Search", "beginners", "I", false)
  | _ => ("MilestonesOn$Search", "inEvery", "I", false)
def tyX7 : Nat → FieldType := fun k => match k with
  | 0 => .object "MilestonesOn$Trip"
  | 1 => .array .int
  | 2 => .array .int
  | 3 => .array .int
  | 4 => .object "MilestonesOn$Road"
  | 5 => .int
  | 6 => .int
  | 7 => .boolean
  | 8 => .array .int
  | 9 => .array .int
  | 10 => .array .int
  | 11 => .int
  | 12 => .int
  | 13 => .int
  | 14 => .int
  | 15 => .int
  | _ => .int
theorem nmX7 : ∀ a, a < 17 → ∀ b, b < 17 → a ≠ b → (TX7 a).2.1 ≠ (TX7 b).2.1 := by decide +kernel
theorem tyX7_ok : ∀ k, k < 17 → parseFieldDescriptor (TX7 k).2.2.1 = some (tyX7 k) := by decide +kernel
abbrev cX7_init : ByteArray := prog_9_method_1_code
def yX7_init : MethodName := ⟨RX7, "<init>", "(LMilestonesOn$Road;)V"⟩
abbrev cX7_from : ByteArray := prog_9_method_2_code
def yX7_from : MethodName := ⟨RX7, "from", "(LMilestonesOn$Road;II)V"⟩
abbrev cX7_explore : ByteArray := prog_9_method_3_code
def yX7_explore : MethodName := ⟨RX7, "explore", "()V"⟩
abbrev cX7_clearRoom : ByteArray := prog_9_method_4_code
def yX7_clearRoom : MethodName := ⟨RX7, "clearRoom", "()V"⟩
abbrev cX7_reach : ByteArray := prog_9_method_5_code
def yX7_reach : MethodName := ⟨RX7, "reach", "(III)V"⟩
abbrev cX7_isIn : ByteArray := prog_9_method_6_code
def yX7_isIn : MethodName := ⟨RX7, "isIn", "(I)Z"⟩
abbrev cX7_farTo : ByteArray := prog_9_method_7_code
def yX7_farTo : MethodName := ⟨RX7, "farTo", "(I)I"⟩
abbrev cX7_reached : ByteArray := prog_9_method_8_code
def yX7_reached : MethodName := ⟨RX7, "reached", "()I"⟩
abbrev cX7_farthest : ByteArray := prog_9_method_9_code
def yX7_farthest : MethodName := ⟨RX7, "farthest", "()I"⟩
abbrev cX7_firstHome : ByteArray := prog_9_method_10_code
def yX7_firstHome : MethodName := ⟨RX7, "firstHome", "()I"⟩
abbrev cX7_homesAsNear : ByteArray := prog_9_method_11_code
def yX7_homesAsNear : MethodName := ⟨RX7, "homesAsNear", "(I)I"⟩
abbrev cX7_firstWith : ByteArray := prog_9_method_12_code
def yX7_firstWith : MethodName := ⟨RX7, "firstWith", "(II)I"⟩
abbrev cX7_leastApart : ByteArray := prog_9_method_13_code
def yX7_leastApart : MethodName := ⟨RX7, "leastApart", "()I"⟩
abbrev cX7_layWay : ByteArray := prog_9_method_14_code
def yX7_layWay : MethodName := ⟨RX7, "layWay", "(ILMilestonesOn$Row;)V"⟩
abbrev cX7_rowsOf : ByteArray := prog_9_method_15_code
def yX7_rowsOf : MethodName := ⟨RX7, "rowsOf", "(I)I"⟩
abbrev cX7_firstRow : ByteArray := prog_9_method_16_code
def yX7_firstRow : MethodName := ⟨RX7, "firstRow", "()V"⟩
abbrev cX7_nextRow : ByteArray := prog_9_method_17_code
def yX7_nextRow : MethodName := ⟨RX7, "nextRow", "(I)V"⟩
abbrev cX7_gatherEnds : ByteArray := prog_9_method_18_code
def yX7_gatherEnds : MethodName := ⟨RX7, "gatherEnds", "(I)I"⟩
abbrev cX7_gather : ByteArray := prog_9_method_19_code
def yX7_gather : MethodName := ⟨RX7, "gather", "(I)V"⟩
abbrev cX7_endAt : ByteArray := prog_9_method_20_code
def yX7_endAt : MethodName := ⟨RX7, "endAt", "(I)I"⟩
abbrev cX7_mostAlike : ByteArray := prog_9_method_21_code
def yX7_mostAlike : MethodName := ⟨RX7, "mostAlike", "(I)I"⟩
abbrev cX7_dearest : ByteArray := prog_9_method_22_code
def yX7_dearest : MethodName := ⟨RX7, "dearest", "(I)I"⟩
abbrev cX7_figuresOf : ByteArray := prog_9_method_23_code
def yX7_figuresOf : MethodName := ⟨RX7, "figuresOf", "(I)I"⟩
abbrev cX7_fewestTo : ByteArray := prog_9_method_24_code
def yX7_fewestTo : MethodName := ⟨RX7, "fewestTo", "(I)I"⟩
abbrev cX7_compareRowsTo : ByteArray := prog_9_method_25_code
def yX7_compareRowsTo : MethodName := ⟨RX7, "compareRowsTo", "(II)V"⟩
abbrev cX7_walkersOf : ByteArray := prog_9_method_26_code
def yX7_walkersOf : MethodName := ⟨RX7, "walkersOf", "(I)I"⟩
abbrev cX7_rowsWith : ByteArray := prog_9_method_27_code
def yX7_rowsWith : MethodName := ⟨RX7, "rowsWith", "(III)I"⟩
def RX8 : String := "MilestonesOn$Thief"
def TX8 : u_T := fun k => match k with
  | 0 => ("MilestonesOn$Walker", "start", "I", true)
  | _ => ("MilestonesOn$Walker", "end", "I", true)
def tyX8 : Nat → FieldType := fun k => match k with
  | 0 => .int
  | _ => .int
theorem nmX8 : ∀ a, a < 2 → ∀ b, b < 2 → a ≠ b → (TX8 a).2.1 ≠ (TX8 b).2.1 := by decide +kernel
theorem tyX8_ok : ∀ k, k < 2 → parseFieldDescriptor (TX8 k).2.2.1 = some (tyX8 k) := by decide +kernel
abbrev cX8_init : ByteArray := prog_10_method_1_code
def yX8_init : MethodName := ⟨RX8, "<init>", "(II)V"⟩
abbrev cX8_kind : ByteArray := prog_10_method_2_code
def yX8_kind : MethodName := ⟨RX8, "kind", "()I"⟩
abbrev cX8_go : ByteArray := prog_10_method_3_code
def yX8_go : MethodName := ⟨RX8, "go", "(LMilestonesOn$Trip;)V"⟩
abbrev cX8_tell : ByteArray := prog_10_method_4_code
def yX8_tell : MethodName := ⟨RX8, "tell", "(ILMilestonesOn$Trip;)I"⟩
abbrev cX8_chosen : ByteArray := prog_10_method_5_code
def yX8_chosen : MethodName := ⟨RX8, "chosen", "(LMilestonesOn$Trip;)I"⟩
def RX9 : String := "MilestonesOn$Trip"
def TX9 : u_T := fun k => match k with
  | 0 => ("MilestonesOn$Trip", "road", "LMilestonesOn$Road;", false)
  | 1 => ("MilestonesOn$Trip", "law", "I", false)
  | 2 => ("MilestonesOn$Trip", "before", "I", false)
  | 3 => ("MilestonesOn$Trip", "standing", "I", false)
  | 4 => ("MilestonesOn$Trip", "by", "I", false)
  | 5 => ("MilestonesOn$Trip", "pay", "I", false)
  | 6 => ("MilestonesOn$Trip", "carried", "I", false)
  | _ => ("MilestonesOn$Trip", "moves", "I", false)
def tyX9 : Nat → FieldType := fun k => match k with
  | 0 => .object "MilestonesOn$Road"
  | 1 => .int
  | 2 => .int
  | 3 => .int
  | 4 => .int
  | 5 => .int
  | 6 => .int
  | _ => .int
theorem nmX9 : ∀ a, a < 8 → ∀ b, b < 8 → a ≠ b → (TX9 a).2.1 ≠ (TX9 b).2.1 := by decide +kernel
theorem tyX9_ok : ∀ k, k < 8 → parseFieldDescriptor (TX9 k).2.2.1 = some (tyX9 k) := by decide +kernel
abbrev cX9_init : ByteArray := prog_11_method_1_code
def yX9_init : MethodName := ⟨RX9, "<init>", "(LMilestonesOn$Road;)V"⟩
abbrev cX9_begin : ByteArray := prog_11_method_2_code
def yX9_begin : MethodName := ⟨RX9, "begin", "(LMilestonesOn$Road;II)V"⟩
abbrev cX9_send : ByteArray := prog_11_method_3_code
def yX9_send : MethodName := ⟨RX9, "send", "(I)V"⟩
abbrev cX9_sendRow : ByteArray := prog_11_method_4_code
def yX9_sendRow : MethodName := ⟨RX9, "sendRow", "([II)V"⟩
abbrev cX9_timesMoved : ByteArray := prog_11_method_5_code
def yX9_timesMoved : MethodName := ⟨RX9, "timesMoved", "(I)I"⟩
abbrev cX9_postNow : ByteArray := prog_11_method_6_code
def yX9_postNow : MethodName := ⟨RX9, "postNow", "(I)I"⟩
abbrev cX9_numberOf : ByteArray := prog_11_method_7_code
def yX9_numberOf : MethodName := ⟨RX9, "numberOf", "(I)I"⟩
abbrev cX9_unmoved : ByteArray := prog_11_method_8_code
def yX9_unmoved : MethodName := ⟨RX9, "unmoved", "()I"⟩
abbrev cX9_firstOn : ByteArray := prog_11_method_9_code
def yX9_firstOn : MethodName := ⟨RX9, "firstOn", "(III)I"⟩
abbrev cX9_carry : ByteArray := prog_11_method_10_code
def yX9_carry : MethodName := ⟨RX9, "carry", "(II)V"⟩
def RX10 : String := "MilestonesOn$Walker"
def TX10 : u_T := fun k => match k with
  | 0 => ("MilestonesOn$Walker", "start", "I", true)
  | _ => ("MilestonesOn$Walker", "end", "I", true)
def tyX10 : Nat → FieldType := fun k => match k with
  | 0 => .int
  | _ => .int
theorem nmX10 : ∀ a, a < 2 → ∀ b, b < 2 → a ≠ b → (TX10 a).2.1 ≠ (TX10 b).2.1 := by decide +kernel
theorem tyX10_ok : ∀ k, k < 2 → parseFieldDescriptor (TX10 k).2.2.1 = some (tyX10 k) := by decide +kernel
abbrev cX10_init : ByteArray := prog_12_method_1_code
def yX10_init : MethodName := ⟨RX10, "<init>", "(II)V"⟩
abbrev cX10_kind : ByteArray := prog_12_method_2_code
def yX10_kind : MethodName := ⟨RX10, "kind", "()I"⟩
abbrev cX10_go : ByteArray := prog_12_method_3_code
def yX10_go : MethodName := ⟨RX10, "go", "(LMilestonesOn$Trip;)V"⟩
abbrev cX10_tell : ByteArray := prog_12_method_4_code
def yX10_tell : MethodName := ⟨RX10, "tell", "(ILMilestonesOn$Trip;)I"⟩
abbrev cX10_goalFrom : ByteArray := prog_12_method_5_code
def yX10_goalFrom : MethodName := ⟨RX10, "goalFrom", "(II)I"⟩
abbrev cX10_goOneWay : ByteArray := prog_12_method_6_code
def yX10_goOneWay : MethodName := ⟨RX10, "goOneWay", "(LMilestonesOn$Trip;II)V"⟩
abbrev cX10_nextTo : ByteArray := prog_12_method_7_code
def yX10_nextTo : MethodName := ⟨RX10, "nextTo", "(II)I"⟩
def RX11 : String := "MilestonesOn"
def TX11 : u_T := fun k => match k with
  | 0 => ("MilestonesOn", "rows", "[LMilestonesOn$Row;", true)
  | 1 => ("MilestonesOn", "texts", "[LMilestonesOn$Row;", true)
  | 2 => ("MilestonesOn", "trips", "[LMilestonesOn$Trip;", true)
  | 3 => ("MilestonesOn", "keptStandings", "[I", true)
  | 4 => ("MilestonesOn", "keptLaws", "[I", true)
  | 5 => ("MilestonesOn", "answered", "[I", true)
  | 6 => ("MilestonesOn", "trial", "LMilestonesOn$Trip;", true)
  | 7 => ("MilestonesOn", "search", "LMilestonesOn$Search;", true)
  | 8 => ("MilestonesOn", "road", "LMilestonesOn$Road;", false)
  | 9 => ("MilestonesOn", "standing", "I", false)
  | 10 => ("MilestonesOn", "law", "I", false)
  | 11 => ("MilestonesOn", "done", "I", false)
  | 12 => ("MilestonesOn", "told", "I", false)
  | 13 => ("MilestonesOn", "upper", "J", false)
  | 14 => ("MilestonesOn", "lower", "J", false)
  | _ => ("MilestonesOn", "latest", "I", false)
def tyX11 : Nat → FieldType := fun k => match k with
  | 0 => .array (.object "MilestonesOn$Row")
  | 1 => .array (.object "MilestonesOn$Row")
  | 2 => .array (.object "MilestonesOn$Trip")
  | 3 => .array .int
  | 4 => .array .int
  | 5 => .array .int
  | 6 => .object "MilestonesOn$Trip"
  | 7 => .object "MilestonesOn$Search"
  | 8 => .object "MilestonesOn$Road"
  | 9 => .int
  | 10 => .int
  | 11 => .int
  | 12 => .int
  | 13 => .long
  | 14 => .long
  | _ => .int
theorem nmX11 : ∀ a, a < 16 → ∀ b, b < 16 → a ≠ b → (TX11 a).2.1 ≠ (TX11 b).2.1 := by decide +kernel
theorem tyX11_ok : ∀ k, k < 16 → parseFieldDescriptor (TX11 k).2.2.1 = some (tyX11 k) := by decide +kernel
abbrev cX11_init : ByteArray := prog_1_method_1_code
def yX11_init : MethodName := ⟨RX11, "<init>", "()V"⟩
abbrev cX11_row : ByteArray := prog_1_method_2_code
def yX11_row : MethodName := ⟨RX11, "row", "(II)I"⟩
abbrev cX11_lay : ByteArray := prog_1_method_3_code
def yX11_lay : MethodName := ⟨RX11, "lay", "(III)I"⟩
abbrev cX11_at : ByteArray := prog_1_method_4_code
def yX11_at : MethodName := ⟨RX11, "at", "(II)I"⟩
abbrev cX11_tear : ByteArray := prog_1_method_5_code
def yX11_tear : MethodName := ⟨RX11, "tear", "(I)I"⟩
abbrev cX11_copy : ByteArray := prog_1_method_6_code
def yX11_copy : MethodName := ⟨RX11, "copy", "(IIIII)I"⟩
abbrev cX11_mean : ByteArray := prog_1_method_7_code
def yX11_mean : MethodName := ⟨RX11, "mean", "(I)I"⟩
abbrev cX11_text : ByteArray := prog_1_method_8_code
def yX11_text : MethodName := ⟨RX11, "text", "(II)I"⟩
abbrev cX11_put : ByteArray := prog_1_method_9_code
def yX11_put : MethodName := ⟨RX11, "put", "(III)I"⟩
abbrev cX11_fault : ByteArray := prog_1_method_10_code
def yX11_fault : MethodName := ⟨RX11, "fault", "(I)I"⟩
abbrev cX11_road : ByteArray := prog_1_method_11_code
def yX11_road : MethodName := ⟨RX11, "road", "(I)I"⟩
abbrev cX11_stone : ByteArray := prog_1_method_12_code
def yX11_stone : MethodName := ⟨RX11, "stone", "(II)I"⟩
abbrev cX11_walker : ByteArray := prog_1_method_13_code
def yX11_walker : MethodName := ⟨RX11, "walker", "(II)I"⟩
abbrev cX11_mark : ByteArray := prog_1_method_14_code
def yX11_mark : MethodName := ⟨RX11, "mark", "(II)I"⟩
abbrev cX11_law : ByteArray := prog_1_method_15_code
def yX11_law : MethodName := ⟨RX11, "law", "(I)I"⟩
abbrev cX11_walk : ByteArray := prog_1_method_16_code
def yX11_walk : MethodName := ⟨RX11, "walk", "(I)I"⟩
abbrev cX11_pays : ByteArray := prog_1_method_17_code
def yX11_pays : MethodName := ⟨RX11, "pays", "(I)I"⟩
abbrev cX11_undo : ByteArray := prog_1_method_18_code
def yX11_undo : MethodName := ⟨RX11, "undo", "(I)I"⟩
abbrev cX11_walks : ByteArray := prog_1_method_19_code
def yX11_walks : MethodName := ⟨RX11, "walks", "(I)I"⟩
abbrev cX11_where : ByteArray := prog_1_method_20_code
def yX11_where : MethodName := ⟨RX11, "where", "(I)I"⟩
abbrev cX11_apart : ByteArray := prog_1_method_21_code
def yX11_apart : MethodName := ⟨RX11, "apart", "()I"⟩
abbrev cX11_keep : ByteArray := prog_1_method_22_code
def yX11_keep : MethodName := ⟨RX11, "keep", "(I)I"⟩
abbrev cX11_on : ByteArray := prog_1_method_23_code
def yX11_on : MethodName := ⟨RX11, "on", "(I)I"⟩
abbrev cX11_sees : ByteArray := prog_1_method_24_code
def yX11_sees : MethodName := ⟨RX11, "sees", "(I)I"⟩
abbrev cX11_may : ByteArray := prog_1_method_25_code
def yX11_may : MethodName := ⟨RX11, "may", "(I)I"⟩
abbrev cX11_standings : ByteArray := prog_1_method_26_code
def yX11_standings : MethodName := ⟨RX11, "standings", "(II)I"⟩
abbrev cX11_look : ByteArray := prog_1_method_27_code
def yX11_look : MethodName := ⟨RX11, "look", "(I)I"⟩
abbrev cX11_fewest : ByteArray := prog_1_method_28_code
def yX11_fewest : MethodName := ⟨RX11, "fewest", "()I"⟩
abbrev cX11_way : ByteArray := prog_1_method_29_code
def yX11_way : MethodName := ⟨RX11, "way", "(I)I"⟩
abbrev cX11_all : ByteArray := prog_1_method_30_code
def yX11_all : MethodName := ⟨RX11, "all", "()I"⟩
abbrev cX11_best : ByteArray := prog_1_method_31_code
def yX11_best : MethodName := ⟨RX11, "best", "()I"⟩
abbrev cX11_nearest : ByteArray := prog_1_method_32_code
def yX11_nearest : MethodName := ⟨RX11, "nearest", "()I"⟩
abbrev cX11_brings : ByteArray := prog_1_method_33_code
def yX11_brings : MethodName := ⟨RX11, "brings", "(II)I"⟩
abbrev cX11_earn : ByteArray := prog_1_method_34_code
def yX11_earn : MethodName := ⟨RX11, "earn", "(I)I"⟩
abbrev cX11_moved : ByteArray := prog_1_method_35_code
def yX11_moved : MethodName := ⟨RX11, "moved", "(I)I"⟩
abbrev cX11_who : ByteArray := prog_1_method_36_code
def yX11_who : MethodName := ⟨RX11, "who", "(I)I"⟩
abbrev cX11_odds : ByteArray := prog_1_method_37_code
def yX11_odds : MethodName := ⟨RX11, "odds", "(III)I"⟩
abbrev cX11_years : ByteArray := prog_1_method_38_code
def yX11_years : MethodName := ⟨RX11, "years", "(II)I"⟩
abbrev cX11_asked : ByteArray := prog_1_method_39_code
def yX11_asked : MethodName := ⟨RX11, "asked", "()I"⟩
abbrev cX11_upper : ByteArray := prog_1_method_40_code
def yX11_upper : MethodName := ⟨RX11, "upper", "()J"⟩
abbrev cX11_lower : ByteArray := prog_1_method_41_code
def yX11_lower : MethodName := ⟨RX11, "lower", "()J"⟩
abbrev cX11_count : ByteArray := prog_1_method_42_code
def yX11_count : MethodName := ⟨RX11, "count", "(I)I"⟩
abbrev cX11_finding : ByteArray := prog_1_method_43_code
def yX11_finding : MethodName := ⟨RX11, "finding", "()I"⟩
abbrev cX11_findings : ByteArray := prog_1_method_44_code
def yX11_findings : MethodName := ⟨RX11, "findings", "(I)I"⟩
abbrev cX11_digest : ByteArray := prog_1_method_45_code
def yX11_digest : MethodName := ⟨RX11, "digest", "()J"⟩
abbrev cX11_isBelow : ByteArray := prog_1_method_46_code
def yX11_isBelow : MethodName := ⟨RX11, "isBelow", "(II)Z"⟩
abbrev cX11_found : ByteArray := prog_1_method_47_code
def yX11_found : MethodName := ⟨RX11, "found", "(I)I"⟩
abbrev cX11_ofStone : ByteArray := prog_1_method_48_code
def yX11_ofStone : MethodName := ⟨RX11, "ofStone", "(II)I"⟩
abbrev cX11_allMoves : ByteArray := prog_1_method_49_code
def yX11_allMoves : MethodName := ⟨RX11, "allMoves", "(I)I"⟩
abbrev cX11_ofWalker : ByteArray := prog_1_method_50_code
def yX11_ofWalker : MethodName := ⟨RX11, "ofWalker", "(II)I"⟩
abbrev cX11_allPay : ByteArray := prog_1_method_51_code
def yX11_allPay : MethodName := ⟨RX11, "allPay", "(I)I"⟩
abbrev cX11_doWalk : ByteArray := prog_1_method_52_code
def yX11_doWalk : MethodName := ⟨RX11, "doWalk", "(I)I"⟩
abbrev cX11_isSeenFrom : ByteArray := prog_1_method_53_code
def yX11_isSeenFrom : MethodName := ⟨RX11, "isSeenFrom", "(LMilestonesOn$Row;I)Z"⟩
abbrev cX11_refuseMissing : ByteArray := prog_1_method_54_code
def yX11_refuseMissing : MethodName := ⟨RX11, "refuseMissing", "([LMilestonesOn$Row;I)I"⟩
abbrev cX11_refusePlace : ByteArray := prog_1_method_55_code
def yX11_refusePlace : MethodName := ⟨RX11, "refusePlace", "([LMilestonesOn$Row;II)I"⟩
abbrev cX11_refuseStanding : ByteArray := prog_1_method_56_code
def yX11_refuseStanding : MethodName := ⟨RX11, "refuseStanding", "(I)I"⟩
abbrev cX11_standingOf : ByteArray := prog_1_method_57_code
def yX11_standingOf : MethodName := ⟨RX11, "standingOf", "(LMilestonesOn$Row;)I"⟩
abbrev cX11_tellFraction : ByteArray := prog_1_method_58_code
def yX11_tellFraction : MethodName := ⟨RX11, "tellFraction", "(II)V"⟩
abbrev cX11_thereOf : ByteArray := prog_1_method_59_code
def yX11_thereOf : MethodName := ⟨RX11, "thereOf", "([LMilestonesOn$Row;)I"⟩
abbrev cX11_digestKept : ByteArray := prog_1_method_60_code
def yX11_digestKept : MethodName := ⟨RX11, "digestKept", "(J)J"⟩
abbrev cX11_digestRows : ByteArray := prog_1_method_61_code
def yX11_digestRows : MethodName := ⟨RX11, "digestRows", "(J[LMilestonesOn$Row;)J"⟩
def RX12 : String := "MilestonesOnModel"
def TX12 : u_T := fun k => match k with
  | 0 => ("MilestonesOnModel", "rowSizes", "[I", true)
  | 1 => ("MilestonesOnModel", "rows", "[I", true)
  | 2 => ("MilestonesOnModel", "textSizes", "[I", true)
  | 3 => ("MilestonesOnModel", "texts", "[I", true)
  | 4 => ("MilestonesOnModel", "asked", "I", false)
  | 5 => ("MilestonesOnModel", "upper", "J", false)
  | 6 => ("MilestonesOnModel", "lower", "J", false)
  | 7 => ("MilestonesOnModel", "finding", "I", false)
  | 8 => ("MilestonesOnModel", "findings", "[I", true)
  | 9 => ("MilestonesOnModel", "posts", "I", false)
  | 10 => ("MilestonesOnModel", "stones", "I", false)
  | 11 => ("MilestonesOnModel", "number", "[I", true)
  | 12 => ("MilestonesOnModel", "walkers", "I", false)
  | 13 => ("MilestonesOnModel", "kind", "[I", true)
  | 14 => ("MilestonesOnModel", "from", "[I", true)
  | 15 => ("MilestonesOnModel", "to", "[I", true)
  | 16 => ("MilestonesOnModel", "rule", "I", false)
  | 17 => ("MilestonesOnModel", "standing", "I", false)
  | 18 => ("MilestonesOnModel", "paid", "[I", true)
  | 19 => ("MilestonesOnModel", "moved", "[I", true)
  | 20 => ("MilestonesOnModel", "done", "I", false)
  | 21 => ("MilestonesOnModel", "by", "[I", true)
  | 22 => ("MilestonesOnModel", "before", "[I", true)
  | 23 => ("MilestonesOnModel", "pays", "[I", true)
  | 24 => ("MilestonesOnModel", "moves", "[I", true)
  | 25 => ("MilestonesOnModel", "kept", "[I", true)
  | 26 => ("MilestonesOnModel", "keptRule", "[I", true)
  | 27 => ("MilestonesOnModel", "at", "I", false)
  | 28 => ("MilestonesOnModel", "readPosts", "I", false)
  | 29 => ("MilestonesOnModel", "readStones", "I", false)
  | 30 => ("MilestonesOnModel", "readWalkers", "I", false)
  | 31 => ("MilestonesOnModel", "readNumber", "[I", true)
  | 32 => ("MilestonesOnModel", "readPlace", "[I", true)
  | 33 => ("MilestonesOnModel", "readKind", "[I", true)
  | 34 => ("MilestonesOnModel", "readFrom", "[I", true)
  | 35 => ("MilestonesOnModel", "readTo", "[I", true)
  | 36 => ("MilestonesOnModel", "spot", "[I", true)
  | 37 => ("MilestonesOnModel", "times", "[I", true)
  | 38 => ("MilestonesOnModel", "pay", "I", false)
  | 39 => ("MilestonesOnModel", "unlike", "I", false)
  | 40 => ("MilestonesOnModel", "met", "[I", true)
  | 41 => ("MilestonesOnModel", "rowPay", "I", false)
  | 42 => ("MilestonesOnModel", "line", "[I", true)
  | 43 => ("MilestonesOnModel", "far", "[I", true)
  | 44 => ("MilestonesOnModel", "leads", "[Z", true)
  | 45 => ("MilestonesOnModel", "waiting", "I", false)
  | 46 => ("MilestonesOnModel", "nears", "I", false)
  | 47 => ("MilestonesOnModel", "many", "I", false)
  | 48 => ("MilestonesOnModel", "begin", "I", false)
  | 49 => ("MilestonesOnModel", "every", "I", false)
  | _ => ("MilestonesOnModel", "goal", "I", false)
def tyX12 : Nat → FieldType := fun k => match k with
  | 0 => .array .int
  | 1 => .array .int
  | 2 => .array .int
  | 3 => .array .int
  | 4 => .int
  | 5 => .long
  | 6 => .long
  | 7 => .int
  | 8 => .array .int
  | 9 => .int
  | 10 => .int
  | 11 => .array .int
  | 12 => .int
  | 13 => .array .int
  | 14 => .array .int
  | 15 => .array .int
  | 16 => .int
  | 17 => .int
  | 18 => .array .int
  | 19 => .array .int
  | 20 => .int
  | 21 => .array .int
  | 22 => .array .int
  | 23 => .array .int
  | 24 => .array .int
  | 25 => .array .int
  | 26 => .array .int
  | 27 => .int
  | 28 => .int
  | 29 => .int
  | 30 => .int
  | 31 => .array .int
  | 32 => .array .int
  | 33 => .array .int
  | 34 => .array .int
  | 35 => .array .int
  | 36 => .array .int
  | 37 => .array .int
  | 38 => .int
  | 39 => .int
  | 40 => .array .int
  | 41 => .int
  | 42 => .array .int
  | 43 => .array .int
  | 44 => .array .boolean
  | 45 => .int
  | 46 => .int
  | 47 => .int
  | 48 => .int
  | 49 => .int
  | _ => .int
theorem nmX12 : ∀ a, a < 51 → ∀ b, b < 51 → a ≠ b → (TX12 a).2.1 ≠ (TX12 b).2.1 := by decide +kernel
theorem tyX12_ok : ∀ k, k < 51 → parseFieldDescriptor (TX12 k).2.2.1 = some (tyX12 k) := by decide +kernel
abbrev cX12_init : ByteArray := prog_14_method_1_code
def yX12_init : MethodName := ⟨RX12, "<init>", "()V"⟩
abbrev cX12_in : ByteArray := prog_14_method_3_code
def yX12_in : MethodName := ⟨RX12, "in", "(JJJ)Z"⟩
abbrev cX12_find : ByteArray := prog_14_method_4_code
def yX12_find : MethodName := ⟨RX12, "find", "(I)I"⟩
abbrev cX12_tells : ByteArray := prog_14_method_5_code
def yX12_tells : MethodName := ⟨RX12, "tells", "(I)I"⟩
abbrev cX12_isRow : ByteArray := prog_14_method_6_code
def yX12_isRow : MethodName := ⟨RX12, "isRow", "(I)Z"⟩
abbrev cX12_isText : ByteArray := prog_14_method_7_code
def yX12_isText : MethodName := ⟨RX12, "isText", "(I)Z"⟩
abbrev cX12_makes : ByteArray := prog_14_method_8_code
def yX12_makes : MethodName := ⟨RX12, "makes", "(II)V"⟩
abbrev cX12_row : ByteArray := prog_14_method_9_code
def yX12_row : MethodName := ⟨RX12, "row", "(II)I"⟩
abbrev cX12_lacks : ByteArray := prog_14_method_10_code
def yX12_lacks : MethodName := ⟨RX12, "lacks", "(II)I"⟩
abbrev cX12_lay : ByteArray := prog_14_method_11_code
def yX12_lay : MethodName := ⟨RX12, "lay", "(III)I"⟩
abbrev cX12_at : ByteArray := prog_14_method_12_code
def yX12_at : MethodName := ⟨RX12, "at", "(II)I"⟩
abbrev cX12_tear : ByteArray := prog_14_method_13_code
def yX12_tear : MethodName := ⟨RX12, "tear", "(I)I"⟩
abbrev cX12_copy : ByteArray := prog_14_method_14_code
def yX12_copy : MethodName := ⟨RX12, "copy", "(IIIII)I"⟩
abbrev cX12_mean : ByteArray := prog_14_method_15_code
def yX12_mean : MethodName := ⟨RX12, "mean", "(I)I"⟩
abbrev cX12_text : ByteArray := prog_14_method_16_code
def yX12_text : MethodName := ⟨RX12, "text", "(II)I"⟩
abbrev cX12_put : ByteArray := prog_14_method_17_code
def yX12_put : MethodName := ⟨RX12, "put", "(III)I"⟩
abbrev cX12_here : ByteArray := prog_14_method_18_code
def yX12_here : MethodName := ⟨RX12, "here", "(I)I"⟩
abbrev cX12_figure : ByteArray := prog_14_method_19_code
def yX12_figure : MethodName := ⟨RX12, "figure", "(IIII)I"⟩
abbrev cX12_kindOf : ByteArray := prog_14_method_20_code
def yX12_kindOf : MethodName := ⟨RX12, "kindOf", "(I)I"⟩
abbrev cX12_takesStone : ByteArray := prog_14_method_21_code
def yX12_takesStone : MethodName := ⟨RX12, "takesStone", "(I)Z"⟩
abbrev cX12_takesWalker : ByteArray := prog_14_method_22_code
def yX12_takesWalker : MethodName := ⟨RX12, "takesWalker", "(I)Z"⟩
abbrev cX12_skip : ByteArray := prog_14_method_23_code
def yX12_skip : MethodName := ⟨RX12, "skip", "(I)V"⟩
abbrev cX12_reads : ByteArray := prog_14_method_24_code
def yX12_reads : MethodName := ⟨RX12, "reads", "(I)Z"⟩
abbrev cX12_fault : ByteArray := prog_14_method_25_code
def yX12_fault : MethodName := ⟨RX12, "fault", "(I)I"⟩
abbrev cX12_clear : ByteArray := prog_14_method_26_code
def yX12_clear : MethodName := ⟨RX12, "clear", "()V"⟩
abbrev cX12_road : ByteArray := prog_14_method_27_code
def yX12_road : MethodName := ⟨RX12, "road", "(I)I"⟩
abbrev cX12_home : ByteArray := prog_14_method_28_code
def yX12_home : MethodName := ⟨RX12, "home", "(I)I"⟩
abbrev cX12_size : ByteArray := prog_14_method_29_code
def yX12_size : MethodName := ⟨RX12, "size", "(I)I"⟩
abbrev cX12_isAhead : ByteArray := prog_14_method_30_code
def yX12_isAhead : MethodName := ⟨RX12, "isAhead", "(IIII)Z"⟩
abbrev cX12_taken : ByteArray := prog_14_method_31_code
def yX12_taken : MethodName := ⟨RX12, "taken", "(II)I"⟩
abbrev cX12_put_ : ByteArray := prog_14_method_32_code
def yX12_put_ : MethodName := ⟨RX12, "put", "(II)V"⟩
abbrev cX12_carries : ByteArray := prog_14_method_33_code
def yX12_carries : MethodName := ⟨RX12, "carries", "(IIIIZ)V"⟩
abbrev cX12_spread : ByteArray := prog_14_method_34_code
def yX12_spread : MethodName := ⟨RX12, "spread", "(I)V"⟩
abbrev cX12_behind : ByteArray := prog_14_method_35_code
def yX12_behind : MethodName := ⟨RX12, "behind", "(III)I"⟩
abbrev cX12_spotOf : ByteArray := prog_14_method_36_code
def yX12_spotOf : MethodName := ⟨RX12, "spotOf", "(II)I"⟩
abbrev cX12_apartOf : ByteArray := prog_14_method_37_code
def yX12_apartOf : MethodName := ⟨RX12, "apartOf", "(I)I"⟩
abbrev cX12_isPost : ByteArray := prog_14_method_38_code
def yX12_isPost : MethodName := ⟨RX12, "isPost", "(I)Z"⟩
abbrev cX12_isStone : ByteArray := prog_14_method_39_code
def yX12_isStone : MethodName := ⟨RX12, "isStone", "(I)Z"⟩
abbrev cX12_isWalker : ByteArray := prog_14_method_40_code
def yX12_isWalker : MethodName := ⟨RX12, "isWalker", "(I)Z"⟩
abbrev cX12_told : ByteArray := prog_14_method_41_code
def yX12_told : MethodName := ⟨RX12, "told", "(I)I"⟩
abbrev cX12_stone : ByteArray := prog_14_method_42_code
def yX12_stone : MethodName := ⟨RX12, "stone", "(II)I"⟩
abbrev cX12_walker : ByteArray := prog_14_method_43_code
def yX12_walker : MethodName := ⟨RX12, "walker", "(II)I"⟩
abbrev cX12_isOf : ByteArray := prog_14_method_44_code
def yX12_isOf : MethodName := ⟨RX12, "isOf", "(II)Z"⟩
abbrev cX12_mark : ByteArray := prog_14_method_45_code
def yX12_mark : MethodName := ⟨RX12, "mark", "(II)I"⟩
abbrev cX12_law : ByteArray := prog_14_method_46_code
def yX12_law : MethodName := ⟨RX12, "law", "(I)I"⟩
abbrev cX12_walks1 : ByteArray := prog_14_method_47_code
def yX12_walks1 : MethodName := ⟨RX12, "walks1", "(I)I"⟩
abbrev cX12_walk : ByteArray := prog_14_method_48_code
def yX12_walk : MethodName := ⟨RX12, "walk", "(I)I"⟩
abbrev cX12_pays : ByteArray := prog_14_method_49_code
def yX12_pays : MethodName := ⟨RX12, "pays", "(I)I"⟩
abbrev cX12_undo : ByteArray := prog_14_method_50_code
def yX12_undo : MethodName := ⟨RX12, "undo", "(I)I"⟩
abbrev cX12_walks : ByteArray := prog_14_method_51_code
def yX12_walks : MethodName := ⟨RX12, "walks", "(I)I"⟩
abbrev cX12_where : ByteArray := prog_14_method_52_code
def yX12_where : MethodName := ⟨RX12, "where", "(I)I"⟩
abbrev cX12_isHome : ByteArray := prog_14_method_53_code
def yX12_isHome : MethodName := ⟨RX12, "isHome", "(II)Z"⟩
abbrev cX12_apart : ByteArray := prog_14_method_54_code
def yX12_apart : MethodName := ⟨RX12, "apart", "()I"⟩
abbrev cX12_keep : ByteArray := prog_14_method_55_code
def yX12_keep : MethodName := ⟨RX12, "keep", "(I)I"⟩
abbrev cX12_on : ByteArray := prog_14_method_56_code
def yX12_on : MethodName := ⟨RX12, "on", "(I)I"⟩
abbrev cX12_seen : ByteArray := prog_14_method_57_code
def yX12_seen : MethodName := ⟨RX12, "seen", "(II)I"⟩
abbrev cX12_sees : ByteArray := prog_14_method_58_code
def yX12_sees : MethodName := ⟨RX12, "sees", "(I)I"⟩
abbrev cX12_may : ByteArray := prog_14_method_59_code
def yX12_may : MethodName := ⟨RX12, "may", "(I)I"⟩
abbrev cX12_power : ByteArray := prog_14_method_60_code
def yX12_power : MethodName := ⟨RX12, "power", "(I)I"⟩
abbrev cX12_behindRow : ByteArray := prog_14_method_61_code
def yX12_behindRow : MethodName := ⟨RX12, "behindRow", "(II)I"⟩
abbrev cX12_meets : ByteArray := prog_14_method_62_code
def yX12_meets : MethodName := ⟨RX12, "meets", "(I)V"⟩
abbrev cX12_standings : ByteArray := prog_14_method_63_code
def yX12_standings : MethodName := ⟨RX12, "standings", "(II)I"⟩
abbrev cX12_look : ByteArray := prog_14_method_64_code
def yX12_look : MethodName := ⟨RX12, "look", "(I)I"⟩
abbrev cX12_goesOut : ByteArray := prog_14_method_65_code
def yX12_goesOut : MethodName := ⟨RX12, "goesOut", "(I)V"⟩
abbrev cX12_isDone : ByteArray := prog_14_method_66_code
def yX12_isDone : MethodName := ⟨RX12, "isDone", "(I)Z"⟩
abbrev cX12_fewestBy : ByteArray := prog_14_method_67_code
def yX12_fewestBy : MethodName := ⟨RX12, "fewestBy", "(I)I"⟩
abbrev cX12_fewest : ByteArray := prog_14_method_68_code
def yX12_fewest : MethodName := ⟨RX12, "fewest", "()I"⟩
abbrev cX12_way : ByteArray := prog_14_method_69_code
def yX12_way : MethodName := ⟨RX12, "way", "(I)I"⟩
abbrev cX12_all : ByteArray := prog_14_method_70_code
def yX12_all : MethodName := ⟨RX12, "all", "()I"⟩
abbrev cX12_best : ByteArray := prog_14_method_71_code
def yX12_best : MethodName := ⟨RX12, "best", "()I"⟩
abbrev cX12_nearest : ByteArray := prog_14_method_72_code
def yX12_nearest : MethodName := ⟨RX12, "nearest", "()I"⟩
abbrev cX12_brings : ByteArray := prog_14_method_73_code
def yX12_brings : MethodName := ⟨RX12, "brings", "(II)I"⟩
abbrev cX12_earn : ByteArray := prog_14_method_74_code
def yX12_earn : MethodName := ⟨RX12, "earn", "(I)I"⟩
abbrev cX12_looks : ByteArray := prog_14_method_75_code
def yX12_looks : MethodName := ⟨RX12, "looks", "(II)V"⟩
abbrev cX12_bars : ByteArray := prog_14_method_76_code
def yX12_bars : MethodName := ⟨RX12, "bars", "(I)I"⟩
abbrev cX12_fewestTo : ByteArray := prog_14_method_77_code
def yX12_fewestTo : MethodName := ⟨RX12, "fewestTo", "()I"⟩
abbrev cX12_moved : ByteArray := prog_14_method_78_code
def yX12_moved : MethodName := ⟨RX12, "moved", "(I)I"⟩
abbrev cX12_who : ByteArray := prog_14_method_79_code
def yX12_who : MethodName := ⟨RX12, "who", "(I)I"⟩
abbrev cX12_odds : ByteArray := prog_14_method_80_code
def yX12_odds : MethodName := ⟨RX12, "odds", "(III)I"⟩
abbrev cX12_years : ByteArray := prog_14_method_81_code
def yX12_years : MethodName := ⟨RX12, "years", "(II)I"⟩
abbrev cX12_asked : ByteArray := prog_14_method_82_code
def yX12_asked : MethodName := ⟨RX12, "asked", "()I"⟩
abbrev cX12_upper : ByteArray := prog_14_method_83_code
def yX12_upper : MethodName := ⟨RX12, "upper", "()J"⟩
abbrev cX12_lower : ByteArray := prog_14_method_84_code
def yX12_lower : MethodName := ⟨RX12, "lower", "()J"⟩
abbrev cX12_there : ByteArray := prog_14_method_85_code
def yX12_there : MethodName := ⟨RX12, "there", "([II)I"⟩
abbrev cX12_ofKind : ByteArray := prog_14_method_86_code
def yX12_ofKind : MethodName := ⟨RX12, "ofKind", "(I)I"⟩
abbrev cX12_count : ByteArray := prog_14_method_87_code
def yX12_count : MethodName := ⟨RX12, "count", "(I)I"⟩
abbrev cX12_finding : ByteArray := prog_14_method_88_code
def yX12_finding : MethodName := ⟨RX12, "finding", "()I"⟩
abbrev cX12_findings : ByteArray := prog_14_method_89_code
def yX12_findings : MethodName := ⟨RX12, "findings", "(I)I"⟩
abbrev cX12_digest : ByteArray := prog_14_method_90_code
def yX12_digest : MethodName := ⟨RX12, "digest", "()J"⟩
def RJ9 : String := "java/lang/Math"
def TJ9 : u_T := fun k => match k with
  | _ => ("", "", "", false)
def tyJ9 : Nat → FieldType := fun k => match k with
  | _ => .int
theorem nmJ9 : ∀ a, a < 0 → ∀ b, b < 0 → a ≠ b → (TJ9 a).2.1 ≠ (TJ9 b).2.1 := by decide +kernel
theorem tyJ9_ok : ∀ k, k < 0 → parseFieldDescriptor (TJ9 k).2.2.1 = some (tyJ9 k) := by decide +kernel
abbrev cJ9_abs_0f7a4 : ByteArray := prog_15_method_59_code
def yJ9_abs_0f7a4 : MethodName := ⟨RJ9, "abs", "(I)I"⟩
abbrev cJ9_max_7cf53 : ByteArray := prog_15_method_65_code
def yJ9_max_7cf53 : MethodName := ⟨RJ9, "max", "(II)I"⟩
abbrev cJ9_min_7cf53 : ByteArray := prog_15_method_69_code
def yJ9_min_7cf53 : MethodName := ⟨RJ9, "min", "(II)I"⟩
def RJ10 : String := "java/lang/System"
def TJ10 : u_T := fun k => match k with
  | _ => ("", "", "", false)
def tyJ10 : Nat → FieldType := fun k => match k with
  | _ => .int
theorem nmJ10 : ∀ a, a < 0 → ∀ b, b < 0 → a ≠ b → (TJ10 a).2.1 ≠ (TJ10 b).2.1 := by decide +kernel
theorem tyJ10_ok : ∀ k, k < 0 → parseFieldDescriptor (TJ10 k).2.2.1 = some (tyJ10 k) := by decide +kernel
def RJ7 : String := "java/util/Arrays"
def TJ7 : u_T := fun k => match k with
  | _ => ("", "", "", false)
def tyJ7 : Nat → FieldType := fun k => match k with
  | _ => .int
theorem nmJ7 : ∀ a, a < 0 → ∀ b, b < 0 → a ≠ b → (TJ7 a).2.1 ≠ (TJ7 b).2.1 := by decide +kernel
theorem tyJ7_ok : ∀ k, k < 0 → parseFieldDescriptor (TJ7 k).2.2.1 = some (tyJ7 k) := by decide +kernel
abbrev cJ7_fill_53178 : ByteArray := prog_17_method_103_code
def yJ7_fill_53178 : MethodName := ⟨RJ7, "fill", "([II)V"⟩
def RL : String := "MilestonesOnLaw"
abbrev cL_law : ByteArray := code
def yL_law : MethodName := ⟨RL, "law", "([I)Z"⟩
abbrev vwCl : List vw_C := [(RX0, TX0, 2), (RX1, TX1, 2), (RX2, TX2, 2), (RX3, TX3, 2), (RX4, TX4, 3), (RX5, TX5, 10), (RX6, TX6, 2), (RX7, TX7, 17), (RX8, TX8, 2), (RX9, TX9, 8), (RX10, TX10, 2), (RX11, TX11, 16), (RX12, TX12, 51)]
