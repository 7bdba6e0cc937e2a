/-- a private method of a class that the tables say can be made, by its rows of tables_1 -/
def lw_okq (q : MethodName × Nat) : Prop := (q.1.cls ≠ "java/lang/invoke/MethodHandle" ∧ q.1.cls ≠ "java/lang/invoke/VarHandle") ∧ Cond.instantiable q.1.cls q.2 ∈ tables_1 ∧ Cond.privateMethod q.1 ∈ tables_1 ∧ Cond.instanceMethod q.1 ∈ tables_1
theorem lw_p0 : lw_okq (⟨"SmallTongues", "newTongue", "(II)I"⟩, 20) := ⟨⟨by decide +kernel, by decide +kernel⟩, List.mem_of_getElem? (i := 18) (by decide +kernel), List.mem_of_getElem? (i := 192) (by decide +kernel), List.mem_of_getElem? (i := 193) (by decide +kernel)⟩
theorem lw_p1 : lw_okq (⟨"SmallTongues$Law", "readChange", "([IIII)I"⟩, 6) := ⟨⟨by decide +kernel, by decide +kernel⟩, List.mem_of_getElem? (i := 102) (by decide +kernel), List.mem_of_getElem? (i := 212) (by decide +kernel), List.mem_of_getElem? (i := 213) (by decide +kernel)⟩
theorem lw_p2 : lw_okq (⟨"SmallTongues$Law", "readSides", "([IIII)I"⟩, 6) := ⟨⟨by decide +kernel, by decide +kernel⟩, List.mem_of_getElem? (i := 102) (by decide +kernel), List.mem_of_getElem? (i := 225) (by decide +kernel), List.mem_of_getElem? (i := 226) (by decide +kernel)⟩
theorem lw_p3 : lw_okq (⟨"SmallTongues", "isTongue", "(I)Z"⟩, 20) := ⟨⟨by decide +kernel, by decide +kernel⟩, List.mem_of_getElem? (i := 18) (by decide +kernel), List.mem_of_getElem? (i := 236) (by decide +kernel), List.mem_of_getElem? (i := 237) (by decide +kernel)⟩
theorem lw_p4 : lw_okq (⟨"SmallTongues", "faultOfWord", "(I)I"⟩, 20) := ⟨⟨by decide +kernel, by decide +kernel⟩, List.mem_of_getElem? (i := 18) (by decide +kernel), List.mem_of_getElem? (i := 243) (by decide +kernel), List.mem_of_getElem? (i := 244) (by decide +kernel)⟩
theorem lw_p5 : lw_okq (⟨"SmallTongues", "happen", "(LSmallTongues$Event;)V"⟩, 20) := ⟨⟨by decide +kernel, by decide +kernel⟩, List.mem_of_getElem? (i := 18) (by decide +kernel), List.mem_of_getElem? (i := 297) (by decide +kernel), List.mem_of_getElem? (i := 298) (by decide +kernel)⟩
theorem lw_p6 : lw_okq (⟨"SmallTongues", "isLaw", "(I)Z"⟩, 20) := ⟨⟨by decide +kernel, by decide +kernel⟩, List.mem_of_getElem? (i := 18) (by decide +kernel), List.mem_of_getElem? (i := 305) (by decide +kernel), List.mem_of_getElem? (i := 306) (by decide +kernel)⟩
theorem lw_p7 : lw_okq (⟨"SmallTongues$Law", "letterFor", "(II)I"⟩, 6) := ⟨⟨by decide +kernel, by decide +kernel⟩, List.mem_of_getElem? (i := 102) (by decide +kernel), List.mem_of_getElem? (i := 316) (by decide +kernel), List.mem_of_getElem? (i := 317) (by decide +kernel)⟩
theorem lw_p8 : lw_okq (⟨"SmallTongues$Law", "isBeside", "(III)Z"⟩, 6) := ⟨⟨by decide +kernel, by decide +kernel⟩, List.mem_of_getElem? (i := 102) (by decide +kernel), List.mem_of_getElem? (i := 326) (by decide +kernel), List.mem_of_getElem? (i := 327) (by decide +kernel)⟩
theorem lw_p9 : lw_okq (⟨"SmallTongues", "spokenWord", "(II)LSmallTongues$Word;"⟩, 20) := ⟨⟨by decide +kernel, by decide +kernel⟩, List.mem_of_getElem? (i := 18) (by decide +kernel), List.mem_of_getElem? (i := 348) (by decide +kernel), List.mem_of_getElem? (i := 349) (by decide +kernel)⟩
theorem lw_p10 : lw_okq (⟨"SmallTongues", "eventAt", "(I)LSmallTongues$Event;"⟩, 20) := ⟨⟨by decide +kernel, by decide +kernel⟩, List.mem_of_getElem? (i := 18) (by decide +kernel), List.mem_of_getElem? (i := 445) (by decide +kernel), List.mem_of_getElem? (i := 446) (by decide +kernel)⟩
theorem lw_p11 : lw_okq (⟨"SmallTongues", "listedWord", "(II)LSmallTongues$Word;"⟩, 20) := ⟨⟨by decide +kernel, by decide +kernel⟩, List.mem_of_getElem? (i := 18) (by decide +kernel), List.mem_of_getElem? (i := 482) (by decide +kernel), List.mem_of_getElem? (i := 483) (by decide +kernel)⟩
theorem lw_p12 : lw_okq (⟨"SmallTongues$SideBySide", "costOfBoth", "(LSmallTongues$Word;LSmallTongues$Word;II)I"⟩, 3) := ⟨⟨by decide +kernel, by decide +kernel⟩, List.mem_of_getElem? (i := 32) (by decide +kernel), List.mem_of_getElem? (i := 491) (by decide +kernel), List.mem_of_getElem? (i := 492) (by decide +kernel)⟩
theorem lw_p13 : lw_okq (⟨"SmallTongues", "areKin", "(LSmallTongues$Word;LSmallTongues$Word;)Z"⟩, 20) := ⟨⟨by decide +kernel, by decide +kernel⟩, List.mem_of_getElem? (i := 18) (by decide +kernel), List.mem_of_getElem? (i := 509) (by decide +kernel), List.mem_of_getElem? (i := 510) (by decide +kernel)⟩
theorem lw_p14 : lw_okq (⟨"SmallTongues", "kinSet", "(II)I"⟩, 20) := ⟨⟨by decide +kernel, by decide +kernel⟩, List.mem_of_getElem? (i := 18) (by decide +kernel), List.mem_of_getElem? (i := 520) (by decide +kernel), List.mem_of_getElem? (i := 521) (by decide +kernel)⟩
theorem lw_p15 : lw_okq (⟨"SmallTongues", "meaningsOfBoth", "(II)I"⟩, 20) := ⟨⟨by decide +kernel, by decide +kernel⟩, List.mem_of_getElem? (i := 18) (by decide +kernel), List.mem_of_getElem? (i := 547) (by decide +kernel), List.mem_of_getElem? (i := 548) (by decide +kernel)⟩
def lw_privs_1 : List (MethodName × Nat) := [(⟨"SmallTongues", "newTongue", "(II)I"⟩, 20), (⟨"SmallTongues$Law", "readChange", "([IIII)I"⟩, 6), (⟨"SmallTongues$Law", "readSides", "([IIII)I"⟩, 6), (⟨"SmallTongues", "isTongue", "(I)Z"⟩, 20), (⟨"SmallTongues", "faultOfWord", "(I)I"⟩, 20), (⟨"SmallTongues", "happen", "(LSmallTongues$Event;)V"⟩, 20), (⟨"SmallTongues", "isLaw", "(I)Z"⟩, 20), (⟨"SmallTongues$Law", "letterFor", "(II)I"⟩, 6), (⟨"SmallTongues$Law", "isBeside", "(III)Z"⟩, 6), (⟨"SmallTongues", "spokenWord", "(II)LSmallTongues$Word;"⟩, 20), (⟨"SmallTongues", "eventAt", "(I)LSmallTongues$Event;"⟩, 20), (⟨"SmallTongues", "listedWord", "(II)LSmallTongues$Word;"⟩, 20), (⟨"SmallTongues$SideBySide", "costOfBoth", "(LSmallTongues$Word;LSmallTongues$Word;II)I"⟩, 3), (⟨"SmallTongues", "areKin", "(LSmallTongues$Word;LSmallTongues$Word;)Z"⟩, 20), (⟨"SmallTongues", "kinSet", "(II)I"⟩, 20), (⟨"SmallTongues", "meaningsOfBoth", "(II)I"⟩, 20)]
theorem lw_r1 : ∀ q ∈ lw_privs_1, lw_okq q := List.forall_mem_cons.mpr ⟨lw_p0, List.forall_mem_cons.mpr ⟨lw_p1, List.forall_mem_cons.mpr ⟨lw_p2, List.forall_mem_cons.mpr ⟨lw_p3, List.forall_mem_cons.mpr ⟨lw_p4, List.forall_mem_cons.mpr ⟨lw_p5, List.forall_mem_cons.mpr ⟨lw_p6, List.forall_mem_cons.mpr ⟨lw_p7, List.forall_mem_cons.mpr ⟨lw_p8, List.forall_mem_cons.mpr ⟨lw_p9, List.forall_mem_cons.mpr ⟨lw_p10, List.forall_mem_cons.mpr ⟨lw_p11, List.forall_mem_cons.mpr ⟨lw_p12, List.forall_mem_cons.mpr ⟨lw_p13, List.forall_mem_cons.mpr ⟨lw_p14, List.forall_mem_cons.mpr ⟨lw_p15, fun _ h => absurd h List.not_mem_nil⟩⟩⟩⟩⟩⟩⟩⟩⟩⟩⟩⟩⟩⟩⟩⟩
theorem lw_p16 : lw_okq (⟨"SmallTongues", "costsTogether", "(III)I"⟩, 20) := ⟨⟨by decide +kernel, by decide +kernel⟩, List.mem_of_getElem? (i := 18) (by decide +kernel), List.mem_of_getElem? (i := 551) (by decide +kernel), List.mem_of_getElem? (i := 552) (by decide +kernel)⟩
theorem lw_p17 : lw_okq (⟨"SmallTongues", "costsWithOthers", "(II)I"⟩, 20) := ⟨⟨by decide +kernel, by decide +kernel⟩, List.mem_of_getElem? (i := 18) (by decide +kernel), List.mem_of_getElem? (i := 570) (by decide +kernel), List.mem_of_getElem? (i := 571) (by decide +kernel)⟩
theorem lw_p18 : lw_okq (⟨"SmallTongues", "comeOut", "(II[II)I"⟩, 20) := ⟨⟨by decide +kernel, by decide +kernel⟩, List.mem_of_getElem? (i := 18) (by decide +kernel), List.mem_of_getElem? (i := 581) (by decide +kernel), List.mem_of_getElem? (i := 582) (by decide +kernel)⟩
theorem lw_p19 : lw_okq (⟨"SmallTongues", "isOrderFelt", "(LSmallTongues$Word;LSmallTongues$Law;LSmallTongues$Law;)Z"⟩, 20) := ⟨⟨by decide +kernel, by decide +kernel⟩, List.mem_of_getElem? (i := 18) (by decide +kernel), List.mem_of_getElem? (i := 600) (by decide +kernel), List.mem_of_getElem? (i := 601) (by decide +kernel)⟩
theorem lw_p20 : lw_okq (⟨"SmallTongues", "areLeaves", "(I)Z"⟩, 20) := ⟨⟨by decide +kernel, by decide +kernel⟩, List.mem_of_getElem? (i := 18) (by decide +kernel), List.mem_of_getElem? (i := 608) (by decide +kernel), List.mem_of_getElem? (i := 609) (by decide +kernel)⟩
theorem lw_p21 : lw_okq (⟨"SmallTongues", "hangSets", "()V"⟩, 20) := ⟨⟨by decide +kernel, by decide +kernel⟩, List.mem_of_getElem? (i := 18) (by decide +kernel), List.mem_of_getElem? (i := 619) (by decide +kernel), List.mem_of_getElem? (i := 620) (by decide +kernel)⟩
theorem lw_p22 : lw_okq (⟨"SmallTongues", "stepsOf", "(II)I"⟩, 20) := ⟨⟨by decide +kernel, by decide +kernel⟩, List.mem_of_getElem? (i := 18) (by decide +kernel), List.mem_of_getElem? (i := 627) (by decide +kernel), List.mem_of_getElem? (i := 628) (by decide +kernel)⟩
theorem lw_p23 : lw_okq (⟨"SmallTongues$Branches", "add", "(II)V"⟩, 6) := ⟨⟨by decide +kernel, by decide +kernel⟩, List.mem_of_getElem? (i := 51) (by decide +kernel), List.mem_of_getElem? (i := 635) (by decide +kernel), List.mem_of_getElem? (i := 636) (by decide +kernel)⟩
theorem lw_p24 : lw_okq (⟨"SmallTongues$Branches", "setOn", "(III)V"⟩, 6) := ⟨⟨by decide +kernel, by decide +kernel⟩, List.mem_of_getElem? (i := 51) (by decide +kernel), List.mem_of_getElem? (i := 644) (by decide +kernel), List.mem_of_getElem? (i := 645) (by decide +kernel)⟩
theorem lw_p25 : lw_okq (⟨"SmallTongues$Branches", "orderOutward", "()V"⟩, 6) := ⟨⟨by decide +kernel, by decide +kernel⟩, List.mem_of_getElem? (i := 51) (by decide +kernel), List.mem_of_getElem? (i := 648) (by decide +kernel), List.mem_of_getElem? (i := 649) (by decide +kernel)⟩
theorem lw_p26 : lw_okq (⟨"SmallTonguesModel", "reads", "(I)V"⟩, 61) := ⟨⟨by decide +kernel, by decide +kernel⟩, List.mem_of_getElem? (i := 779) (by decide +kernel), List.mem_of_getElem? (i := 989) (by decide +kernel), List.mem_of_getElem? (i := 990) (by decide +kernel)⟩
theorem lw_p27 : lw_okq (⟨"SmallTonguesModel", "part", "()I"⟩, 61) := ⟨⟨by decide +kernel, by decide +kernel⟩, List.mem_of_getElem? (i := 779) (by decide +kernel), List.mem_of_getElem? (i := 993) (by decide +kernel), List.mem_of_getElem? (i := 994) (by decide +kernel)⟩
theorem lw_p28 : lw_okq (⟨"SmallTonguesModel", "here", "()I"⟩, 61) := ⟨⟨by decide +kernel, by decide +kernel⟩, List.mem_of_getElem? (i := 779) (by decide +kernel), List.mem_of_getElem? (i := 997) (by decide +kernel), List.mem_of_getElem? (i := 998) (by decide +kernel)⟩
theorem lw_p29 : lw_okq (⟨"SmallTonguesModel", "must", "(I)V"⟩, 61) := ⟨⟨by decide +kernel, by decide +kernel⟩, List.mem_of_getElem? (i := 779) (by decide +kernel), List.mem_of_getElem? (i := 1001) (by decide +kernel), List.mem_of_getElem? (i := 1002) (by decide +kernel)⟩
theorem lw_p30 : lw_okq (⟨"SmallTonguesModel", "side", "()I"⟩, 61) := ⟨⟨by decide +kernel, by decide +kernel⟩, List.mem_of_getElem? (i := 779) (by decide +kernel), List.mem_of_getElem? (i := 1005) (by decide +kernel), List.mem_of_getElem? (i := 1006) (by decide +kernel)⟩
theorem lw_p31 : lw_okq (⟨"SmallTonguesModel", "isTongue", "(I)Z"⟩, 61) := ⟨⟨by decide +kernel, by decide +kernel⟩, List.mem_of_getElem? (i := 779) (by decide +kernel), List.mem_of_getElem? (i := 1013) (by decide +kernel), List.mem_of_getElem? (i := 1014) (by decide +kernel)⟩
def lw_privs_2 : List (MethodName × Nat) := [(⟨"SmallTongues", "costsTogether", "(III)I"⟩, 20), (⟨"SmallTongues", "costsWithOthers", "(II)I"⟩, 20), (⟨"SmallTongues", "comeOut", "(II[II)I"⟩, 20), (⟨"SmallTongues", "isOrderFelt", "(LSmallTongues$Word;LSmallTongues$Law;LSmallTongues$Law;)Z"⟩, 20), (⟨"SmallTongues", "areLeaves", "(I)Z"⟩, 20), (⟨"SmallTongues", "hangSets", "()V"⟩, 20), (⟨"SmallTongues", "stepsOf", "(II)I"⟩, 20), (⟨"SmallTongues$Branches", "add", "(II)V"⟩, 6), (⟨"SmallTongues$Branches", "setOn", "(III)V"⟩, 6), (⟨"SmallTongues$Branches", "orderOutward", "()V"⟩, 6), (⟨"SmallTonguesModel", "reads", "(I)V"⟩, 61), (⟨"SmallTonguesModel", "part", "()I"⟩, 61), (⟨"SmallTonguesModel", "here", "()I"⟩, 61), (⟨"SmallTonguesModel", "must", "(I)V"⟩, 61), (⟨"SmallTonguesModel", "side", "()I"⟩, 61), (⟨"SmallTonguesModel", "isTongue", "(I)Z"⟩, 61)]
theorem lw_r2 : ∀ q ∈ lw_privs_2, lw_okq q := List.forall_mem_cons.mpr ⟨lw_p16, List.forall_mem_cons.mpr ⟨lw_p17, List.forall_mem_cons.mpr ⟨lw_p18, List.forall_mem_cons.mpr ⟨lw_p19, List.forall_mem_cons.mpr ⟨lw_p20, List.forall_mem_cons.mpr ⟨lw_p21, List.forall_mem_cons.mpr ⟨lw_p22, List.forall_mem_cons.mpr ⟨lw_p23, List.forall_mem_cons.mpr ⟨lw_p24, List.forall_mem_cons.mpr ⟨lw_p25, List.forall_mem_cons.mpr ⟨lw_p26, List.forall_mem_cons.mpr ⟨lw_p27, List.forall_mem_cons.mpr ⟨lw_p28, List.forall_mem_cons.mpr ⟨lw_p29, List.forall_mem_cons.mpr ⟨lw_p30, List.forall_mem_cons.mpr ⟨lw_p31, fun _ h => absurd h List.not_mem_nil⟩⟩⟩⟩⟩⟩⟩⟩⟩⟩⟩⟩⟩⟩⟩⟩
theorem lw_p32 : lw_okq (⟨"SmallTonguesModel", "puts", "(II)V"⟩, 61) := ⟨⟨by decide +kernel, by decide +kernel⟩, List.mem_of_getElem? (i := 779) (by decide +kernel), List.mem_of_getElem? (i := 1020) (by decide +kernel), List.mem_of_getElem? (i := 1021) (by decide +kernel)⟩
theorem lw_p33 : lw_okq (⟨"SmallTonguesModel", "happens", "(IIII)V"⟩, 61) := ⟨⟨by decide +kernel, by decide +kernel⟩, List.mem_of_getElem? (i := 779) (by decide +kernel), List.mem_of_getElem? (i := 1024) (by decide +kernel), List.mem_of_getElem? (i := 1025) (by decide +kernel)⟩
theorem lw_p34 : lw_okq (⟨"SmallTonguesModel", "isLaw", "(I)Z"⟩, 61) := ⟨⟨by decide +kernel, by decide +kernel⟩, List.mem_of_getElem? (i := 779) (by decide +kernel), List.mem_of_getElem? (i := 1032) (by decide +kernel), List.mem_of_getElem? (i := 1033) (by decide +kernel)⟩
theorem lw_p35 : lw_okq (⟨"SmallTonguesModel", "hasWord", "(II)Z"⟩, 61) := ⟨⟨by decide +kernel, by decide +kernel⟩, List.mem_of_getElem? (i := 779) (by decide +kernel), List.mem_of_getElem? (i := 1036) (by decide +kernel), List.mem_of_getElem? (i := 1037) (by decide +kernel)⟩
theorem lw_p36 : lw_okq (⟨"SmallTonguesModel", "takes", "(II)V"⟩, 61) := ⟨⟨by decide +kernel, by decide +kernel⟩, List.mem_of_getElem? (i := 779) (by decide +kernel), List.mem_of_getElem? (i := 1040) (by decide +kernel), List.mem_of_getElem? (i := 1041) (by decide +kernel)⟩
theorem lw_p37 : lw_okq (⟨"SmallTonguesModel", "applies", "(I)V"⟩, 61) := ⟨⟨by decide +kernel, by decide +kernel⟩, List.mem_of_getElem? (i := 779) (by decide +kernel), List.mem_of_getElem? (i := 1044) (by decide +kernel), List.mem_of_getElem? (i := 1045) (by decide +kernel)⟩
theorem lw_p38 : lw_okq (⟨"SmallTonguesModel", "changeOf", "(II)I"⟩, 61) := ⟨⟨by decide +kernel, by decide +kernel⟩, List.mem_of_getElem? (i := 779) (by decide +kernel), List.mem_of_getElem? (i := 1048) (by decide +kernel), List.mem_of_getElem? (i := 1049) (by decide +kernel)⟩
theorem lw_p39 : lw_okq (⟨"SmallTonguesModel", "stands", "(II)Z"⟩, 61) := ⟨⟨by decide +kernel, by decide +kernel⟩, List.mem_of_getElem? (i := 779) (by decide +kernel), List.mem_of_getElem? (i := 1058) (by decide +kernel), List.mem_of_getElem? (i := 1059) (by decide +kernel)⟩
theorem lw_p40 : lw_okq (⟨"SmallTonguesModel", "isWord", "(II)Z"⟩, 61) := ⟨⟨by decide +kernel, by decide +kernel⟩, List.mem_of_getElem? (i := 779) (by decide +kernel), List.mem_of_getElem? (i := 1062) (by decide +kernel), List.mem_of_getElem? (i := 1063) (by decide +kernel)⟩
theorem lw_p41 : lw_okq (⟨"SmallTonguesModel", "has", "(II)Z"⟩, 61) := ⟨⟨by decide +kernel, by decide +kernel⟩, List.mem_of_getElem? (i := 779) (by decide +kernel), List.mem_of_getElem? (i := 1114) (by decide +kernel), List.mem_of_getElem? (i := 1115) (by decide +kernel)⟩
theorem lw_p42 : lw_okq (⟨"SmallTonguesModel", "costOf", "(IIII)I"⟩, 61) := ⟨⟨by decide +kernel, by decide +kernel⟩, List.mem_of_getElem? (i := 779) (by decide +kernel), List.mem_of_getElem? (i := 1118) (by decide +kernel), List.mem_of_getElem? (i := 1119) (by decide +kernel)⟩
theorem lw_p43 : lw_okq (⟨"SmallTonguesModel", "walks", "(III)V"⟩, 61) := ⟨⟨by decide +kernel, by decide +kernel⟩, List.mem_of_getElem? (i := 779) (by decide +kernel), List.mem_of_getElem? (i := 1130) (by decide +kernel), List.mem_of_getElem? (i := 1131) (by decide +kernel)⟩
theorem lw_p44 : lw_okq (⟨"SmallTonguesModel", "areKin", "(IIII)Z"⟩, 61) := ⟨⟨by decide +kernel, by decide +kernel⟩, List.mem_of_getElem? (i := 779) (by decide +kernel), List.mem_of_getElem? (i := 1138) (by decide +kernel), List.mem_of_getElem? (i := 1139) (by decide +kernel)⟩
theorem lw_p45 : lw_okq (⟨"SmallTonguesModel", "setOf", "(II)I"⟩, 61) := ⟨⟨by decide +kernel, by decide +kernel⟩, List.mem_of_getElem? (i := 779) (by decide +kernel), List.mem_of_getElem? (i := 1146) (by decide +kernel), List.mem_of_getElem? (i := 1147) (by decide +kernel)⟩
theorem lw_p46 : lw_okq (⟨"SmallTonguesModel", "sums", "(III)V"⟩, 61) := ⟨⟨by decide +kernel, by decide +kernel⟩, List.mem_of_getElem? (i := 779) (by decide +kernel), List.mem_of_getElem? (i := 1162) (by decide +kernel), List.mem_of_getElem? (i := 1163) (by decide +kernel)⟩
theorem lw_p47 : lw_okq (⟨"SmallTonguesModel", "orders", "(IIII)V"⟩, 61) := ⟨⟨by decide +kernel, by decide +kernel⟩, List.mem_of_getElem? (i := 779) (by decide +kernel), List.mem_of_getElem? (i := 1181) (by decide +kernel), List.mem_of_getElem? (i := 1182) (by decide +kernel)⟩
def lw_privs_3 : List (MethodName × Nat) := [(⟨"SmallTonguesModel", "puts", "(II)V"⟩, 61), (⟨"SmallTonguesModel", "happens", "(IIII)V"⟩, 61), (⟨"SmallTonguesModel", "isLaw", "(I)Z"⟩, 61), (⟨"SmallTonguesModel", "hasWord", "(II)Z"⟩, 61), (⟨"SmallTonguesModel", "takes", "(II)V"⟩, 61), (⟨"SmallTonguesModel", "applies", "(I)V"⟩, 61), (⟨"SmallTonguesModel", "changeOf", "(II)I"⟩, 61), (⟨"SmallTonguesModel", "stands", "(II)Z"⟩, 61), (⟨"SmallTonguesModel", "isWord", "(II)Z"⟩, 61), (⟨"SmallTonguesModel", "has", "(II)Z"⟩, 61), (⟨"SmallTonguesModel", "costOf", "(IIII)I"⟩, 61), (⟨"SmallTonguesModel", "walks", "(III)V"⟩, 61), (⟨"SmallTonguesModel", "areKin", "(IIII)Z"⟩, 61), (⟨"SmallTonguesModel", "setOf", "(II)I"⟩, 61), (⟨"SmallTonguesModel", "sums", "(III)V"⟩, 61), (⟨"SmallTonguesModel", "orders", "(IIII)V"⟩, 61)]
theorem lw_r3 : ∀ q ∈ lw_privs_3, lw_okq q := List.forall_mem_cons.mpr ⟨lw_p32, List.forall_mem_cons.mpr ⟨lw_p33, List.forall_mem_cons.mpr ⟨lw_p34, List.forall_mem_cons.mpr ⟨lw_p35, List.forall_mem_cons.mpr ⟨lw_p36, List.forall_mem_cons.mpr ⟨lw_p37, List.forall_mem_cons.mpr ⟨lw_p38, List.forall_mem_cons.mpr ⟨lw_p39, List.forall_mem_cons.mpr ⟨lw_p40, List.forall_mem_cons.mpr ⟨lw_p41, List.forall_mem_cons.mpr ⟨lw_p42, List.forall_mem_cons.mpr ⟨lw_p43, List.forall_mem_cons.mpr ⟨lw_p44, List.forall_mem_cons.mpr ⟨lw_p45, List.forall_mem_cons.mpr ⟨lw_p46, List.forall_mem_cons.mpr ⟨lw_p47, fun _ h => absurd h List.not_mem_nil⟩⟩⟩⟩⟩⟩⟩⟩⟩⟩⟩⟩⟩⟩⟩⟩
theorem lw_p48 : lw_okq (⟨"SmallTonguesModel", "tries", "(II)V"⟩, 61) := ⟨⟨by decide +kernel, by decide +kernel⟩, List.mem_of_getElem? (i := 779) (by decide +kernel), List.mem_of_getElem? (i := 1185) (by decide +kernel), List.mem_of_getElem? (i := 1186) (by decide +kernel)⟩
theorem lw_p49 : lw_okq (⟨"SmallTonguesModel", "refuses", "(I)I"⟩, 61) := ⟨⟨by decide +kernel, by decide +kernel⟩, List.mem_of_getElem? (i := 779) (by decide +kernel), List.mem_of_getElem? (i := 1197) (by decide +kernel), List.mem_of_getElem? (i := 1198) (by decide +kernel)⟩
theorem lw_p50 : lw_okq (⟨"SmallTonguesModel", "trees", "()I"⟩, 61) := ⟨⟨by decide +kernel, by decide +kernel⟩, List.mem_of_getElem? (i := 779) (by decide +kernel), List.mem_of_getElem? (i := 1201) (by decide +kernel), List.mem_of_getElem? (i := 1202) (by decide +kernel)⟩
theorem lw_p51 : lw_okq (⟨"SmallTonguesModel", "stepsOf", "(I)I"⟩, 61) := ⟨⟨by decide +kernel, by decide +kernel⟩, List.mem_of_getElem? (i := 779) (by decide +kernel), List.mem_of_getElem? (i := 1205) (by decide +kernel), List.mem_of_getElem? (i := 1206) (by decide +kernel)⟩
theorem lw_p52 : lw_okq (⟨"SmallTonguesModel", "grows", "(I)V"⟩, 61) := ⟨⟨by decide +kernel, by decide +kernel⟩, List.mem_of_getElem? (i := 779) (by decide +kernel), List.mem_of_getElem? (i := 1209) (by decide +kernel), List.mem_of_getElem? (i := 1210) (by decide +kernel)⟩
theorem lw_p53 : lw_okq (⟨"SmallTonguesModel", "below", "(III)I"⟩, 61) := ⟨⟨by decide +kernel, by decide +kernel⟩, List.mem_of_getElem? (i := 779) (by decide +kernel), List.mem_of_getElem? (i := 1213) (by decide +kernel), List.mem_of_getElem? (i := 1214) (by decide +kernel)⟩
theorem lw_p54 : lw_okq (⟨"SmallTonguesModel", "tells", "(I)I"⟩, 61) := ⟨⟨by decide +kernel, by decide +kernel⟩, List.mem_of_getElem? (i := 779) (by decide +kernel), List.mem_of_getElem? (i := 1237) (by decide +kernel), List.mem_of_getElem? (i := 1238) (by decide +kernel)⟩
theorem lw_p55 : lw_okq (⟨"SmallTonguesModel", "runs", "(I)V"⟩, 61) := ⟨⟨by decide +kernel, by decide +kernel⟩, List.mem_of_getElem? (i := 779) (by decide +kernel), List.mem_of_getElem? (i := 1241) (by decide +kernel), List.mem_of_getElem? (i := 1242) (by decide +kernel)⟩
theorem lw_p56 : lw_okq (⟨"SmallTonguesModel", "plainTells", "(I)I"⟩, 61) := ⟨⟨by decide +kernel, by decide +kernel⟩, List.mem_of_getElem? (i := 779) (by decide +kernel), List.mem_of_getElem? (i := 1245) (by decide +kernel), List.mem_of_getElem? (i := 1246) (by decide +kernel)⟩
theorem lw_p57 : lw_okq (⟨"SmallTonguesModel", "leads", "(I)I"⟩, 61) := ⟨⟨by decide +kernel, by decide +kernel⟩, List.mem_of_getElem? (i := 779) (by decide +kernel), List.mem_of_getElem? (i := 1252) (by decide +kernel), List.mem_of_getElem? (i := 1253) (by decide +kernel)⟩
theorem lw_p58 : lw_okq (⟨"SmallTonguesModel", "plainLeads", "(I)I"⟩, 61) := ⟨⟨by decide +kernel, by decide +kernel⟩, List.mem_of_getElem? (i := 779) (by decide +kernel), List.mem_of_getElem? (i := 1256) (by decide +kernel), List.mem_of_getElem? (i := 1257) (by decide +kernel)⟩
theorem lw_p59 : lw_okq (⟨"SmallTonguesModel", "marks", "(I)I"⟩, 61) := ⟨⟨by decide +kernel, by decide +kernel⟩, List.mem_of_getElem? (i := 779) (by decide +kernel), List.mem_of_getElem? (i := 1260) (by decide +kernel), List.mem_of_getElem? (i := 1261) (by decide +kernel)⟩
theorem lw_p60 : lw_okq (⟨"SmallTonguesModel", "plainMarks", "(I)I"⟩, 61) := ⟨⟨by decide +kernel, by decide +kernel⟩, List.mem_of_getElem? (i := 779) (by decide +kernel), List.mem_of_getElem? (i := 1264) (by decide +kernel), List.mem_of_getElem? (i := 1265) (by decide +kernel)⟩
def lw_privs_4 : List (MethodName × Nat) := [(⟨"SmallTonguesModel", "tries", "(II)V"⟩, 61), (⟨"SmallTonguesModel", "refuses", "(I)I"⟩, 61), (⟨"SmallTonguesModel", "trees", "()I"⟩, 61), (⟨"SmallTonguesModel", "stepsOf", "(I)I"⟩, 61), (⟨"SmallTonguesModel", "grows", "(I)V"⟩, 61), (⟨"SmallTonguesModel", "below", "(III)I"⟩, 61), (⟨"SmallTonguesModel", "tells", "(I)I"⟩, 61), (⟨"SmallTonguesModel", "runs", "(I)V"⟩, 61), (⟨"SmallTonguesModel", "plainTells", "(I)I"⟩, 61), (⟨"SmallTonguesModel", "leads", "(I)I"⟩, 61), (⟨"SmallTonguesModel", "plainLeads", "(I)I"⟩, 61), (⟨"SmallTonguesModel", "marks", "(I)I"⟩, 61), (⟨"SmallTonguesModel", "plainMarks", "(I)I"⟩, 61)]
theorem lw_r4 : ∀ q ∈ lw_privs_4, lw_okq q := List.forall_mem_cons.mpr ⟨lw_p48, List.forall_mem_cons.mpr ⟨lw_p49, List.forall_mem_cons.mpr ⟨lw_p50, List.forall_mem_cons.mpr ⟨lw_p51, List.forall_mem_cons.mpr ⟨lw_p52, List.forall_mem_cons.mpr ⟨lw_p53, List.forall_mem_cons.mpr ⟨lw_p54, List.forall_mem_cons.mpr ⟨lw_p55, List.forall_mem_cons.mpr ⟨lw_p56, List.forall_mem_cons.mpr ⟨lw_p57, List.forall_mem_cons.mpr ⟨lw_p58, List.forall_mem_cons.mpr ⟨lw_p59, List.forall_mem_cons.mpr ⟨lw_p60, fun _ h => absurd h List.not_mem_nil⟩⟩⟩⟩⟩⟩⟩⟩⟩⟩⟩⟩⟩
def lw_privs : List (MethodName × Nat) := lw_privs_1 ++ (lw_privs_2 ++ (lw_privs_3 ++ (lw_privs_4)))
def lw_tbl : List Cond := k2_sels lw_privs ++ tables_1
theorem lw_privs_ok : ∀ q ∈ lw_privs, lw_okq q := by
  show ∀ q ∈ lw_privs_1 ++ (lw_privs_2 ++ (lw_privs_3 ++ (lw_privs_4))), lw_okq q
  exact List.forall_mem_append.mpr ⟨lw_r1, List.forall_mem_append.mpr ⟨lw_r2, List.forall_mem_append.mpr ⟨lw_r3, lw_r4⟩⟩⟩
def RX0 : String := "SmallTongues$Branches"
def TX0 : u_T := fun k => match k with
  | 0 => ("SmallTongues$Branches", "starts", "[I", true)
  | 1 => ("SmallTongues$Branches", "ends", "[I", true)
  | 2 => ("SmallTongues$Branches", "size", "I", false)
  | 3 => ("SmallTongues$Branches", "outward", "[I", true)
  | 4 => ("SmallTongues$Branches", "leafSets", "[I", true)
  | _ => ("SmallTongues$Branches", "sets", "[I", true)
def tyX0 : Nat → FieldType := fun k => match k with
  | 0 => .array .int
  | 1 => .array .int
  | 2 => .int
  | 3 => .array .int
  | 4 => .array .int
  | _ => .array .int
abbrev wsX00 : List Cond := u_ws RX0 TX0 6
theorem nmX0 : ∀ a, a < 6 → ∀ b, b < 6 → a ≠ b → (TX0 a).2.1 ≠ (TX0 b).2.1 := by decide +kernel
theorem tyX0_ok : ∀ k, k < 6 → parseFieldDescriptor (TX0 k).2.2.1 = some (tyX0 k) := by decide +kernel
abbrev cX0_init : ByteArray := prog_2_method_1_code
def yX0_init : MethodName := ⟨RX0, "<init>", "()V"⟩
abbrev cX0_whenSet : ByteArray := prog_2_method_2_code
def yX0_whenSet : MethodName := ⟨RX0, "whenSet", "(I)I"⟩
abbrev cX0_hang : ByteArray := prog_2_method_3_code
def yX0_hang : MethodName := ⟨RX0, "hang", "(III)V"⟩
abbrev cX0_grow : ByteArray := prog_2_method_4_code
def yX0_grow : MethodName := ⟨RX0, "grow", "(II)V"⟩
abbrev cX0_digit : ByteArray := prog_2_method_5_code
def yX0_digit : MethodName := ⟨RX0, "digit", "(III)I"⟩
abbrev cX0_add : ByteArray := prog_2_method_6_code
def yX0_add : MethodName := ⟨RX0, "add", "(II)V"⟩
abbrev cX0_setOn : ByteArray := prog_2_method_7_code
def yX0_setOn : MethodName := ⟨RX0, "setOn", "(III)V"⟩
abbrev cX0_orderOutward : ByteArray := prog_2_method_8_code
def yX0_orderOutward : MethodName := ⟨RX0, "orderOutward", "()V"⟩
abbrev cX0_fewestChanges : ByteArray := prog_2_method_9_code
def yX0_fewestChanges : MethodName := ⟨RX0, "fewestChanges", "(I)I"⟩
def RX1 : String := "SmallTongues$CoinEvent"
def TX1 : u_T := fun k => match k with
  | 0 => ("SmallTongues$Event", "number", "I", true)
  | 1 => ("SmallTongues$Event", "year", "I", true)
  | 2 => ("SmallTongues$Event", "tongueNumber", "I", true)
  | 3 => ("SmallTongues$Event", "lawNumber", "I", true)
  | 4 => ("SmallTongues$Event", "meaningNumber", "I", true)
  | 5 => ("SmallTongues$Event", "bodies", "[I", true)
  | _ => ("SmallTongues$Event", "ran", "I", false)
def tyX1 : Nat → FieldType := fun k => match k with
  | 0 => .int
  | 1 => .int
  | 2 => .int
  | 3 => .int
  | 4 => .int
  | 5 => .array .int
  | _ => .int
abbrev wsX10 : List Cond := u_ws RX1 TX1 7
theorem nmX1 : ∀ a, a < 7 → ∀ b, b < 7 → a ≠ b → (TX1 a).2.1 ≠ (TX1 b).2.1 := by decide +kernel
theorem tyX1_ok : ∀ k, k < 7 → parseFieldDescriptor (TX1 k).2.2.1 = some (tyX1 k) := by decide +kernel
abbrev cX1_init : ByteArray := prog_3_method_1_code
def yX1_init : MethodName := ⟨RX1, "<init>", "(IIIII)V"⟩
abbrev cX1_kindNumber : ByteArray := prog_3_method_2_code
def yX1_kindNumber : MethodName := ⟨RX1, "kindNumber", "()I"⟩
abbrev cX1_marks : ByteArray := prog_3_method_3_code
def yX1_marks : MethodName := ⟨RX1, "marks", "(I)I"⟩
def RX2 : String := "SmallTongues$Event"
def TX2 : u_T := fun k => match k with
  | _ => ("", "", "", false)
def tyX2 : Nat → FieldType := fun k => match k with
  | _ => .int
abbrev wsX20 : List Cond := u_ws RX2 TX2 0
theorem nmX2 : ∀ a, a < 0 → ∀ b, b < 0 → a ≠ b → (TX2 a).2.1 ≠ (TX2 b).2.1 := by decide +kernel
theorem tyX2_ok : ∀ k, k < 0 → parseFieldDescriptor (TX2 k).2.2.1 = some (tyX2 k) := by decide +kernel
abbrev cX2_init : ByteArray := prog_4_method_1_code
def yX2_init : MethodName := ⟨RX2, "<init>", "(IIIII)V"⟩
abbrev cX2_tells : ByteArray := prog_4_method_3_code
def yX2_tells : MethodName := ⟨RX2, "tells", "(I)I"⟩
abbrev cX2_leads : ByteArray := prog_4_method_4_code
def yX2_leads : MethodName := ⟨RX2, "leads", "(I)I"⟩
abbrev cX2_marks : ByteArray := prog_4_method_5_code
def yX2_marks : MethodName := ⟨RX2, "marks", "(I)I"⟩
abbrev cX2_begin : ByteArray := prog_4_method_6_code
def yX2_begin : MethodName := ⟨RX2, "begin", "(I)V"⟩
def RX3 : String := "SmallTongues$ForgetEvent"
def TX3 : u_T := fun k => match k with
  | 0 => ("SmallTongues$Event", "number", "I", true)
  | 1 => ("SmallTongues$Event", "year", "I", true)
  | 2 => ("SmallTongues$Event", "tongueNumber", "I", true)
  | 3 => ("SmallTongues$Event", "lawNumber", "I", true)
  | 4 => ("SmallTongues$Event", "meaningNumber", "I", true)
  | 5 => ("SmallTongues$Event", "bodies", "[I", true)
  | _ => ("SmallTongues$Event", "ran", "I", false)
def tyX3 : Nat → FieldType := fun k => match k with
  | 0 => .int
  | 1 => .int
  | 2 => .int
  | 3 => .int
  | 4 => .int
  | 5 => .array .int
  | _ => .int
abbrev wsX30 : List Cond := u_ws RX3 TX3 7
theorem nmX3 : ∀ a, a < 7 → ∀ b, b < 7 → a ≠ b → (TX3 a).2.1 ≠ (TX3 b).2.1 := by decide +kernel
theorem tyX3_ok : ∀ k, k < 7 → parseFieldDescriptor (TX3 k).2.2.1 = some (tyX3 k) := by decide +kernel
abbrev cX3_init : ByteArray := prog_5_method_1_code
def yX3_init : MethodName := ⟨RX3, "<init>", "(IIIII)V"⟩
abbrev cX3_kindNumber : ByteArray := prog_5_method_2_code
def yX3_kindNumber : MethodName := ⟨RX3, "kindNumber", "()I"⟩
abbrev cX3_tells : ByteArray := prog_5_method_3_code
def yX3_tells : MethodName := ⟨RX3, "tells", "(I)I"⟩
def RX4 : String := "SmallTongues$Law"
def TX4 : u_T := fun k => match k with
  | 0 => ("SmallTongues$Law", "signs", "[I", true)
  | 1 => ("SmallTongues$Law", "becomes", "[I", true)
  | 2 => ("SmallTongues$Law", "lefts", "[I", true)
  | 3 => ("SmallTongues$Law", "rights", "[I", true)
  | 4 => ("SmallTongues$Law", "before", "[I", true)
  | _ => ("SmallTongues$Law", "changes", "I", false)
def tyX4 : Nat → FieldType := fun k => match k with
  | 0 => .array .int
  | 1 => .array .int
  | 2 => .array .int
  | 3 => .array .int
  | 4 => .array .int
  | _ => .int
abbrev wsX40 : List Cond := u_ws RX4 TX4 6
theorem nmX4 : ∀ a, a < 6 → ∀ b, b < 6 → a ≠ b → (TX4 a).2.1 ≠ (TX4 b).2.1 := by decide +kernel
theorem tyX4_ok : ∀ k, k < 6 → parseFieldDescriptor (TX4 k).2.2.1 = some (tyX4 k) := by decide +kernel
abbrev cX4_init : ByteArray := prog_6_method_1_code
def yX4_init : MethodName := ⟨RX4, "<init>", "()V"⟩
abbrev cX4_read : ByteArray := prog_6_method_2_code
def yX4_read : MethodName := ⟨RX4, "read", "([II)I"⟩
abbrev cX4_readChange : ByteArray := prog_6_method_3_code
def yX4_readChange : MethodName := ⟨RX4, "readChange", "([IIII)I"⟩
abbrev cX4_readSides : ByteArray := prog_6_method_4_code
def yX4_readSides : MethodName := ⟨RX4, "readSides", "([IIII)I"⟩
abbrev cX4_byteAt : ByteArray := prog_6_method_5_code
def yX4_byteAt : MethodName := ⟨RX4, "byteAt", "([III)I"⟩
abbrev cX4_isSign : ByteArray := prog_6_method_6_code
def yX4_isSign : MethodName := ⟨RX4, "isSign", "(I)Z"⟩
abbrev cX4_isSide : ByteArray := prog_6_method_7_code
def yX4_isSide : MethodName := ⟨RX4, "isSide", "(I)Z"⟩
abbrev cX4_comeOver : ByteArray := prog_6_method_8_code
def yX4_comeOver : MethodName := ⟨RX4, "comeOver", "(LSmallTongues$Word;)Z"⟩
abbrev cX4_letterFor : ByteArray := prog_6_method_9_code
def yX4_letterFor : MethodName := ⟨RX4, "letterFor", "(II)I"⟩
abbrev cX4_isBeside : ByteArray := prog_6_method_10_code
def yX4_isBeside : MethodName := ⟨RX4, "isBeside", "(III)Z"⟩
abbrev cX4_isSignOf : ByteArray := prog_6_method_11_code
def yX4_isSignOf : MethodName := ⟨RX4, "isSignOf", "(II)Z"⟩
def RX5 : String := "SmallTongues$LoanEvent"
def TX5 : u_T := fun k => match k with
  | 0 => ("SmallTongues$Event", "number", "I", true)
  | 1 => ("SmallTongues$Event", "year", "I", true)
  | 2 => ("SmallTongues$Event", "tongueNumber", "I", true)
  | 3 => ("SmallTongues$Event", "lawNumber", "I", true)
  | 4 => ("SmallTongues$Event", "meaningNumber", "I", true)
  | 5 => ("SmallTongues$Event", "bodies", "[I", true)
  | _ => ("SmallTongues$Event", "ran", "I", false)
def tyX5 : Nat → FieldType := fun k => match k with
  | 0 => .int
  | 1 => .int
  | 2 => .int
  | 3 => .int
  | 4 => .int
  | 5 => .array .int
  | _ => .int
abbrev wsX50 : List Cond := u_ws RX5 TX5 7
theorem nmX5 : ∀ a, a < 7 → ∀ b, b < 7 → a ≠ b → (TX5 a).2.1 ≠ (TX5 b).2.1 := by decide +kernel
theorem tyX5_ok : ∀ k, k < 7 → parseFieldDescriptor (TX5 k).2.2.1 = some (tyX5 k) := by decide +kernel
abbrev cX5_init : ByteArray := prog_7_method_1_code
def yX5_init : MethodName := ⟨RX5, "<init>", "(IIIII)V"⟩
abbrev cX5_kindNumber : ByteArray := prog_7_method_2_code
def yX5_kindNumber : MethodName := ⟨RX5, "kindNumber", "()I"⟩
abbrev cX5_leads : ByteArray := prog_7_method_3_code
def yX5_leads : MethodName := ⟨RX5, "leads", "(I)I"⟩
def RX6 : String := "SmallTongues$ShortEvent"
def TX6 : u_T := fun k => match k with
  | 0 => ("SmallTongues$Event", "number", "I", true)
  | 1 => ("SmallTongues$Event", "year", "I", true)
  | 2 => ("SmallTongues$Event", "tongueNumber", "I", true)
  | 3 => ("SmallTongues$Event", "lawNumber", "I", true)
  | 4 => ("SmallTongues$Event", "meaningNumber", "I", true)
  | 5 => ("SmallTongues$Event", "bodies", "[I", true)
  | _ => ("SmallTongues$Event", "ran", "I", false)
def tyX6 : Nat → FieldType := fun k => match k with
  | 0 => .int
  | 1 => .int
  | 2 => .int
  | 3 => .int
  | 4 => .int
  | 5 => .array .int
  | _ => .int
abbrev wsX60 : List Cond := u_ws RX6 TX6 7
theorem nmX6 : ∀ a, a < 7 → ∀ b, b < 7 → a ≠ b → (TX6 a).2.1 ≠ (TX6 b).2.1 := by decide +kernel
theorem tyX6_ok : ∀ k, k < 7 → parseFieldDescriptor (TX6 k).2.2.1 = some (tyX6 k) := by decide +kernel
abbrev cX6_init : ByteArray := prog_8_method_1_code
def yX6_init : MethodName := ⟨RX6, "<init>", "(IIIII)V"⟩
abbrev cX6_kindNumber : ByteArray := prog_8_method_2_code
def yX6_kindNumber : MethodName := ⟨RX6, "kindNumber", "()I"⟩
abbrev cX6_leads : ByteArray := prog_8_method_3_code
def yX6_leads : MethodName := ⟨RX6, "leads", "(I)I"⟩
def RX7 : String := "SmallTongues$SideBySide"
def TX7 : u_T := fun k => match k with
  | 0 => ("SmallTongues$SideBySide", "least", "[I", true)
  | 1 => ("SmallTongues$SideBySide", "pairs", "[I", true)
  | _ => ("SmallTongues$SideBySide", "places", "I", false)
def tyX7 : Nat → FieldType := fun k => match k with
  | 0 => .array .int
  | 1 => .array .int
  | _ => .int
abbrev wsX70 : List Cond := u_ws RX7 TX7 3
theorem nmX7 : ∀ a, a < 3 → ∀ b, b < 3 → a ≠ b → (TX7 a).2.1 ≠ (TX7 b).2.1 := by decide +kernel
theorem tyX7_ok : ∀ k, k < 3 → parseFieldDescriptor (TX7 k).2.2.1 = some (tyX7 k) := by decide +kernel
abbrev cX7_init : ByteArray := prog_9_method_1_code
def yX7_init : MethodName := ⟨RX7, "<init>", "()V"⟩
abbrev cX7_leastCost : ByteArray := prog_9_method_2_code
def yX7_leastCost : MethodName := ⟨RX7, "leastCost", "(LSmallTongues$Word;LSmallTongues$Word;)I"⟩
abbrev cX7_costOfBoth : ByteArray := prog_9_method_3_code
def yX7_costOfBoth : MethodName := ⟨RX7, "costOfBoth", "(LSmallTongues$Word;LSmallTongues$Word;II)I"⟩
abbrev cX7_lay : ByteArray := prog_9_method_4_code
def yX7_lay : MethodName := ⟨RX7, "lay", "(LSmallTongues$Word;LSmallTongues$Word;)V"⟩
abbrev cX7_hasPair : ByteArray := prog_9_method_5_code
def yX7_hasPair : MethodName := ⟨RX7, "hasPair", "(I)Z"⟩
def RX8 : String := "SmallTongues$SoundEvent"
def TX8 : u_T := fun k => match k with
  | 0 => ("SmallTongues$Event", "number", "I", true)
  | 1 => ("SmallTongues$Event", "year", "I", true)
  | 2 => ("SmallTongues$Event", "tongueNumber", "I", true)
  | 3 => ("SmallTongues$Event", "lawNumber", "I", true)
  | 4 => ("SmallTongues$Event", "meaningNumber", "I", true)
  | 5 => ("SmallTongues$Event", "bodies", "[I", true)
  | _ => ("SmallTongues$Event", "ran", "I", false)
def tyX8 : Nat → FieldType := fun k => match k with
  | 0 => .int
  | 1 => .int
  | 2 => .int
  | 3 => .int
  | 4 => .int
  | 5 => .array .int
  | _ => .int
abbrev wsX80 : List Cond := u_ws RX8 TX8 7
theorem nmX8 : ∀ a, a < 7 → ∀ b, b < 7 → a ≠ b → (TX8 a).2.1 ≠ (TX8 b).2.1 := by decide +kernel
theorem tyX8_ok : ∀ k, k < 7 → parseFieldDescriptor (TX8 k).2.2.1 = some (tyX8 k) := by decide +kernel
abbrev cX8_init : ByteArray := prog_10_method_1_code
def yX8_init : MethodName := ⟨RX8, "<init>", "(IIIII)V"⟩
abbrev cX8_kindNumber : ByteArray := prog_10_method_2_code
def yX8_kindNumber : MethodName := ⟨RX8, "kindNumber", "()I"⟩
abbrev cX8_tells : ByteArray := prog_10_method_3_code
def yX8_tells : MethodName := ⟨RX8, "tells", "(I)I"⟩
def RX9 : String := "SmallTongues$SplitEvent"
def TX9 : u_T := fun k => match k with
  | 0 => ("SmallTongues$Event", "number", "I", true)
  | 1 => ("SmallTongues$Event", "year", "I", true)
  | 2 => ("SmallTongues$Event", "tongueNumber", "I", true)
  | 3 => ("SmallTongues$Event", "lawNumber", "I", true)
  | 4 => ("SmallTongues$Event", "meaningNumber", "I", true)
  | 5 => ("SmallTongues$Event", "bodies", "[I", true)
  | _ => ("SmallTongues$Event", "ran", "I", false)
def tyX9 : Nat → FieldType := fun k => match k with
  | 0 => .int
  | 1 => .int
  | 2 => .int
  | 3 => .int
  | 4 => .int
  | 5 => .array .int
  | _ => .int
abbrev wsX90 : List Cond := u_ws RX9 TX9 7
theorem nmX9 : ∀ a, a < 7 → ∀ b, b < 7 → a ≠ b → (TX9 a).2.1 ≠ (TX9 b).2.1 := by decide +kernel
theorem tyX9_ok : ∀ k, k < 7 → parseFieldDescriptor (TX9 k).2.2.1 = some (tyX9 k) := by decide +kernel
abbrev cX9_init : ByteArray := prog_11_method_1_code
def yX9_init : MethodName := ⟨RX9, "<init>", "(IIIII)V"⟩
abbrev cX9_kindNumber : ByteArray := prog_11_method_2_code
def yX9_kindNumber : MethodName := ⟨RX9, "kindNumber", "()I"⟩
abbrev cX9_marks : ByteArray := prog_11_method_3_code
def yX9_marks : MethodName := ⟨RX9, "marks", "(I)I"⟩
def RX10 : String := "SmallTongues$Word"
def TX10 : u_T := fun k => match k with
  | 0 => ("SmallTongues$Word", "letters", "[I", true)
  | 1 => ("SmallTongues$Word", "size", "I", false)
  | 2 => ("SmallTongues$Word", "root", "I", false)
  | 3 => ("SmallTongues$Word", "isLoan", "Z", false)
  | _ => ("SmallTongues$Word", "isHole", "Z", false)
def tyX10 : Nat → FieldType := fun k => match k with
  | 0 => .array .int
  | 1 => .int
  | 2 => .int
  | 3 => .boolean
  | _ => .boolean
abbrev wsX100 : List Cond := u_ws RX10 TX10 5
theorem nmX10 : ∀ a, a < 5 → ∀ b, b < 5 → a ≠ b → (TX10 a).2.1 ≠ (TX10 b).2.1 := by decide +kernel
theorem tyX10_ok : ∀ k, k < 5 → parseFieldDescriptor (TX10 k).2.2.1 = some (tyX10 k) := by decide +kernel
abbrev cX10_init : ByteArray := prog_12_method_1_code
def yX10_init : MethodName := ⟨RX10, "<init>", "()V"⟩
abbrev cX10_readSounds : ByteArray := prog_12_method_2_code
def yX10_readSounds : MethodName := ⟨RX10, "readSounds", "([II)V"⟩
abbrev cX10_copySounds : ByteArray := prog_12_method_3_code
def yX10_copySounds : MethodName := ⟨RX10, "copySounds", "(LSmallTongues$Word;)V"⟩
abbrev cX10_hasSoundsOf : ByteArray := prog_12_method_4_code
def yX10_hasSoundsOf : MethodName := ⟨RX10, "hasSoundsOf", "(LSmallTongues$Word;)Z"⟩
def RX11 : String := "SmallTongues"
def TX11 : u_T := fun k => match k with
  | 0 => ("SmallTongues", "tape", "[I", true)
  | 1 => ("SmallTongues", "tapeSize", "I", false)
  | 2 => ("SmallTongues", "words", "[LSmallTongues$Word;", true)
  | 3 => ("SmallTongues", "tongueCount", "I", false)
  | 4 => ("SmallTongues", "splits", "[I", true)
  | 5 => ("SmallTongues", "laws", "[LSmallTongues$Law;", true)
  | 6 => ("SmallTongues", "lawCount", "I", false)
  | 7 => ("SmallTongues", "events", "[LSmallTongues$Event;", true)
  | 8 => ("SmallTongues", "eventCount", "I", false)
  | 9 => ("SmallTongues", "latest", "LSmallTongues$Event;", false)
  | 10 => ("SmallTongues", "rootCount", "I", false)
  | 11 => ("SmallTongues", "now", "I", false)
  | 12 => ("SmallTongues", "isOpen", "Z", false)
  | 13 => ("SmallTongues", "kinLimit", "I", false)
  | 14 => ("SmallTongues", "claims", "[I", true)
  | 15 => ("SmallTongues", "claimCount", "I", false)
  | 16 => ("SmallTongues", "sides", "LSmallTongues$SideBySide;", true)
  | 17 => ("SmallTongues", "branches", "LSmallTongues$Branches;", true)
  | 18 => ("SmallTongues", "trial", "LSmallTongues$Word;", true)
  | _ => ("SmallTongues", "otherTrial", "LSmallTongues$Word;", true)
def tyX11 : Nat → FieldType := fun k => match k with
  | 0 => .array .int
  | 1 => .int
  | 2 => .array (.object "SmallTongues$Word")
  | 3 => .int
  | 4 => .array .int
  | 5 => .array (.object "SmallTongues$Law")
  | 6 => .int
  | 7 => .array (.object "SmallTongues$Event")
  | 8 => .int
  | 9 => .object "SmallTongues$Event"
  | 10 => .int
  | 11 => .int
  | 12 => .boolean
  | 13 => .int
  | 14 => .array .int
  | 15 => .int
  | 16 => .object "SmallTongues$SideBySide"
  | 17 => .object "SmallTongues$Branches"
  | 18 => .object "SmallTongues$Word"
  | _ => .object "SmallTongues$Word"
abbrev wsX110 : List Cond := u_ws RX11 TX11 20
theorem nmX11 : ∀ a, a < 20 → ∀ b, b < 20 → a ≠ b → (TX11 a).2.1 ≠ (TX11 b).2.1 := by decide +kernel
theorem tyX11_ok : ∀ k, k < 20 → parseFieldDescriptor (TX11 k).2.2.1 = some (tyX11 k) := by decide +kernel
abbrev cX11_init : ByteArray := prog_1_method_1_code
def yX11_init : MethodName := ⟨RX11, "<init>", "()V"⟩
abbrev cX11_tongue : ByteArray := prog_1_method_2_code
def yX11_tongue : MethodName := ⟨RX11, "tongue", "()I"⟩
abbrev cX11_years : ByteArray := prog_1_method_3_code
def yX11_years : MethodName := ⟨RX11, "years", "(I)I"⟩
abbrev cX11_feed : ByteArray := prog_1_method_4_code
def yX11_feed : MethodName := ⟨RX11, "feed", "(JI)I"⟩
abbrev cX11_law : ByteArray := prog_1_method_5_code
def yX11_law : MethodName := ⟨RX11, "law", "()I"⟩
abbrev cX11_coin : ByteArray := prog_1_method_6_code
def yX11_coin : MethodName := ⟨RX11, "coin", "(II)I"⟩
abbrev cX11_sound : ByteArray := prog_1_method_7_code
def yX11_sound : MethodName := ⟨RX11, "sound", "(II)I"⟩
abbrev cX11_shorten : ByteArray := prog_1_method_8_code
def yX11_shorten : MethodName := ⟨RX11, "shorten", "(II)I"⟩
abbrev cX11_loan : ByteArray := prog_1_method_9_code
def yX11_loan : MethodName := ⟨RX11, "loan", "(III)I"⟩
abbrev cX11_forget : ByteArray := prog_1_method_10_code
def yX11_forget : MethodName := ⟨RX11, "forget", "(II)I"⟩
abbrev cX11_split : ByteArray := prog_1_method_11_code
def yX11_split : MethodName := ⟨RX11, "split", "(I)I"⟩
abbrev cX11_word : ByteArray := prog_1_method_12_code
def yX11_word : MethodName := ⟨RX11, "word", "(III)I"⟩
abbrev cX11_open : ByteArray := prog_1_method_13_code
def yX11_open : MethodName := ⟨RX11, "open", "()I"⟩
abbrev cX11_truth : ByteArray := prog_1_method_14_code
def yX11_truth : MethodName := ⟨RX11, "truth", "(III)I"⟩
abbrev cX11_from : ByteArray := prog_1_method_15_code
def yX11_from : MethodName := ⟨RX11, "from", "(II)I"⟩
abbrev cX11_event : ByteArray := prog_1_method_16_code
def yX11_event : MethodName := ⟨RX11, "event", "(II)I"⟩
abbrev cX11_limit : ByteArray := prog_1_method_17_code
def yX11_limit : MethodName := ⟨RX11, "limit", "(I)I"⟩
abbrev cX11_hole : ByteArray := prog_1_method_18_code
def yX11_hole : MethodName := ⟨RX11, "hole", "(IIZ)I"⟩
abbrev cX11_cost : ByteArray := prog_1_method_19_code
def yX11_cost : MethodName := ⟨RX11, "cost", "(III)I"⟩
abbrev cX11_way : ByteArray := prog_1_method_20_code
def yX11_way : MethodName := ⟨RX11, "way", "(IIII)I"⟩
abbrev cX11_kin : ByteArray := prog_1_method_21_code
def yX11_kin : MethodName := ⟨RX11, "kin", "(III)I"⟩
abbrev cX11_set : ByteArray := prog_1_method_22_code
def yX11_set : MethodName := ⟨RX11, "set", "(II)I"⟩
abbrev cX11_odds : ByteArray := prog_1_method_23_code
def yX11_odds : MethodName := ⟨RX11, "odds", "(IIII)I"⟩
abbrev cX11_matches : ByteArray := prog_1_method_24_code
def yX11_matches : MethodName := ⟨RX11, "matches", "(IIII)I"⟩
abbrev cX11_far : ByteArray := prog_1_method_25_code
def yX11_far : MethodName := ⟨RX11, "far", "(III)I"⟩
abbrev cX11_borrowed : ByteArray := prog_1_method_26_code
def yX11_borrowed : MethodName := ⟨RX11, "borrowed", "(III)I"⟩
abbrev cX11_old : ByteArray := prog_1_method_27_code
def yX11_old : MethodName := ⟨RX11, "old", "(II)I"⟩
abbrev cX11_best : ByteArray := prog_1_method_28_code
def yX11_best : MethodName := ⟨RX11, "best", "(IIII)I"⟩
abbrev cX11_feeds : ByteArray := prog_1_method_29_code
def yX11_feeds : MethodName := ⟨RX11, "feeds", "(III)I"⟩
abbrev cX11_steps : ByteArray := prog_1_method_30_code
def yX11_steps : MethodName := ⟨RX11, "steps", "(II)I"⟩
abbrev cX11_tree : ByteArray := prog_1_method_31_code
def yX11_tree : MethodName := ⟨RX11, "tree", "(II)I"⟩
abbrev cX11_claim : ByteArray := prog_1_method_32_code
def yX11_claim : MethodName := ⟨RX11, "claim", "(IIIZI)I"⟩
abbrev cX11_right : ByteArray := prog_1_method_33_code
def yX11_right : MethodName := ⟨RX11, "right", "(I)I"⟩
abbrev cX11_sure : ByteArray := prog_1_method_34_code
def yX11_sure : MethodName := ⟨RX11, "sure", "(II)I"⟩
abbrev cX11_act : ByteArray := prog_1_method_35_code
def yX11_act : MethodName := ⟨RX11, "act", "(III)I"⟩
abbrev cX11_trace : ByteArray := prog_1_method_36_code
def yX11_trace : MethodName := ⟨RX11, "trace", "(I)I"⟩
abbrev cX11_as : ByteArray := prog_1_method_37_code
def yX11_as : MethodName := ⟨RX11, "as", "(II)I"⟩
abbrev cX11_count : ByteArray := prog_1_method_38_code
def yX11_count : MethodName := ⟨RX11, "count", "(I)I"⟩
abbrev cX11_oneIf : ByteArray := prog_1_method_39_code
def yX11_oneIf : MethodName := ⟨RX11, "oneIf", "(Z)I"⟩
abbrev cX11_isTongue : ByteArray := prog_1_method_40_code
def yX11_isTongue : MethodName := ⟨RX11, "isTongue", "(I)Z"⟩
abbrev cX11_isMeaning : ByteArray := prog_1_method_41_code
def yX11_isMeaning : MethodName := ⟨RX11, "isMeaning", "(I)Z"⟩
abbrev cX11_isLaw : ByteArray := prog_1_method_42_code
def yX11_isLaw : MethodName := ⟨RX11, "isLaw", "(I)Z"⟩
abbrev cX11_isSureness : ByteArray := prog_1_method_43_code
def yX11_isSureness : MethodName := ⟨RX11, "isSureness", "(I)Z"⟩
abbrev cX11_isSoundOrNothing : ByteArray := prog_1_method_44_code
def yX11_isSoundOrNothing : MethodName := ⟨RX11, "isSoundOrNothing", "(I)Z"⟩
abbrev cX11_isLetterByte : ByteArray := prog_1_method_45_code
def yX11_isLetterByte : MethodName := ⟨RX11, "isLetterByte", "(I)Z"⟩
abbrev cX11_isVowel : ByteArray := prog_1_method_46_code
def yX11_isVowel : MethodName := ⟨RX11, "isVowel", "(I)Z"⟩
abbrev cX11_spokenWord : ByteArray := prog_1_method_47_code
def yX11_spokenWord : MethodName := ⟨RX11, "spokenWord", "(II)LSmallTongues$Word;"⟩
abbrev cX11_listedWord : ByteArray := prog_1_method_48_code
def yX11_listedWord : MethodName := ⟨RX11, "listedWord", "(II)LSmallTongues$Word;"⟩
abbrev cX11_eventAt : ByteArray := prog_1_method_49_code
def yX11_eventAt : MethodName := ⟨RX11, "eventAt", "(I)LSmallTongues$Event;"⟩
abbrev cX11_isOfKind : ByteArray := prog_1_method_50_code
def yX11_isOfKind : MethodName := ⟨RX11, "isOfKind", "(LSmallTongues$Event;I)Z"⟩
abbrev cX11_newTongue : ByteArray := prog_1_method_51_code
def yX11_newTongue : MethodName := ⟨RX11, "newTongue", "(II)I"⟩
abbrev cX11_happen : ByteArray := prog_1_method_52_code
def yX11_happen : MethodName := ⟨RX11, "happen", "(LSmallTongues$Event;)V"⟩
abbrev cX11_faultOfWord : ByteArray := prog_1_method_53_code
def yX11_faultOfWord : MethodName := ⟨RX11, "faultOfWord", "(I)I"⟩
abbrev cX11_areKin : ByteArray := prog_1_method_54_code
def yX11_areKin : MethodName := ⟨RX11, "areKin", "(LSmallTongues$Word;LSmallTongues$Word;)Z"⟩
abbrev cX11_kinSet : ByteArray := prog_1_method_55_code
def yX11_kinSet : MethodName := ⟨RX11, "kinSet", "(II)I"⟩
abbrev cX11_meaningsOfBoth : ByteArray := prog_1_method_56_code
def yX11_meaningsOfBoth : MethodName := ⟨RX11, "meaningsOfBoth", "(II)I"⟩
abbrev cX11_costsTogether : ByteArray := prog_1_method_57_code
def yX11_costsTogether : MethodName := ⟨RX11, "costsTogether", "(III)I"⟩
abbrev cX11_costsWithOthers : ByteArray := prog_1_method_58_code
def yX11_costsWithOthers : MethodName := ⟨RX11, "costsWithOthers", "(II)I"⟩
abbrev cX11_firstOrder : ByteArray := prog_1_method_59_code
def yX11_firstOrder : MethodName := ⟨RX11, "firstOrder", "(I)[I"⟩
abbrev cX11_toNextOrder : ByteArray := prog_1_method_60_code
def yX11_toNextOrder : MethodName := ⟨RX11, "toNextOrder", "([II)Z"⟩
abbrev cX11_swap : ByteArray := prog_1_method_61_code
def yX11_swap : MethodName := ⟨RX11, "swap", "([III)V"⟩
abbrev cX11_comeOut : ByteArray := prog_1_method_62_code
def yX11_comeOut : MethodName := ⟨RX11, "comeOut", "(II[II)I"⟩
abbrev cX11_isOrderFelt : ByteArray := prog_1_method_63_code
def yX11_isOrderFelt : MethodName := ⟨RX11, "isOrderFelt", "(LSmallTongues$Word;LSmallTongues$Law;LSmallTongues$Law;)Z"⟩
abbrev cX11_areLeaves : ByteArray := prog_1_method_64_code
def yX11_areLeaves : MethodName := ⟨RX11, "areLeaves", "(I)Z"⟩
abbrev cX11_treesOf : ByteArray := prog_1_method_65_code
def yX11_treesOf : MethodName := ⟨RX11, "treesOf", "(I)I"⟩
abbrev cX11_hangSets : ByteArray := prog_1_method_66_code
def yX11_hangSets : MethodName := ⟨RX11, "hangSets", "()V"⟩
abbrev cX11_stepsOf : ByteArray := prog_1_method_67_code
def yX11_stepsOf : MethodName := ⟨RX11, "stepsOf", "(II)I"⟩
def RX12 : String := "SmallTonguesModel"
def TX12 : u_T := fun k => match k with
  | 0 => ("SmallTonguesModel", "thrown", "I", false)
  | 1 => ("SmallTonguesModel", "tongues", "I", false)
  | 2 => ("SmallTonguesModel", "now", "I", false)
  | 3 => ("SmallTonguesModel", "laws", "I", false)
  | 4 => ("SmallTonguesModel", "events", "I", false)
  | 5 => ("SmallTonguesModel", "roots", "I", false)
  | 6 => ("SmallTonguesModel", "claims", "I", false)
  | 7 => ("SmallTonguesModel", "taped", "I", false)
  | 8 => ("SmallTonguesModel", "limit", "I", false)
  | 9 => ("SmallTonguesModel", "isOpen", "Z", false)
  | 10 => ("SmallTonguesModel", "tape", "[I", true)
  | 11 => ("SmallTonguesModel", "longs", "[I", true)
  | 12 => ("SmallTonguesModel", "sounds", "[I", true)
  | 13 => ("SmallTonguesModel", "root", "[I", true)
  | 14 => ("SmallTonguesModel", "isLoan", "[Z", true)
  | 15 => ("SmallTonguesModel", "isHole", "[Z", true)
  | 16 => ("SmallTonguesModel", "from", "[I", true)
  | 17 => ("SmallTonguesModel", "when", "[I", true)
  | 18 => ("SmallTonguesModel", "changes", "[I", true)
  | 19 => ("SmallTonguesModel", "sign", "[I", true)
  | 20 => ("SmallTonguesModel", "becomes", "[I", true)
  | 21 => ("SmallTonguesModel", "left", "[I", true)
  | 22 => ("SmallTonguesModel", "right", "[I", true)
  | 23 => ("SmallTonguesModel", "eventKind", "[I", true)
  | 24 => ("SmallTonguesModel", "eventYear", "[I", true)
  | 25 => ("SmallTonguesModel", "eventTongue", "[I", true)
  | 26 => ("SmallTonguesModel", "eventLaw", "[I", true)
  | 27 => ("SmallTonguesModel", "eventMeaning", "[I", true)
  | 28 => ("SmallTonguesModel", "claimSure", "[I", true)
  | 29 => ("SmallTonguesModel", "claimRight", "[Z", true)
  | 30 => ("SmallTonguesModel", "spot", "I", false)
  | 31 => ("SmallTonguesModel", "size", "I", false)
  | 32 => ("SmallTonguesModel", "isWrong", "Z", false)
  | 33 => ("SmallTonguesModel", "word", "[I", true)
  | 34 => ("SmallTonguesModel", "ahead", "[I", true)
  | 35 => ("SmallTonguesModel", "many", "I", false)
  | 36 => ("SmallTonguesModel", "rest", "[I", true)
  | 37 => ("SmallTonguesModel", "way", "[I", true)
  | 38 => ("SmallTonguesModel", "places", "I", false)
  | 39 => ("SmallTonguesModel", "sumCosts", "I", false)
  | 40 => ("SmallTonguesModel", "sumMany", "I", false)
  | 41 => ("SmallTonguesModel", "told", "[I", true)
  | 42 => ("SmallTonguesModel", "row", "[I", true)
  | 43 => ("SmallTonguesModel", "bestRow", "[I", true)
  | 44 => ("SmallTonguesModel", "tolds", "I", false)
  | 45 => ("SmallTonguesModel", "bestMany", "I", false)
  | 46 => ("SmallTonguesModel", "bestExcept", "I", false)
  | 47 => ("SmallTonguesModel", "oneWay", "[I", true)
  | 48 => ("SmallTonguesModel", "leaves", "[I", true)
  | 49 => ("SmallTonguesModel", "begins", "[I", true)
  | 50 => ("SmallTonguesModel", "ends", "[I", true)
  | 51 => ("SmallTonguesModel", "leafMany", "I", false)
  | 52 => ("SmallTonguesModel", "branches", "I", false)
  | 53 => ("SmallTonguesModel", "knots", "I", false)
  | 54 => ("SmallTonguesModel", "sets", "[I", true)
  | 55 => ("SmallTonguesModel", "least", "[I", true)
  | 56 => ("SmallTonguesModel", "bodies", "[I", true)
  | 57 => ("SmallTonguesModel", "ran", "I", false)
  | 58 => ("SmallTonguesModel", "kind", "I", false)
  | 59 => ("SmallTonguesModel", "number", "I", false)
  | _ => ("SmallTonguesModel", "year", "I", false)
def tyX12 : Nat → FieldType := fun k => match k with
  | 0 => .int
  | 1 => .int
  | 2 => .int
  | 3 => .int
  | 4 => .int
  | 5 => .int
  | 6 => .int
  | 7 => .int
  | 8 => .int
  | 9 => .boolean
  | 10 => .array .int
  | 11 => .array .int
  | 12 => .array .int
  | 13 => .array .int
  | 14 => .array .boolean
  | 15 => .array .boolean
  | 16 => .array .int
  | 17 => .array .int
  | 18 => .array .int
  | 19 => .array .int
  | 20 => .array .int
  | 21 => .array .int
  | 22 => .array .int
  | 23 => .array .int
  | 24 => .array .int
  | 25 => .array .int
  | 26 => .array .int
  | 27 => .array .int
  | 28 => .array .int
  | 29 => .array .boolean
  | 30 => .int
  | 31 => .int
  | 32 => .boolean
  | 33 => .array .int
  | 34 => .array .int
  | 35 => .int
  | 36 => .array .int
  | 37 => .array .int
  | 38 => .int
  | 39 => .int
  | 40 => .int
  | 41 => .array .int
  | 42 => .array .int
  | 43 => .array .int
  | 44 => .int
  | 45 => .int
  | 46 => .int
  | 47 => .array .int
  | 48 => .array .int
  | 49 => .array .int
  | 50 => .array .int
  | 51 => .int
  | 52 => .int
  | 53 => .int
  | 54 => .array .int
  | 55 => .array .int
  | 56 => .array .int
  | 57 => .int
  | 58 => .int
  | 59 => .int
  | _ => .int
abbrev wsX120 : List Cond := u_ws RX12 TX12 61
theorem nmX12 : ∀ a, a < 61 → ∀ b, b < 61 → a ≠ b → (TX12 a).2.1 ≠ (TX12 b).2.1 := by decide +kernel
theorem tyX12_ok : ∀ k, k < 61 → parseFieldDescriptor (TX12 k).2.2.1 = some (tyX12 k) := by decide +kernel
abbrev cX12_init : ByteArray := prog_14_method_1_code
def yX12_init : MethodName := ⟨RX12, "<init>", "()V"⟩
abbrev cX12_in : ByteArray := prog_14_method_3_code
def yX12_in : MethodName := ⟨RX12, "in", "(III)Z"⟩
abbrev cX12_isTongue : ByteArray := prog_14_method_4_code
def yX12_isTongue : MethodName := ⟨RX12, "isTongue", "(I)Z"⟩
abbrev cX12_isMeaning : ByteArray := prog_14_method_5_code
def yX12_isMeaning : MethodName := ⟨RX12, "isMeaning", "(I)Z"⟩
abbrev cX12_isLaw : ByteArray := prog_14_method_6_code
def yX12_isLaw : MethodName := ⟨RX12, "isLaw", "(I)Z"⟩
abbrev cX12_hasWord : ByteArray := prog_14_method_7_code
def yX12_hasWord : MethodName := ⟨RX12, "hasWord", "(II)Z"⟩
abbrev cX12_tongue : ByteArray := prog_14_method_8_code
def yX12_tongue : MethodName := ⟨RX12, "tongue", "()I"⟩
abbrev cX12_years : ByteArray := prog_14_method_9_code
def yX12_years : MethodName := ⟨RX12, "years", "(I)I"⟩
abbrev cX12_feed : ByteArray := prog_14_method_10_code
def yX12_feed : MethodName := ⟨RX12, "feed", "(JI)I"⟩
abbrev cX12_here : ByteArray := prog_14_method_11_code
def yX12_here : MethodName := ⟨RX12, "here", "()I"⟩
abbrev cX12_must : ByteArray := prog_14_method_12_code
def yX12_must : MethodName := ⟨RX12, "must", "(I)V"⟩
abbrev cX12_part : ByteArray := prog_14_method_13_code
def yX12_part : MethodName := ⟨RX12, "part", "()I"⟩
abbrev cX12_side : ByteArray := prog_14_method_14_code
def yX12_side : MethodName := ⟨RX12, "side", "()I"⟩
abbrev cX12_reads : ByteArray := prog_14_method_15_code
def yX12_reads : MethodName := ⟨RX12, "reads", "(I)V"⟩
abbrev cX12_law : ByteArray := prog_14_method_16_code
def yX12_law : MethodName := ⟨RX12, "law", "()I"⟩
abbrev cX12_isVowel : ByteArray := prog_14_method_17_code
def yX12_isVowel : MethodName := ⟨RX12, "isVowel", "(I)Z"⟩
abbrev cX12_isAs : ByteArray := prog_14_method_18_code
def yX12_isAs : MethodName := ⟨RX12, "isAs", "(II)Z"⟩
abbrev cX12_stands : ByteArray := prog_14_method_19_code
def yX12_stands : MethodName := ⟨RX12, "stands", "(II)Z"⟩
abbrev cX12_changeOf : ByteArray := prog_14_method_20_code
def yX12_changeOf : MethodName := ⟨RX12, "changeOf", "(II)I"⟩
abbrev cX12_applies : ByteArray := prog_14_method_21_code
def yX12_applies : MethodName := ⟨RX12, "applies", "(I)V"⟩
abbrev cX12_takes : ByteArray := prog_14_method_22_code
def yX12_takes : MethodName := ⟨RX12, "takes", "(II)V"⟩
abbrev cX12_isWord : ByteArray := prog_14_method_23_code
def yX12_isWord : MethodName := ⟨RX12, "isWord", "(II)Z"⟩
abbrev cX12_puts : ByteArray := prog_14_method_24_code
def yX12_puts : MethodName := ⟨RX12, "puts", "(II)V"⟩
abbrev cX12_happens : ByteArray := prog_14_method_25_code
def yX12_happens : MethodName := ⟨RX12, "happens", "(IIII)V"⟩
abbrev cX12_coin : ByteArray := prog_14_method_26_code
def yX12_coin : MethodName := ⟨RX12, "coin", "(II)I"⟩
abbrev cX12_sound : ByteArray := prog_14_method_27_code
def yX12_sound : MethodName := ⟨RX12, "sound", "(II)I"⟩
abbrev cX12_shorten : ByteArray := prog_14_method_28_code
def yX12_shorten : MethodName := ⟨RX12, "shorten", "(II)I"⟩
abbrev cX12_loan : ByteArray := prog_14_method_29_code
def yX12_loan : MethodName := ⟨RX12, "loan", "(III)I"⟩
abbrev cX12_forget : ByteArray := prog_14_method_30_code
def yX12_forget : MethodName := ⟨RX12, "forget", "(II)I"⟩
abbrev cX12_split : ByteArray := prog_14_method_31_code
def yX12_split : MethodName := ⟨RX12, "split", "(I)I"⟩
abbrev cX12_word : ByteArray := prog_14_method_32_code
def yX12_word : MethodName := ⟨RX12, "word", "(III)I"⟩
abbrev cX12_open : ByteArray := prog_14_method_33_code
def yX12_open : MethodName := ⟨RX12, "open", "()I"⟩
abbrev cX12_truth : ByteArray := prog_14_method_34_code
def yX12_truth : MethodName := ⟨RX12, "truth", "(III)I"⟩
abbrev cX12_from : ByteArray := prog_14_method_35_code
def yX12_from : MethodName := ⟨RX12, "from", "(II)I"⟩
abbrev cX12_event : ByteArray := prog_14_method_36_code
def yX12_event : MethodName := ⟨RX12, "event", "(II)I"⟩
abbrev cX12_limit : ByteArray := prog_14_method_37_code
def yX12_limit : MethodName := ⟨RX12, "limit", "(I)I"⟩
abbrev cX12_hole : ByteArray := prog_14_method_38_code
def yX12_hole : MethodName := ⟨RX12, "hole", "(IIZ)I"⟩
abbrev cX12_has : ByteArray := prog_14_method_39_code
def yX12_has : MethodName := ⟨RX12, "has", "(II)Z"⟩
abbrev cX12_apart : ByteArray := prog_14_method_40_code
def yX12_apart : MethodName := ⟨RX12, "apart", "(II)I"⟩
abbrev cX12_costOf : ByteArray := prog_14_method_41_code
def yX12_costOf : MethodName := ⟨RX12, "costOf", "(IIII)I"⟩
abbrev cX12_cost : ByteArray := prog_14_method_42_code
def yX12_cost : MethodName := ⟨RX12, "cost", "(III)I"⟩
abbrev cX12_walks : ByteArray := prog_14_method_43_code
def yX12_walks : MethodName := ⟨RX12, "walks", "(III)V"⟩
abbrev cX12_way : ByteArray := prog_14_method_44_code
def yX12_way : MethodName := ⟨RX12, "way", "(IIII)I"⟩
abbrev cX12_areKin : ByteArray := prog_14_method_45_code
def yX12_areKin : MethodName := ⟨RX12, "areKin", "(IIII)Z"⟩
abbrev cX12_kin : ByteArray := prog_14_method_46_code
def yX12_kin : MethodName := ⟨RX12, "kin", "(III)I"⟩
abbrev cX12_setOf : ByteArray := prog_14_method_47_code
def yX12_setOf : MethodName := ⟨RX12, "setOf", "(II)I"⟩
abbrev cX12_set : ByteArray := prog_14_method_48_code
def yX12_set : MethodName := ⟨RX12, "set", "(II)I"⟩
abbrev cX12_odds : ByteArray := prog_14_method_49_code
def yX12_odds : MethodName := ⟨RX12, "odds", "(IIII)I"⟩
abbrev cX12_matches : ByteArray := prog_14_method_50_code
def yX12_matches : MethodName := ⟨RX12, "matches", "(IIII)I"⟩
abbrev cX12_sums : ByteArray := prog_14_method_51_code
def yX12_sums : MethodName := ⟨RX12, "sums", "(III)V"⟩
abbrev cX12_far : ByteArray := prog_14_method_52_code
def yX12_far : MethodName := ⟨RX12, "far", "(III)I"⟩
abbrev cX12_borrowed : ByteArray := prog_14_method_53_code
def yX12_borrowed : MethodName := ⟨RX12, "borrowed", "(III)I"⟩
abbrev cX12_old : ByteArray := prog_14_method_54_code
def yX12_old : MethodName := ⟨RX12, "old", "(II)I"⟩
abbrev cX12_tries : ByteArray := prog_14_method_55_code
def yX12_tries : MethodName := ⟨RX12, "tries", "(II)V"⟩
abbrev cX12_orders : ByteArray := prog_14_method_56_code
def yX12_orders : MethodName := ⟨RX12, "orders", "(IIII)V"⟩
abbrev cX12_count1 : ByteArray := prog_14_method_57_code
def yX12_count1 : MethodName := ⟨RX12, "count1", "(I)I"⟩
abbrev cX12_best : ByteArray := prog_14_method_58_code
def yX12_best : MethodName := ⟨RX12, "best", "(IIII)I"⟩
abbrev cX12_feeds : ByteArray := prog_14_method_59_code
def yX12_feeds : MethodName := ⟨RX12, "feeds", "(III)I"⟩
abbrev cX12_refuses : ByteArray := prog_14_method_60_code
def yX12_refuses : MethodName := ⟨RX12, "refuses", "(I)I"⟩
abbrev cX12_trees : ByteArray := prog_14_method_61_code
def yX12_trees : MethodName := ⟨RX12, "trees", "()I"⟩
abbrev cX12_grows : ByteArray := prog_14_method_62_code
def yX12_grows : MethodName := ⟨RX12, "grows", "(I)V"⟩
abbrev cX12_below : ByteArray := prog_14_method_63_code
def yX12_below : MethodName := ⟨RX12, "below", "(III)I"⟩
abbrev cX12_stepsOf : ByteArray := prog_14_method_64_code
def yX12_stepsOf : MethodName := ⟨RX12, "stepsOf", "(I)I"⟩
abbrev cX12_steps : ByteArray := prog_14_method_65_code
def yX12_steps : MethodName := ⟨RX12, "steps", "(II)I"⟩
abbrev cX12_tree : ByteArray := prog_14_method_66_code
def yX12_tree : MethodName := ⟨RX12, "tree", "(II)I"⟩
abbrev cX12_claim : ByteArray := prog_14_method_67_code
def yX12_claim : MethodName := ⟨RX12, "claim", "(IIIZI)I"⟩
abbrev cX12_right : ByteArray := prog_14_method_68_code
def yX12_right : MethodName := ⟨RX12, "right", "(I)I"⟩
abbrev cX12_sure : ByteArray := prog_14_method_69_code
def yX12_sure : MethodName := ⟨RX12, "sure", "(II)I"⟩
abbrev cX12_runs : ByteArray := prog_14_method_70_code
def yX12_runs : MethodName := ⟨RX12, "runs", "(I)V"⟩
abbrev cX12_isUnder : ByteArray := prog_14_method_71_code
def yX12_isUnder : MethodName := ⟨RX12, "isUnder", "(II)Z"⟩
abbrev cX12_plainTells : ByteArray := prog_14_method_72_code
def yX12_plainTells : MethodName := ⟨RX12, "plainTells", "(I)I"⟩
abbrev cX12_tells : ByteArray := prog_14_method_73_code
def yX12_tells : MethodName := ⟨RX12, "tells", "(I)I"⟩
abbrev cX12_plainLeads : ByteArray := prog_14_method_74_code
def yX12_plainLeads : MethodName := ⟨RX12, "plainLeads", "(I)I"⟩
abbrev cX12_leads : ByteArray := prog_14_method_75_code
def yX12_leads : MethodName := ⟨RX12, "leads", "(I)I"⟩
abbrev cX12_plainMarks : ByteArray := prog_14_method_76_code
def yX12_plainMarks : MethodName := ⟨RX12, "plainMarks", "(I)I"⟩
abbrev cX12_marks : ByteArray := prog_14_method_77_code
def yX12_marks : MethodName := ⟨RX12, "marks", "(I)I"⟩
abbrev cX12_act : ByteArray := prog_14_method_78_code
def yX12_act : MethodName := ⟨RX12, "act", "(III)I"⟩
abbrev cX12_trace : ByteArray := prog_14_method_79_code
def yX12_trace : MethodName := ⟨RX12, "trace", "(I)I"⟩
abbrev cX12_as : ByteArray := prog_14_method_80_code
def yX12_as : MethodName := ⟨RX12, "as", "(II)I"⟩
abbrev cX12_count : ByteArray := prog_14_method_81_code
def yX12_count : MethodName := ⟨RX12, "count", "(I)I"⟩
def RJ6 : String := "java/lang/Integer"
def TJ6 : u_T := fun k => match k with
  | _ => ("", "", "", false)
def tyJ6 : Nat → FieldType := fun k => match k with
  | _ => .int
abbrev wsJ60 : List Cond := u_ws RJ6 TJ6 0
theorem nmJ6 : ∀ a, a < 0 → ∀ b, b < 0 → a ≠ b → (TJ6 a).2.1 ≠ (TJ6 b).2.1 := by decide +kernel
theorem tyJ6_ok : ∀ k, k < 0 → parseFieldDescriptor (TJ6 k).2.2.1 = some (tyJ6 k) := by decide +kernel
abbrev cJ6_numberOfTrailingZeros_0f7a4 : ByteArray := prog_15_method_48_code
def yJ6_numberOfTrailingZeros_0f7a4 : MethodName := ⟨RJ6, "numberOfTrailingZeros", "(I)I"⟩
abbrev cJ6_bitCount_0f7a4 : ByteArray := prog_15_method_49_code
def yJ6_bitCount_0f7a4 : MethodName := ⟨RJ6, "bitCount", "(I)I"⟩
def RJ9 : String := "java/lang/Math"
def TJ9 : u_T := fun k => match k with
  | _ => ("", "", "", false)
def tyJ9 : Nat → FieldType := fun k => match k with
  | _ => .int
abbrev wsJ90 : List Cond := u_ws RJ9 TJ9 0
theorem nmJ9 : ∀ a, a < 0 → ∀ b, b < 0 → a ≠ b → (TJ9 a).2.1 ≠ (TJ9 b).2.1 := by decide +kernel
theorem tyJ9_ok : ∀ k, k < 0 → parseFieldDescriptor (TJ9 k).2.2.1 = some (tyJ9 k) := by decide +kernel
abbrev cJ9_max_7cf53 : ByteArray := prog_16_method_65_code
def yJ9_max_7cf53 : MethodName := ⟨RJ9, "max", "(II)I"⟩
abbrev cJ9_min_7cf53 : ByteArray := prog_16_method_69_code
def yJ9_min_7cf53 : MethodName := ⟨RJ9, "min", "(II)I"⟩
def RJ10 : String := "java/lang/System"
def TJ10 : u_T := fun k => match k with
  | _ => ("", "", "", false)
def tyJ10 : Nat → FieldType := fun k => match k with
  | _ => .int
abbrev wsJ100 : List Cond := u_ws RJ10 TJ10 0
theorem nmJ10 : ∀ a, a < 0 → ∀ b, b < 0 → a ≠ b → (TJ10 a).2.1 ≠ (TJ10 b).2.1 := by decide +kernel
theorem tyJ10_ok : ∀ k, k < 0 → parseFieldDescriptor (TJ10 k).2.2.1 = some (tyJ10 k) := by decide +kernel
def RL : String := "SmallTonguesLaw"
abbrev cL_law : ByteArray := code
def yL_law : MethodName := ⟨RL, "law", "([I)Z"⟩
abbrev vwCl : List vw_C := [(RX0, TX0, 6), (RX1, TX1, 7), (RX3, TX3, 7), (RX4, TX4, 6), (RX5, TX5, 7), (RX6, TX6, 7), (RX7, TX7, 3), (RX8, TX8, 7), (RX9, TX9, 7), (RX10, TX10, 5), (RX11, TX11, 20), (RX12, TX12, 61)]
