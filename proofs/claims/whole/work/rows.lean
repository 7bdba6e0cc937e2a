section
/-- a private method of a class that the tables say can be made, by its rows of tables_1 -/
def lw_okq (q : MethodName × Nat) : Prop := (q.1.cls ≠ "java/lang/invoke/MethodHandle" ∧ q.1.cls ≠ "java/lang/invoke/VarHandle") ∧ Cond.instantiable q.1.cls q.2 ∈ tables_1 ∧ Cond.privateMethod q.1 ∈ tables_1 ∧ Cond.instanceMethod q.1 ∈ tables_1
theorem lw_p0 : lw_okq (⟨"SmallTongues", "newTongue", "(II)I"⟩, 20) := ⟨⟨by decide +kernel, by decide +kernel⟩, List.mem_of_getElem? (i := 18) (by decide +kernel), List.mem_of_getElem? (i := 192) (by decide +kernel), List.mem_of_getElem? (i := 193) (by decide +kernel)⟩
theorem lw_p1 : lw_okq (⟨"SmallTongues$Law", "readChange", "([IIII)I"⟩, 6) := ⟨⟨by decide +kernel, by decide +kernel⟩, List.mem_of_getElem? (i := 102) (by decide +kernel), List.mem_of_getElem? (i := 212) (by decide +kernel), List.mem_of_getElem? (i := 213) (by decide +kernel)⟩
theorem lw_p2 : lw_okq (⟨"SmallTongues$Law", "readSides", "([IIII)I"⟩, 6) := ⟨⟨by decide +kernel, by decide +kernel⟩, List.mem_of_getElem? (i := 102) (by decide +kernel), List.mem_of_getElem? (i := 225) (by decide +kernel), List.mem_of_getElem? (i := 226) (by decide +kernel)⟩
theorem lw_p3 : lw_okq (⟨"SmallTongues", "isTongue", "(I)Z"⟩, 20) := ⟨⟨by decide +kernel, by decide +kernel⟩, List.mem_of_getElem? (i := 18) (by decide +kernel), List.mem_of_getElem? (i := 236) (by decide +kernel), List.mem_of_getElem? (i := 237) (by decide +kernel)⟩
theorem lw_p4 : lw_okq (⟨"SmallTongues", "faultOfWord", "(I)I"⟩, 20) := ⟨⟨by decide +kernel, by decide +kernel⟩, List.mem_of_getElem? (i := 18) (by decide +kernel), List.mem_of_getElem? (i := 243) (by decide +kernel), List.mem_of_getElem? (i := 244) (by decide +kernel)⟩
theorem lw_p5 : lw_okq (⟨"SmallTongues", "happen", "(LSmallTongues$Event;)V"⟩, 20) := ⟨⟨by decide +kernel, by decide +kernel⟩, List.mem_of_getElem? (i := 18) (by decide +kernel), List.mem_of_getElem? (i := 297) (by decide +kernel), List.mem_of_getElem? (i := 298) (by decide +kernel)⟩
theorem lw_p6 : lw_okq (⟨"SmallTongues", "isLaw", "(I)Z"⟩, 20) := ⟨⟨by decide +kernel, by decide +kernel⟩, List.mem_of_getElem? (i := 18) (by decide +kernel), List.mem_of_getElem? (i := 305) (by decide +kernel), List.mem_of_getElem? (i := 306) (by decide +kernel)⟩
theorem lw_p7 : lw_okq (⟨"SmallTongues$Law", "letterFor", "(II)I"⟩, 6) := ⟨⟨by decide +kernel, by decide +kernel⟩, List.mem_of_getElem? (i := 102) (by decide +kernel), List.mem_of_getElem? (i := 316) (by decide +kernel), List.mem_of_getElem? (i := 317) (by decide +kernel)⟩
theorem lw_p8 : lw_okq (⟨"SmallTongues$Law", "isBeside", "(III)Z"⟩, 6) := ⟨⟨by decide +kernel, by decide +kernel⟩, List.mem_of_getElem? (i := 102) (by decide +kernel), List.mem_of_getElem? (i := 326) (by decide +kernel), List.mem_of_getElem? (i := 327) (by decide +kernel)⟩
theorem lw_p9 : lw_okq (⟨"SmallTongues", "spokenWord", "(II)LSmallTongues$Word;"⟩, 20) := ⟨⟨by decide +kernel, by decide +kernel⟩, List.mem_of_getElem? (i := 18) (by decide +kernel), List.mem_of_getElem? (i := 348) (by decide +kernel), List.mem_of_getElem? (i := 349) (by decide +kernel)⟩
theorem lw_p10 : lw_okq (⟨"SmallTongues", "eventAt", "(I)LSmallTongues$Event;"⟩, 20) := ⟨⟨by decide +kernel, by decide +kernel⟩, List.mem_of_getElem? (i := 18) (by decide +kernel), List.mem_of_getElem? (i := 445) (by decide +kernel), List.mem_of_getElem? (i := 446) (by decide +kernel)⟩
theorem lw_p11 : lw_okq (⟨"SmallTongues", "listedWord", "(II)LSmallTongues$Word;"⟩, 20) := ⟨⟨by decide +kernel, by decide +kernel⟩, List.mem_of_getElem? (i := 18) (by decide +kernel), List.mem_of_getElem? (i := 482) (by decide +kernel), List.mem_of_getElem? (i := 483) (by decide +kernel)⟩
theorem lw_p12 : lw_okq (⟨"SmallTongues$SideBySide", "costOfBoth", "(LSmallTongues$Word;LSmallTongues$Word;II)I"⟩, 3) := ⟨⟨by decide +kernel, by decide +kernel⟩, List.mem_of_getElem? (i := 32) (by decide +kernel), List.mem_of_getElem? (i := 491) (by decide +kernel), List.mem_of_getElem? (i := 492) (by decide +kernel)⟩
theorem lw_p13 : lw_okq (⟨"SmallTongues", "areKin", "(LSmallTongues$Word;LSmallTongues$Word;)Z"⟩, 20) := ⟨⟨by decide +kernel, by decide +kernel⟩, List.mem_of_getElem? (i := 18) (by decide +kernel), List.mem_of_getElem? (i := 509) (by decide +kernel), List.mem_of_getElem? (i := 510) (by decide +kernel)⟩
theorem lw_p14 : lw_okq (⟨"SmallTongues", "kinSet", "(II)I"⟩, 20) := ⟨⟨by decide +kernel, by decide +kernel⟩, List.mem_of_getElem? (i := 18) (by decide +kernel), List.mem_of_getElem? (i := 520) (by decide +kernel), List.mem_of_getElem? (i := 521) (by decide +kernel)⟩
theorem lw_p15 : lw_okq (⟨"SmallTongues", "meaningsOfBoth", "(II)I"⟩, 20) := ⟨⟨by decide +kernel, by decide +kernel⟩, List.mem_of_getElem? (i := 18) (by decide +kernel), List.mem_of_getElem? (i := 547) (by decide +kernel), List.mem_of_getElem? (i := 548) (by decide +kernel)⟩
def lw_privs_1 : List (MethodName × Nat) := [(⟨"SmallTongues", "newTongue", "(II)I"⟩, 20), (⟨"SmallTongues$Law", "readChange", "([IIII)I"⟩, 6), (⟨"SmallTongues$Law", "readSides", "([IIII)I"⟩, 6), (⟨"SmallTongues", "isTongue", "(I)Z"⟩, 20), (⟨"SmallTongues", "faultOfWord", "(I)I"⟩, 20), (⟨"SmallTongues", "happen", "(LSmallTongues$Event;)V"⟩, 20), (⟨"SmallTongues", "isLaw", "(I)Z"⟩, 20), (⟨"SmallTongues$Law", "letterFor", "(II)I"⟩, 6), (⟨"SmallTongues$Law", "isBeside", "(III)Z"⟩, 6), (⟨"SmallTongues", "spokenWord", "(II)LSmallTongues$Word;"⟩, 20), (⟨"SmallTongues", "eventAt", "(I)LSmallTongues$Event;"⟩, 20), (⟨"SmallTongues", "listedWord", "(II)LSmallTongues$Word;"⟩, 20), (⟨"SmallTongues$SideBySide", "costOfBoth", "(LSmallTongues$Word;LSmallTongues$Word;II)I"⟩, 3), (⟨"SmallTongues", "areKin", "(LSmallTongues$Word;LSmallTongues$Word;)Z"⟩, 20), (⟨"SmallTongues", "kinSet", "(II)I"⟩, 20), (⟨"SmallTongues", "meaningsOfBoth", "(II)I"⟩, 20)]
theorem lw_r1 : ∀ q ∈ lw_privs_1, lw_okq q := List.forall_mem_cons.mpr ⟨lw_p0, List.forall_mem_cons.mpr ⟨lw_p1, List.forall_mem_cons.mpr ⟨lw_p2, List.forall_mem_cons.mpr ⟨lw_p3, List.forall_mem_cons.mpr ⟨lw_p4, List.forall_mem_cons.mpr ⟨lw_p5, List.forall_mem_cons.mpr ⟨lw_p6, List.forall_mem_cons.mpr ⟨lw_p7, List.forall_mem_cons.mpr ⟨lw_p8, List.forall_mem_cons.mpr ⟨lw_p9, List.forall_mem_cons.mpr ⟨lw_p10, List.forall_mem_cons.mpr ⟨lw_p11, List.forall_mem_cons.mpr ⟨lw_p12, List.forall_mem_cons.mpr ⟨lw_p13, List.forall_mem_cons.mpr ⟨lw_p14, List.forall_mem_cons.mpr ⟨lw_p15, fun _ h => absurd h List.not_mem_nil⟩⟩⟩⟩⟩⟩⟩⟩⟩⟩⟩⟩⟩⟩⟩⟩
theorem lw_p16 : lw_okq (⟨"SmallTongues", "costsTogether", "(III)I"⟩, 20) := ⟨⟨by decide +kernel, by decide +kernel⟩, List.mem_of_getElem? (i := 18) (by decide +kernel), List.mem_of_getElem? (i := 551) (by decide +kernel), List.mem_of_getElem? (i := 552) (by decide +kernel)⟩
theorem lw_p17 : lw_okq (⟨"SmallTongues", "costsWithOthers", "(II)I"⟩, 20) := ⟨⟨by decide +kernel, by decide +kernel⟩, List.mem_of_getElem? (i := 18) (by decide +kernel), List.mem_of_getElem? (i := 570) (by decide +kernel), List.mem_of_getElem? (i := 571) (by decide +kernel)⟩
theorem lw_p18 : lw_okq (⟨"SmallTongues", "comeOut", "(II[II)I"⟩, 20) := ⟨⟨by decide +kernel, by decide +kernel⟩, List.mem_of_getElem? (i := 18) (by decide +kernel), List.mem_of_getElem? (i := 581) (by decide +kernel), List.mem_of_getElem? (i := 582) (by decide +kernel)⟩
theorem lw_p19 : lw_okq (⟨"SmallTongues", "isOrderFelt", "(LSmallTongues$Word;LSmallTongues$Law;LSmallTongues$Law;)Z"⟩, 20) := ⟨⟨by decide +kernel, by decide +kernel⟩, List.mem_of_getElem? (i := 18) (by decide +kernel), List.mem_of_getElem? (i := 600) (by decide +kernel), List.mem_of_getElem? (i := 601) (by decide +kernel)⟩
theorem lw_p20 : lw_okq (⟨"SmallTongues", "areLeaves", "(I)Z"⟩, 20) := ⟨⟨by decide +kernel, by decide +kernel⟩, List.mem_of_getElem? (i := 18) (by decide +kernel), List.mem_of_getElem? (i := 608) (by decide +kernel), List.mem_of_getElem? (i := 609) (by decide +kernel)⟩
theorem lw_p21 : lw_okq (⟨"SmallTongues", "hangSets", "()V"⟩, 20) := ⟨⟨by decide +kernel, by decide +kernel⟩, List.mem_of_getElem? (i := 18) (by decide +kernel), List.mem_of_getElem? (i := 618) (by decide +kernel), List.mem_of_getElem? (i := 619) (by decide +kernel)⟩
theorem lw_p22 : lw_okq (⟨"SmallTongues", "stepsOf", "(II)I"⟩, 20) := ⟨⟨by decide +kernel, by decide +kernel⟩, List.mem_of_getElem? (i := 18) (by decide +kernel), List.mem_of_getElem? (i := 626) (by decide +kernel), List.mem_of_getElem? (i := 627) (by decide +kernel)⟩
theorem lw_p23 : lw_okq (⟨"SmallTongues$Branches", "add", "(II)V"⟩, 6) := ⟨⟨by decide +kernel, by decide +kernel⟩, List.mem_of_getElem? (i := 51) (by decide +kernel), List.mem_of_getElem? (i := 634) (by decide +kernel), List.mem_of_getElem? (i := 635) (by decide +kernel)⟩
theorem lw_p24 : lw_okq (⟨"SmallTongues$Branches", "setOn", "(III)V"⟩, 6) := ⟨⟨by decide +kernel, by decide +kernel⟩, List.mem_of_getElem? (i := 51) (by decide +kernel), List.mem_of_getElem? (i := 643) (by decide +kernel), List.mem_of_getElem? (i := 644) (by decide +kernel)⟩
theorem lw_p25 : lw_okq (⟨"SmallTongues$Branches", "orderOutward", "()V"⟩, 6) := ⟨⟨by decide +kernel, by decide +kernel⟩, List.mem_of_getElem? (i := 51) (by decide +kernel), List.mem_of_getElem? (i := 647) (by decide +kernel), List.mem_of_getElem? (i := 648) (by decide +kernel)⟩
theorem lw_p26 : lw_okq (⟨"SmallTonguesModel", "reads", "(I)V"⟩, 61) := ⟨⟨by decide +kernel, by decide +kernel⟩, List.mem_of_getElem? (i := 778) (by decide +kernel), List.mem_of_getElem? (i := 988) (by decide +kernel), List.mem_of_getElem? (i := 989) (by decide +kernel)⟩
theorem lw_p27 : lw_okq (⟨"SmallTonguesModel", "part", "()I"⟩, 61) := ⟨⟨by decide +kernel, by decide +kernel⟩, List.mem_of_getElem? (i := 778) (by decide +kernel), List.mem_of_getElem? (i := 992) (by decide +kernel), List.mem_of_getElem? (i := 993) (by decide +kernel)⟩
theorem lw_p28 : lw_okq (⟨"SmallTonguesModel", "here", "()I"⟩, 61) := ⟨⟨by decide +kernel, by decide +kernel⟩, List.mem_of_getElem? (i := 778) (by decide +kernel), List.mem_of_getElem? (i := 996) (by decide +kernel), List.mem_of_getElem? (i := 997) (by decide +kernel)⟩
theorem lw_p29 : lw_okq (⟨"SmallTonguesModel", "must", "(I)V"⟩, 61) := ⟨⟨by decide +kernel, by decide +kernel⟩, List.mem_of_getElem? (i := 778) (by decide +kernel), List.mem_of_getElem? (i := 1000) (by decide +kernel), List.mem_of_getElem? (i := 1001) (by decide +kernel)⟩
theorem lw_p30 : lw_okq (⟨"SmallTonguesModel", "side", "()I"⟩, 61) := ⟨⟨by decide +kernel, by decide +kernel⟩, List.mem_of_getElem? (i := 778) (by decide +kernel), List.mem_of_getElem? (i := 1004) (by decide +kernel), List.mem_of_getElem? (i := 1005) (by decide +kernel)⟩
theorem lw_p31 : lw_okq (⟨"SmallTonguesModel", "isTongue", "(I)Z"⟩, 61) := ⟨⟨by decide +kernel, by decide +kernel⟩, List.mem_of_getElem? (i := 778) (by decide +kernel), List.mem_of_getElem? (i := 1012) (by decide +kernel), List.mem_of_getElem? (i := 1013) (by decide +kernel)⟩
def lw_privs_2 : List (MethodName × Nat) := [(⟨"SmallTongues", "costsTogether", "(III)I"⟩, 20), (⟨"SmallTongues", "costsWithOthers", "(II)I"⟩, 20), (⟨"SmallTongues", "comeOut", "(II[II)I"⟩, 20), (⟨"SmallTongues", "isOrderFelt", "(LSmallTongues$Word;LSmallTongues$Law;LSmallTongues$Law;)Z"⟩, 20), (⟨"SmallTongues", "areLeaves", "(I)Z"⟩, 20), (⟨"SmallTongues", "hangSets", "()V"⟩, 20), (⟨"SmallTongues", "stepsOf", "(II)I"⟩, 20), (⟨"SmallTongues$Branches", "add", "(II)V"⟩, 6), (⟨"SmallTongues$Branches", "setOn", "(III)V"⟩, 6), (⟨"SmallTongues$Branches", "orderOutward", "()V"⟩, 6), (⟨"SmallTonguesModel", "reads", "(I)V"⟩, 61), (⟨"SmallTonguesModel", "part", "()I"⟩, 61), (⟨"SmallTonguesModel", "here", "()I"⟩, 61), (⟨"SmallTonguesModel", "must", "(I)V"⟩, 61), (⟨"SmallTonguesModel", "side", "()I"⟩, 61), (⟨"SmallTonguesModel", "isTongue", "(I)Z"⟩, 61)]
theorem lw_r2 : ∀ q ∈ lw_privs_2, lw_okq q := List.forall_mem_cons.mpr ⟨lw_p16, List.forall_mem_cons.mpr ⟨lw_p17, List.forall_mem_cons.mpr ⟨lw_p18, List.forall_mem_cons.mpr ⟨lw_p19, List.forall_mem_cons.mpr ⟨lw_p20, List.forall_mem_cons.mpr ⟨lw_p21, List.forall_mem_cons.mpr ⟨lw_p22, List.forall_mem_cons.mpr ⟨lw_p23, List.forall_mem_cons.mpr ⟨lw_p24, List.forall_mem_cons.mpr ⟨lw_p25, List.forall_mem_cons.mpr ⟨lw_p26, List.forall_mem_cons.mpr ⟨lw_p27, List.forall_mem_cons.mpr ⟨lw_p28, List.forall_mem_cons.mpr ⟨lw_p29, List.forall_mem_cons.mpr ⟨lw_p30, List.forall_mem_cons.mpr ⟨lw_p31, fun _ h => absurd h List.not_mem_nil⟩⟩⟩⟩⟩⟩⟩⟩⟩⟩⟩⟩⟩⟩⟩⟩
theorem lw_p32 : lw_okq (⟨"SmallTonguesModel", "puts", "(II)V"⟩, 61) := ⟨⟨by decide +kernel, by decide +kernel⟩, List.mem_of_getElem? (i := 778) (by decide +kernel), List.mem_of_getElem? (i := 1019) (by decide +kernel), List.mem_of_getElem? (i := 1020) (by decide +kernel)⟩
theorem lw_p33 : lw_okq (⟨"SmallTonguesModel", "happens", "(IIII)V"⟩, 61) := ⟨⟨by decide +kernel, by decide +kernel⟩, List.mem_of_getElem? (i := 778) (by decide +kernel), List.mem_of_getElem? (i := 1023) (by decide +kernel), List.mem_of_getElem? (i := 1024) (by decide +kernel)⟩
theorem lw_p34 : lw_okq (⟨"SmallTonguesModel", "isLaw", "(I)Z"⟩, 61) := ⟨⟨by decide +kernel, by decide +kernel⟩, List.mem_of_getElem? (i := 778) (by decide +kernel), List.mem_of_getElem? (i := 1031) (by decide +kernel), List.mem_of_getElem? (i := 1032) (by decide +kernel)⟩
theorem lw_p35 : lw_okq (⟨"SmallTonguesModel", "hasWord", "(II)Z"⟩, 61) := ⟨⟨by decide +kernel, by decide +kernel⟩, List.mem_of_getElem? (i := 778) (by decide +kernel), List.mem_of_getElem? (i := 1035) (by decide +kernel), List.mem_of_getElem? (i := 1036) (by decide +kernel)⟩
theorem lw_p36 : lw_okq (⟨"SmallTonguesModel", "takes", "(II)V"⟩, 61) := ⟨⟨by decide +kernel, by decide +kernel⟩, List.mem_of_getElem? (i := 778) (by decide +kernel), List.mem_of_getElem? (i := 1039) (by decide +kernel), List.mem_of_getElem? (i := 1040) (by decide +kernel)⟩
theorem lw_p37 : lw_okq (⟨"SmallTonguesModel", "applies", "(I)V"⟩, 61) := ⟨⟨by decide +kernel, by decide +kernel⟩, List.mem_of_getElem? (i := 778) (by decide +kernel), List.mem_of_getElem? (i := 1043) (by decide +kernel), List.mem_of_getElem? (i := 1044) (by decide +kernel)⟩
theorem lw_p38 : lw_okq (⟨"SmallTonguesModel", "changeOf", "(II)I"⟩, 61) := ⟨⟨by decide +kernel, by decide +kernel⟩, List.mem_of_getElem? (i := 778) (by decide +kernel), List.mem_of_getElem? (i := 1047) (by decide +kernel), List.mem_of_getElem? (i := 1048) (by decide +kernel)⟩
theorem lw_p39 : lw_okq (⟨"SmallTonguesModel", "stands", "(II)Z"⟩, 61) := ⟨⟨by decide +kernel, by decide +kernel⟩, List.mem_of_getElem? (i := 778) (by decide +kernel), List.mem_of_getElem? (i := 1057) (by decide +kernel), List.mem_of_getElem? (i := 1058) (by decide +kernel)⟩
theorem lw_p40 : lw_okq (⟨"SmallTonguesModel", "isWord", "(II)Z"⟩, 61) := ⟨⟨by decide +kernel, by decide +kernel⟩, List.mem_of_getElem? (i := 778) (by decide +kernel), List.mem_of_getElem? (i := 1061) (by decide +kernel), List.mem_of_getElem? (i := 1062) (by decide +kernel)⟩
theorem lw_p41 : lw_okq (⟨"SmallTonguesModel", "has", "(II)Z"⟩, 61) := ⟨⟨by decide +kernel, by decide +kernel⟩, List.mem_of_getElem? (i := 778) (by decide +kernel), List.mem_of_getElem? (i := 1113) (by decide +kernel), List.mem_of_getElem? (i := 1114) (by decide +kernel)⟩
theorem lw_p42 : lw_okq (⟨"SmallTonguesModel", "costOf", "(IIII)I"⟩, 61) := ⟨⟨by decide +kernel, by decide +kernel⟩, List.mem_of_getElem? (i := 778) (by decide +kernel), List.mem_of_getElem? (i := 1117) (by decide +kernel), List.mem_of_getElem? (i := 1118) (by decide +kernel)⟩
theorem lw_p43 : lw_okq (⟨"SmallTonguesModel", "walks", "(III)V"⟩, 61) := ⟨⟨by decide +kernel, by decide +kernel⟩, List.mem_of_getElem? (i := 778) (by decide +kernel), List.mem_of_getElem? (i := 1129) (by decide +kernel), List.mem_of_getElem? (i := 1130) (by decide +kernel)⟩
theorem lw_p44 : lw_okq (⟨"SmallTonguesModel", "areKin", "(IIII)Z"⟩, 61) := ⟨⟨by decide +kernel, by decide +kernel⟩, List.mem_of_getElem? (i := 778) (by decide +kernel), List.mem_of_getElem? (i := 1137) (by decide +kernel), List.mem_of_getElem? (i := 1138) (by decide +kernel)⟩
theorem lw_p45 : lw_okq (⟨"SmallTonguesModel", "setOf", "(II)I"⟩, 61) := ⟨⟨by decide +kernel, by decide +kernel⟩, List.mem_of_getElem? (i := 778) (by decide +kernel), List.mem_of_getElem? (i := 1145) (by decide +kernel), List.mem_of_getElem? (i := 1146) (by decide +kernel)⟩
theorem lw_p46 : lw_okq (⟨"SmallTonguesModel", "sums", "(III)V"⟩, 61) := ⟨⟨by decide +kernel, by decide +kernel⟩, List.mem_of_getElem? (i := 778) (by decide +kernel), List.mem_of_getElem? (i := 1161) (by decide +kernel), List.mem_of_getElem? (i := 1162) (by decide +kernel)⟩
theorem lw_p47 : lw_okq (⟨"SmallTonguesModel", "orders", "(IIII)V"⟩, 61) := ⟨⟨by decide +kernel, by decide +kernel⟩, List.mem_of_getElem? (i := 778) (by decide +kernel), List.mem_of_getElem? (i := 1180) (by decide +kernel), List.mem_of_getElem? (i := 1181) (by decide +kernel)⟩
def lw_privs_3 : List (MethodName × Nat) := [(⟨"SmallTonguesModel", "puts", "(II)V"⟩, 61), (⟨"SmallTonguesModel", "happens", "(IIII)V"⟩, 61), (⟨"SmallTonguesModel", "isLaw", "(I)Z"⟩, 61), (⟨"SmallTonguesModel", "hasWord", "(II)Z"⟩, 61), (⟨"SmallTonguesModel", "takes", "(II)V"⟩, 61), (⟨"SmallTonguesModel", "applies", "(I)V"⟩, 61), (⟨"SmallTonguesModel", "changeOf", "(II)I"⟩, 61), (⟨"SmallTonguesModel", "stands", "(II)Z"⟩, 61), (⟨"SmallTonguesModel", "isWord", "(II)Z"⟩, 61), (⟨"SmallTonguesModel", "has", "(II)Z"⟩, 61), (⟨"SmallTonguesModel", "costOf", "(IIII)I"⟩, 61), (⟨"SmallTonguesModel", "walks", "(III)V"⟩, 61), (⟨"SmallTonguesModel", "areKin", "(IIII)Z"⟩, 61), (⟨"SmallTonguesModel", "setOf", "(II)I"⟩, 61), (⟨"SmallTonguesModel", "sums", "(III)V"⟩, 61), (⟨"SmallTonguesModel", "orders", "(IIII)V"⟩, 61)]
theorem lw_r3 : ∀ q ∈ lw_privs_3, lw_okq q := List.forall_mem_cons.mpr ⟨lw_p32, List.forall_mem_cons.mpr ⟨lw_p33, List.forall_mem_cons.mpr ⟨lw_p34, List.forall_mem_cons.mpr ⟨lw_p35, List.forall_mem_cons.mpr ⟨lw_p36, List.forall_mem_cons.mpr ⟨lw_p37, List.forall_mem_cons.mpr ⟨lw_p38, List.forall_mem_cons.mpr ⟨lw_p39, List.forall_mem_cons.mpr ⟨lw_p40, List.forall_mem_cons.mpr ⟨lw_p41, List.forall_mem_cons.mpr ⟨lw_p42, List.forall_mem_cons.mpr ⟨lw_p43, List.forall_mem_cons.mpr ⟨lw_p44, List.forall_mem_cons.mpr ⟨lw_p45, List.forall_mem_cons.mpr ⟨lw_p46, List.forall_mem_cons.mpr ⟨lw_p47, fun _ h => absurd h List.not_mem_nil⟩⟩⟩⟩⟩⟩⟩⟩⟩⟩⟩⟩⟩⟩⟩⟩
theorem lw_p48 : lw_okq (⟨"SmallTonguesModel", "tries", "(II)V"⟩, 61) := ⟨⟨by decide +kernel, by decide +kernel⟩, List.mem_of_getElem? (i := 778) (by decide +kernel), List.mem_of_getElem? (i := 1184) (by decide +kernel), List.mem_of_getElem? (i := 1185) (by decide +kernel)⟩
theorem lw_p49 : lw_okq (⟨"SmallTonguesModel", "refuses", "(I)I"⟩, 61) := ⟨⟨by decide +kernel, by decide +kernel⟩, List.mem_of_getElem? (i := 778) (by decide +kernel), List.mem_of_getElem? (i := 1196) (by decide +kernel), List.mem_of_getElem? (i := 1197) (by decide +kernel)⟩
theorem lw_p50 : lw_okq (⟨"SmallTonguesModel", "trees", "()I"⟩, 61) := ⟨⟨by decide +kernel, by decide +kernel⟩, List.mem_of_getElem? (i := 778) (by decide +kernel), List.mem_of_getElem? (i := 1200) (by decide +kernel), List.mem_of_getElem? (i := 1201) (by decide +kernel)⟩
theorem lw_p51 : lw_okq (⟨"SmallTonguesModel", "stepsOf", "(I)I"⟩, 61) := ⟨⟨by decide +kernel, by decide +kernel⟩, List.mem_of_getElem? (i := 778) (by decide +kernel), List.mem_of_getElem? (i := 1204) (by decide +kernel), List.mem_of_getElem? (i := 1205) (by decide +kernel)⟩
theorem lw_p52 : lw_okq (⟨"SmallTonguesModel", "grows", "(I)V"⟩, 61) := ⟨⟨by decide +kernel, by decide +kernel⟩, List.mem_of_getElem? (i := 778) (by decide +kernel), List.mem_of_getElem? (i := 1208) (by decide +kernel), List.mem_of_getElem? (i := 1209) (by decide +kernel)⟩
theorem lw_p53 : lw_okq (⟨"SmallTonguesModel", "below", "(III)I"⟩, 61) := ⟨⟨by decide +kernel, by decide +kernel⟩, List.mem_of_getElem? (i := 778) (by decide +kernel), List.mem_of_getElem? (i := 1212) (by decide +kernel), List.mem_of_getElem? (i := 1213) (by decide +kernel)⟩
theorem lw_p54 : lw_okq (⟨"SmallTonguesModel", "tells", "(I)I"⟩, 61) := ⟨⟨by decide +kernel, by decide +kernel⟩, List.mem_of_getElem? (i := 778) (by decide +kernel), List.mem_of_getElem? (i := 1236) (by decide +kernel), List.mem_of_getElem? (i := 1237) (by decide +kernel)⟩
theorem lw_p55 : lw_okq (⟨"SmallTonguesModel", "runs", "(I)V"⟩, 61) := ⟨⟨by decide +kernel, by decide +kernel⟩, List.mem_of_getElem? (i := 778) (by decide +kernel), List.mem_of_getElem? (i := 1240) (by decide +kernel), List.mem_of_getElem? (i := 1241) (by decide +kernel)⟩
theorem lw_p56 : lw_okq (⟨"SmallTonguesModel", "plainTells", "(I)I"⟩, 61) := ⟨⟨by decide +kernel, by decide +kernel⟩, List.mem_of_getElem? (i := 778) (by decide +kernel), List.mem_of_getElem? (i := 1244) (by decide +kernel), List.mem_of_getElem? (i := 1245) (by decide +kernel)⟩
theorem lw_p57 : lw_okq (⟨"SmallTonguesModel", "leads", "(I)I"⟩, 61) := ⟨⟨by decide +kernel, by decide +kernel⟩, List.mem_of_getElem? (i := 778) (by decide +kernel), List.mem_of_getElem? (i := 1251) (by decide +kernel), List.mem_of_getElem? (i := 1252) (by decide +kernel)⟩
theorem lw_p58 : lw_okq (⟨"SmallTonguesModel", "plainLeads", "(I)I"⟩, 61) := ⟨⟨by decide +kernel, by decide +kernel⟩, List.mem_of_getElem? (i := 778) (by decide +kernel), List.mem_of_getElem? (i := 1255) (by decide +kernel), List.mem_of_getElem? (i := 1256) (by decide +kernel)⟩
theorem lw_p59 : lw_okq (⟨"SmallTonguesModel", "marks", "(I)I"⟩, 61) := ⟨⟨by decide +kernel, by decide +kernel⟩, List.mem_of_getElem? (i := 778) (by decide +kernel), List.mem_of_getElem? (i := 1259) (by decide +kernel), List.mem_of_getElem? (i := 1260) (by decide +kernel)⟩
theorem lw_p60 : lw_okq (⟨"SmallTonguesModel", "plainMarks", "(I)I"⟩, 61) := ⟨⟨by decide +kernel, by decide +kernel⟩, List.mem_of_getElem? (i := 778) (by decide +kernel), List.mem_of_getElem? (i := 1263) (by decide +kernel), List.mem_of_getElem? (i := 1264) (by decide +kernel)⟩
def lw_privs_4 : List (MethodName × Nat) := [(⟨"SmallTonguesModel", "tries", "(II)V"⟩, 61), (⟨"SmallTonguesModel", "refuses", "(I)I"⟩, 61), (⟨"SmallTonguesModel", "trees", "()I"⟩, 61), (⟨"SmallTonguesModel", "stepsOf", "(I)I"⟩, 61), (⟨"SmallTonguesModel", "grows", "(I)V"⟩, 61), (⟨"SmallTonguesModel", "below", "(III)I"⟩, 61), (⟨"SmallTonguesModel", "tells", "(I)I"⟩, 61), (⟨"SmallTonguesModel", "runs", "(I)V"⟩, 61), (⟨"SmallTonguesModel", "plainTells", "(I)I"⟩, 61), (⟨"SmallTonguesModel", "leads", "(I)I"⟩, 61), (⟨"SmallTonguesModel", "plainLeads", "(I)I"⟩, 61), (⟨"SmallTonguesModel", "marks", "(I)I"⟩, 61), (⟨"SmallTonguesModel", "plainMarks", "(I)I"⟩, 61)]
theorem lw_r4 : ∀ q ∈ lw_privs_4, lw_okq q := List.forall_mem_cons.mpr ⟨lw_p48, List.forall_mem_cons.mpr ⟨lw_p49, List.forall_mem_cons.mpr ⟨lw_p50, List.forall_mem_cons.mpr ⟨lw_p51, List.forall_mem_cons.mpr ⟨lw_p52, List.forall_mem_cons.mpr ⟨lw_p53, List.forall_mem_cons.mpr ⟨lw_p54, List.forall_mem_cons.mpr ⟨lw_p55, List.forall_mem_cons.mpr ⟨lw_p56, List.forall_mem_cons.mpr ⟨lw_p57, List.forall_mem_cons.mpr ⟨lw_p58, List.forall_mem_cons.mpr ⟨lw_p59, List.forall_mem_cons.mpr ⟨lw_p60, fun _ h => absurd h List.not_mem_nil⟩⟩⟩⟩⟩⟩⟩⟩⟩⟩⟩⟩⟩
def lw_privs : List (MethodName × Nat) := lw_privs_1 ++ (lw_privs_2 ++ (lw_privs_3 ++ (lw_privs_4)))
def lw_tbl : List Cond := k2_sels lw_privs ++ tables_1
theorem lw_privs_ok : ∀ q ∈ lw_privs, lw_okq q := by
  show ∀ q ∈ lw_privs_1 ++ (lw_privs_2 ++ (lw_privs_3 ++ (lw_privs_4))), lw_okq q
  exact List.forall_mem_append.mpr ⟨lw_r1, List.forall_mem_append.mpr ⟨lw_r2, List.forall_mem_append.mpr ⟨lw_r3, lw_r4⟩⟩⟩
def RX0 : String := "SmallTongues$Branches"
def TX0 : u_T := fun k => match k with
  | 0 => ("SmallTongues$Branches", "starts", "[I", true)
  | 1 => ("SmallTongues$Branches", "ends", "[I", true)
  | 2 => ("SmallTongues$Branches", "size", "I", false)
  | 3 => ("SmallTongues$Branches", "outward", "[I", true)
  | 4 => ("SmallTongues$Branches", "leafSets", "[I", true)
  | _ => ("SmallTongues$Branches", "sets", "[I", true)
def tyX0 : Nat → FieldType := fun k => match k with
  | 0 => .array .int
  | 1 => .array .int
  | 2 => .int
  | 3 => .array .int
  | 4 => .array .int
  | _ => .array .int
abbrev wsX00 : List Cond := u_ws RX0 TX0 6
theorem nmX0 : ∀ a, a < 6 → ∀ b, b < 6 → a ≠ b → (TX0 a).2.1 ≠ (TX0 b).2.1 := by decide +kernel
theorem tyX0_ok : ∀ k, k < 6 → parseFieldDescriptor (TX0 k).2.2.1 = some (tyX0 k) := by decide +kernel
abbrev cX0_init : ByteArray := prog_2_method_1_code
def yX0_init : MethodName := ⟨RX0, "<init>", "()V"⟩
abbrev cX0_whenSet : ByteArray := prog_2_method_2_code
def yX0_whenSet : MethodName := ⟨RX0, "whenSet", "(I)I"⟩
abbrev cX0_hang : ByteArray := prog_2_method_3_code
def yX0_hang : MethodName := ⟨RX0, "hang", "(III)V"⟩
abbrev cX0_grow : ByteArray := prog_2_method_4_code
def yX0_grow : MethodName := ⟨RX0, "grow", "(II)V"⟩
abbrev cX0_digit : ByteArray := prog_2_method_5_code
def yX0_digit : MethodName := ⟨RX0, "digit", "(III)I"⟩
abbrev cX0_add : ByteArray := prog_2_method_6_code
def yX0_add : MethodName := ⟨RX0, "add", "(II)V"⟩
abbrev cX0_setOn : ByteArray := prog_2_method_7_code
def yX0_setOn : MethodName := ⟨RX0, "setOn", "(III)V"⟩
abbrev cX0_orderOutward : ByteArray := prog_2_method_8_code
def yX0_orderOutward : MethodName := ⟨RX0, "orderOutward", "()V"⟩
abbrev cX0_fewestChanges : ByteArray := prog_2_method_9_code
def yX0_fewestChanges : MethodName := ⟨RX0, "fewestChanges", "(I)I"⟩
def RX1 : String := "SmallTongues$CoinEvent"
def TX1 : u_T := fun k => match k with
  | 0 => ("SmallTongues$Event", "number", "I", true)
  | 1 => ("SmallTongues$Event", "year", "I", true)
  | 2 => ("SmallTongues$Event", "tongueNumber", "I", true)
  | 3 => ("SmallTongues$Event", "lawNumber", "I", true)
  | 4 => ("SmallTongues$Event", "meaningNumber", "I", true)
  | 5 => ("SmallTongues$Event", "bodies", "[I", true)
  | _ => ("SmallTongues$Event", "ran", "I", false)
def tyX1 : Nat → FieldType := fun k => match k with
  | 0 => .int
  | 1 => .int
  | 2 => .int
  | 3 => .int
  | 4 => .int
  | 5 => .array .int
  | _ => .int
abbrev wsX10 : List Cond := u_ws RX1 TX1 7
theorem nmX1 : ∀ a, a < 7 → ∀ b, b < 7 → a ≠ b → (TX1 a).2.1 ≠ (TX1 b).2.1 := by decide +kernel
theorem tyX1_ok : ∀ k, k < 7 → parseFieldDescriptor (TX1 k).2.2.1 = some (tyX1 k) := by decide +kernel
abbrev cX1_init : ByteArray := prog_3_method_1_code
def yX1_init : MethodName := ⟨RX1, "<init>", "(IIIII)V"⟩
abbrev cX1_kindNumber : ByteArray := prog_3_method_2_code
def yX1_kindNumber : MethodName := ⟨RX1, "kindNumber", "()I"⟩
abbrev cX1_marks : ByteArray := prog_3_method_3_code
def yX1_marks : MethodName := ⟨RX1, "marks", "(I)I"⟩
def RX2 : String := "SmallTongues$Event"
def TX2 : u_T := fun k => match k with
  | _ => ("", "", "", false)
def tyX2 : Nat → FieldType := fun k => match k with
  | _ => .int
abbrev wsX20 : List Cond := u_ws RX2 TX2 0
theorem nmX2 : ∀ a, a < 0 → ∀ b, b < 0 → a ≠ b → (TX2 a).2.1 ≠ (TX2 b).2.1 := by decide +kernel
theorem tyX2_ok : ∀ k, k < 0 → parseFieldDescriptor (TX2 k).2.2.1 = some (tyX2 k) := by decide +kernel
abbrev cX2_init : ByteArray := prog_4_method_1_code
def yX2_init : MethodName := ⟨RX2, "<init>", "(IIIII)V"⟩
abbrev cX2_tells : ByteArray := prog_4_method_3_code
def yX2_tells : MethodName := ⟨RX2, "tells", "(I)I"⟩
abbrev cX2_leads : ByteArray := prog_4_method_4_code
def yX2_leads : MethodName := ⟨RX2, "leads", "(I)I"⟩
abbrev cX2_marks : ByteArray := prog_4_method_5_code
def yX2_marks : MethodName := ⟨RX2, "marks", "(I)I"⟩
abbrev cX2_begin : ByteArray := prog_4_method_6_code
def yX2_begin : MethodName := ⟨RX2, "begin", "(I)V"⟩
def RX3 : String := "SmallTongues$ForgetEvent"
def TX3 : u_T := fun k => match k with
  | 0 => ("SmallTongues$Event", "number", "I", true)
  | 1 => ("SmallTongues$Event", "year", "I", true)
  | 2 => ("SmallTongues$Event", "tongueNumber", "I", true)
  | 3 => ("SmallTongues$Event", "lawNumber", "I", true)
  | 4 => ("SmallTongues$Event", "meaningNumber", "I", true)
  | 5 => ("SmallTongues$Event", "bodies", "[I", true)
  | _ => ("SmallTongues$Event", "ran", "I", false)
def tyX3 : Nat → FieldType := fun k => match k with
  | 0 => .int
  | 1 => .int
  | 2 => .int
  | 3 => .int
  | 4 => .int
  | 5 => .array .int
  | _ => .int
abbrev wsX30 : List Cond := u_ws RX3 TX3 7
theorem nmX3 : ∀ a, a < 7 → ∀ b, b < 7 → a ≠ b → (TX3 a).2.1 ≠ (TX3 b).2.1 := by decide +kernel
theorem tyX3_ok : ∀ k, k < 7 → parseFieldDescriptor (TX3 k).2.2.1 = some (tyX3 k) := by decide +kernel
abbrev cX3_init : ByteArray := prog_5_method_1_code
def yX3_init : MethodName := ⟨RX3, "<init>", "(IIIII)V"⟩
abbrev cX3_kindNumber : ByteArray := prog_5_method_2_code
def yX3_kindNumber : MethodName := ⟨RX3, "kindNumber", "()I"⟩
abbrev cX3_tells : ByteArray := prog_5_method_3_code
def yX3_tells : MethodName := ⟨RX3, "tells", "(I)I"⟩
def RX4 : String := "SmallTongues$Law"
def TX4 : u_T := fun k => match k with
  | 0 => ("SmallTongues$Law", "signs", "[I", true)
  | 1 => ("SmallTongues$Law", "becomes", "[I", true)
  | 2 => ("SmallTongues$Law", "lefts", "[I", true)
  | 3 => ("SmallTongues$Law", "rights", "[I", true)
  | 4 => ("SmallTongues$Law", "before", "[I", true)
  | _ => ("SmallTongues$Law", "changes", "I", false)
def tyX4 : Nat → FieldType := fun k => match k with
  | 0 => .array .int
  | 1 => .array .int
  | 2 => .array .int
  | 3 => .array .int
  | 4 => .array .int
  | _ => .int
abbrev wsX40 : List Cond := u_ws RX4 TX4 6
theorem nmX4 : ∀ a, a < 6 → ∀ b, b < 6 → a ≠ b → (TX4 a).2.1 ≠ (TX4 b).2.1 := by decide +kernel
theorem tyX4_ok : ∀ k, k < 6 → parseFieldDescriptor (TX4 k).2.2.1 = some (tyX4 k) := by decide +kernel
abbrev cX4_init : ByteArray := prog_6_method_1_code
def yX4_init : MethodName := ⟨RX4, "<init>", "()V"⟩
abbrev cX4_read : ByteArray := prog_6_method_2_code
def yX4_read : MethodName := ⟨RX4, "read", "([II)I"⟩
abbrev cX4_readChange : ByteArray := prog_6_method_3_code
def yX4_readChange : MethodName := ⟨RX4, "readChange", "([IIII)I"⟩
abbrev cX4_readSides : ByteArray := prog_6_method_4_code
def yX4_readSides : MethodName := ⟨RX4, "readSides", "([IIII)I"⟩
abbrev cX4_byteAt : ByteArray := prog_6_method_5_code
def yX4_byteAt : MethodName := ⟨RX4, "byteAt", "([III)I"⟩
abbrev cX4_isSign : ByteArray := prog_6_method_6_code
def yX4_isSign : MethodName := ⟨RX4, "isSign", "(I)Z"⟩
abbrev cX4_isSide : ByteArray := prog_6_method_7_code
def yX4_isSide : MethodName := ⟨RX4, "isSide", "(I)Z"⟩
abbrev cX4_comeOver : ByteArray := prog_6_method_8_code
def yX4_comeOver : MethodName := ⟨RX4, "comeOver", "(LSmallTongues$Word;)Z"⟩
abbrev cX4_letterFor : ByteArray := prog_6_method_9_code
def yX4_letterFor : MethodName := ⟨RX4, "letterFor", "(II)I"⟩
abbrev cX4_isBeside : ByteArray := prog_6_method_10_code
def yX4_isBeside : MethodName := ⟨RX4, "isBeside", "(III)Z"⟩
abbrev cX4_isSignOf : ByteArray := prog_6_method_11_code
def yX4_isSignOf : MethodName := ⟨RX4, "isSignOf", "(II)Z"⟩
def RX5 : String := "SmallTongues$LoanEvent"
def TX5 : u_T := fun k => match k with
  | 0 => ("SmallTongues$Event", "number", "I", true)
  | 1 => ("SmallTongues$Event", "year", "I", true)
  | 2 => ("SmallTongues$Event", "tongueNumber", "I", true)
  | 3 => ("SmallTongues$Event", "lawNumber", "I", true)
  | 4 => ("SmallTongues$Event", "meaningNumber", "I", true)
  | 5 => ("SmallTongues$Event", "bodies", "[I", true)
  | _ => ("SmallTongues$Event", "ran", "I", false)
def tyX5 : Nat → FieldType := fun k => match k with
  | 0 => .int
  | 1 => .int
  | 2 => .int
  | 3 => .int
  | 4 => .int
  | 5 => .array .int
  | _ => .int
abbrev wsX50 : List Cond := u_ws RX5 TX5 7
theorem nmX5 : ∀ a, a < 7 → ∀ b, b < 7 → a ≠ b → (TX5 a).2.1 ≠ (TX5 b).2.1 := by decide +kernel
theorem tyX5_ok : ∀ k, k < 7 → parseFieldDescriptor (TX5 k).2.2.1 = some (tyX5 k) := by decide +kernel
abbrev cX5_init : ByteArray := prog_7_method_1_code
def yX5_init : MethodName := ⟨RX5, "<init>", "(IIIII)V"⟩
abbrev cX5_kindNumber : ByteArray := prog_7_method_2_code
def yX5_kindNumber : MethodName := ⟨RX5, "kindNumber", "()I"⟩
abbrev cX5_leads : ByteArray := prog_7_method_3_code
def yX5_leads : MethodName := ⟨RX5, "leads", "(I)I"⟩
def RX6 : String := "SmallTongues$ShortEvent"
def TX6 : u_T := fun k => match k with
  | 0 => ("SmallTongues$Event", "number", "I", true)
  | 1 => ("SmallTongues$Event", "year", "I", true)
  | 2 => ("SmallTongues$Event", "tongueNumber", "I", true)
  | 3 => ("SmallTongues$Event", "lawNumber", "I", true)
  | 4 => ("SmallTongues$Event", "meaningNumber", "I", true)
  | 5 => ("SmallTongues$Event", "bodies", "[I", true)
  | _ => ("SmallTongues$Event", "ran", "I", false)
def tyX6 : Nat → FieldType := fun k => match k with
  | 0 => .int
  | 1 => .int
  | 2 => .int
  | 3 => .int
  | 4 => .int
  | 5 => .array .int
  | _ => .int
abbrev wsX60 : List Cond := u_ws RX6 TX6 7
theorem nmX6 : ∀ a, a < 7 → ∀ b, b < 7 → a ≠ b → (TX6 a).2.1 ≠ (TX6 b).2.1 := by decide +kernel
theorem tyX6_ok : ∀ k, k < 7 → parseFieldDescriptor (TX6 k).2.2.1 = some (tyX6 k) := by decide +kernel
abbrev cX6_init : ByteArray := prog_8_method_1_code
def yX6_init : MethodName := ⟨RX6, "<init>", "(IIIII)V"⟩
abbrev cX6_kindNumber : ByteArray := prog_8_method_2_code
def yX6_kindNumber : MethodName := ⟨RX6, "kindNumber", "()I"⟩
abbrev cX6_leads : ByteArray := prog_8_method_3_code
def yX6_leads : MethodName := ⟨RX6, "leads", "(I)I"⟩
def RX7 : String := "SmallTongues$SideBySide"
def TX7 : u_T := fun k => match k with
  | 0 => ("SmallTongues$SideBySide", "least", "[I", true)
  | 1 => ("SmallTongues$SideBySide", "pairs", "[I", true)
  | _ => ("SmallTongues$SideBySide", "places", "I", false)
def tyX7 : Nat → FieldType := fun k => match k with
  | 0 => .array .int
  | 1 => .array .int
  | _ => .int
abbrev wsX70 : List Cond := u_ws RX7 TX7 3
theorem nmX7 : ∀ a, a < 3 → ∀ b, b < 3 → a ≠ b → (TX7 a).2.1 ≠ (TX7 b).2.1 := by decide +kernel
theorem tyX7_ok : ∀ k, k < 3 → parseFieldDescriptor (TX7 k).2.2.1 = some (tyX7 k) := by decide +kernel
abbrev cX7_init : ByteArray := prog_9_method_1_code
def yX7_init : MethodName := ⟨RX7, "<init>", "()V"⟩
abbrev cX7_leastCost : ByteArray := prog_9_method_2_code
def yX7_leastCost : MethodName := ⟨RX7, "leastCost", "(LSmallTongues$Word;LSmallTongues$Word;)I"⟩
abbrev cX7_costOfBoth : ByteArray := prog_9_method_3_code
def yX7_costOfBoth : MethodName := ⟨RX7, "costOfBoth", "(LSmallTongues$Word;LSmallTongues$Word;II)I"⟩
abbrev cX7_lay : ByteArray := prog_9_method_4_code
def yX7_lay : MethodName := ⟨RX7, "lay", "(LSmallTongues$Word;LSmallTongues$Word;)V"⟩
abbrev cX7_hasPair : ByteArray := prog_9_method_5_code
def yX7_hasPair : MethodName := ⟨RX7, "hasPair", "(I)Z"⟩
def RX8 : String := "SmallTongues$SoundEvent"
def TX8 : u_T := fun k => match k with
  | 0 => ("SmallTongues$Event", "number", "I", true)
  | 1 => ("SmallTongues$Event", "year", "I", true)
  | 2 => ("SmallTongues$Event", "tongueNumber", "I", true)
  | 3 => ("SmallTongues$Event", "lawNumber", "I", true)
  | 4 => ("SmallTongues$Event", "meaningNumber", "I", true)
  | 5 => ("SmallTongues$Event", "bodies", "[I", true)
  | _ => ("SmallTongues$Event", "ran", "I", false)
def tyX8 : Nat → FieldType := fun k => match k with
  | 0 => .int
  | 1 => .int
  | 2 => .int
  | 3 => .int
  | 4 => .int
  | 5 => .array .int
  | _ => .int
abbrev wsX80 : List Cond := u_ws RX8 TX8 7
theorem nmX8 : ∀ a, a < 7 → ∀ b, b < 7 → a ≠ b → (TX8 a).2.1 ≠ (TX8 b).2.1 := by decide +kernel
theorem tyX8_ok : ∀ k, k < 7 → parseFieldDescriptor (TX8 k).2.2.1 = some (tyX8 k) := by decide +kernel
abbrev cX8_init : ByteArray := prog_10_method_1_code
def yX8_init : MethodName := ⟨RX8, "<init>", "(IIIII)V"⟩
abbrev cX8_kindNumber : ByteArray := prog_10_method_2_code
def yX8_kindNumber : MethodName := ⟨RX8, "kindNumber", "()I"⟩
abbrev cX8_tells : ByteArray := prog_10_method_3_code
def yX8_tells : MethodName := ⟨RX8, "tells", "(I)I"⟩
def RX9 : String := "SmallTongues$SplitEvent"
def TX9 : u_T := fun k => match k with
  | 0 => ("SmallTongues$Event", "number", "I", true)
  | 1 => ("SmallTongues$Event", "year", "I", true)
  | 2 => ("SmallTongues$Event", "tongueNumber", "I", true)
  | 3 => ("SmallTongues$Event", "lawNumber", "I", true)
  | 4 => ("SmallTongues$Event", "meaningNumber", "I", true)
  | 5 => ("SmallTongues$Event", "bodies", "[I", true)
  | _ => ("SmallTongues$Event", "ran", "I", false)
def tyX9 : Nat → FieldType := fun k => match k with
  | 0 => .int
  | 1 => .int
  | 2 => .int
  | 3 => .int
  | 4 => .int
  | 5 => .array .int
  | _ => .int
abbrev wsX90 : List Cond := u_ws RX9 TX9 7
theorem nmX9 : ∀ a, a < 7 → ∀ b, b < 7 → a ≠ b → (TX9 a).2.1 ≠ (TX9 b).2.1 := by decide +kernel
theorem tyX9_ok : ∀ k, k < 7 → parseFieldDescriptor (TX9 k).2.2.1 = some (tyX9 k) := by decide +kernel
abbrev cX9_init : ByteArray := prog_11_method_1_code
def yX9_init : MethodName := ⟨RX9, "<init>", "(IIIII)V"⟩
abbrev cX9_kindNumber : ByteArray := prog_11_method_2_code
def yX9_kindNumber : MethodName := ⟨RX9, "kindNumber", "()I"⟩
abbrev cX9_marks : ByteArray := prog_11_method_3_code
def yX9_marks : MethodName := ⟨RX9, "marks", "(I)I"⟩
def RX10 : String := "SmallTongues$Word"
def TX10 : u_T := fun k => match k with
  | 0 => ("SmallTongues$Word", "letters", "[I", true)
  | 1 => ("SmallTongues$Word", "size", "I", false)
  | 2 => ("SmallTongues$Word", "root", "I", false)
  | 3 => ("SmallTongues$Word", "isLoan", "Z", false)
  | _ => ("SmallTongues$Word", "isHole", "Z", false)
def tyX10 : Nat → FieldType := fun k => match k with
  | 0 => .array .int
  | 1 => .int
  | 2 => .int
  | 3 => .boolean
  | _ => .boolean
abbrev wsX100 : List Cond := u_ws RX10 TX10 5
theorem nmX10 : ∀ a, a < 5 → ∀ b, b < 5 → a ≠ b → (TX10 a).2.1 ≠ (TX10 b).2.1 := by decide +kernel
theorem tyX10_ok : ∀ k, k < 5 → parseFieldDescriptor (TX10 k).2.2.1 = some (tyX10 k) := by decide +kernel
abbrev cX10_init : ByteArray := prog_12_method_1_code
def yX10_init : MethodName := ⟨RX10, "<init>", "()V"⟩
abbrev cX10_readSounds : ByteArray := prog_12_method_2_code
def yX10_readSounds : MethodName := ⟨RX10, "readSounds", "([II)V"⟩
abbrev cX10_copySounds : ByteArray := prog_12_method_3_code
def yX10_copySounds : MethodName := ⟨RX10, "copySounds", "(LSmallTongues$Word;)V"⟩
abbrev cX10_hasSoundsOf : ByteArray := prog_12_method_4_code
def yX10_hasSoundsOf : MethodName := ⟨RX10, "hasSoundsOf", "(LSmallTongues$Word;)Z"⟩
def RX11 : String := "SmallTongues"
def TX11 : u_T := fun k => match k with
  | 0 => ("SmallTongues", "tape", "[I", true)
  | 1 => ("SmallTongues", "tapeSize", "I", false)
  | 2 => ("SmallTongues", "words", "[LSmallTongues$Word;", true)
  | 3 => ("SmallTongues", "tongueCount", "I", false)
  | 4 => ("SmallTongues", "splits", "[I", true)
  | 5 => ("SmallTongues", "laws", "[LSmallTongues$Law;", true)
  | 6 => ("SmallTongues", "lawCount", "I", false)
  | 7 => ("SmallTongues", "events", "[LSmallTongues$Event;", true)
  | 8 => ("SmallTongues", "eventCount", "I", false)
  | 9 => ("SmallTongues", "latest", "LSmallTongues$Event;", false)
  | 10 => ("SmallTongues", "rootCount", "I", false)
  | 11 => ("SmallTongues", "now", "I", false)
  | 12 => ("SmallTongues", "isOpen", "Z", false)
  | 13 => ("SmallTongues", "kinLimit", "I", false)
  | 14 => ("SmallTongues", "claims", "[I", true)
  | 15 => ("SmallTongues", "claimCount", "I", false)
  | 16 => ("SmallTongues", "sides", "LSmallTongues$SideBySide;", true)
  | 17 => ("SmallTongues", "branches", "LSmallTongues$Branches;", true)
  | 18 => ("SmallTongues", "trial", "LSmallTongues$Word;", true)
  | _ => ("SmallTongues", "otherTrial", "LSmallTongues$Word;", true)
def tyX11 : Nat → FieldType := fun k => match k with
  | 0 => .array .int
  | 1 => .int
  | 2 => .array (.object "SmallTongues$Word")
  | 3 => .int
  | 4 => .array .int
  | 5 => .array (.object "SmallTongues$Law")
  | 6 => .int
  | 7 => .array (.object "SmallTongues$Event")
  | 8 => .int
  | 9 => .object "SmallTongues$Event"
  | 10 => .int
  | 11 => .int
  | 12 => .boolean
  | 13 => .int
  | 14 => .array .int
  | 15 => .int
  | 16 => .object "SmallTongues$SideBySide"
  | 17 => .object "SmallTongues$Branches"
  | 18 => .object "SmallTongues$Word"
  | _ => .object "SmallTongues$Word"
abbrev wsX110 : List Cond := u_ws RX11 TX11 20
theorem nmX11 : ∀ a, a < 20 → ∀ b, b < 20 → a ≠ b → (TX11 a).2.1 ≠ (TX11 b).2.1 := by decide +kernel
theorem tyX11_ok : ∀ k, k < 20 → parseFieldDescriptor (TX11 k).2.2.1 = some (tyX11 k) := by decide +kernel
abbrev cX11_init : ByteArray := prog_1_method_1_code
def yX11_init : MethodName := ⟨RX11, "<init>", "()V"⟩
abbrev cX11_tongue : ByteArray := prog_1_method_2_code
def yX11_tongue : MethodName := ⟨RX11, "tongue", "()I"⟩
abbrev cX11_years : ByteArray := prog_1_method_3_code
def yX11_years : MethodName := ⟨RX11, "years", "(I)I"⟩
abbrev cX11_feed : ByteArray := prog_1_method_4_code
def yX11_feed : MethodName := ⟨RX11, "feed", "(JI)I"⟩
abbrev cX11_law : ByteArray := prog_1_method_5_code
def yX11_law : MethodName := ⟨RX11, "law", "()I"⟩
abbrev cX11_coin : ByteArray := prog_1_method_6_code
def yX11_coin : MethodName := ⟨RX11, "coin", "(II)I"⟩
abbrev cX11_sound : ByteArray := prog_1_method_7_code
def yX11_sound : MethodName := ⟨RX11, "sound", "(II)I"⟩
abbrev cX11_shorten : ByteArray := prog_1_method_8_code
def yX11_shorten : MethodName := ⟨RX11, "shorten", "(II)I"⟩
abbrev cX11_loan : ByteArray := prog_1_method_9_code
def yX11_loan : MethodName := ⟨RX11, "loan", "(III)I"⟩
abbrev cX11_forget : ByteArray := prog_1_method_10_code
def yX11_forget : MethodName := ⟨RX11, "forget", "(II)I"⟩
abbrev cX11_split : ByteArray := prog_1_method_11_code
def yX11_split : MethodName := ⟨RX11, "split", "(I)I"⟩
abbrev cX11_word : ByteArray := prog_1_method_12_code
def yX11_word : MethodName := ⟨RX11, "word", "(III)I"⟩
abbrev cX11_open : ByteArray := prog_1_method_13_code
def yX11_open : MethodName := ⟨RX11, "open", "()I"⟩
abbrev cX11_truth : ByteArray := prog_1_method_14_code
def yX11_truth : MethodName := ⟨RX11, "truth", "(III)I"⟩
abbrev cX11_from : ByteArray := prog_1_method_15_code
def yX11_from : MethodName := ⟨RX11, "from", "(II)I"⟩
abbrev cX11_event : ByteArray := prog_1_method_16_code
def yX11_event : MethodName := ⟨RX11, "event", "(II)I"⟩
abbrev cX11_limit : ByteArray := prog_1_method_17_code
def yX11_limit : MethodName := ⟨RX11, "limit", "(I)I"⟩
abbrev cX11_hole : ByteArray := prog_1_method_18_code
def yX11_hole : MethodName := ⟨RX11, "hole", "(IIZ)I"⟩
abbrev cX11_cost : ByteArray := prog_1_method_19_code
def yX11_cost : MethodName := ⟨RX11, "cost", "(III)I"⟩
abbrev cX11_way : ByteArray := prog_1_method_20_code
def yX11_way : MethodName := ⟨RX11, "way", "(IIII)I"⟩
abbrev cX11_kin : ByteArray := prog_1_method_21_code
def yX11_kin : MethodName := ⟨RX11, "kin", "(III)I"⟩
abbrev cX11_set : ByteArray := prog_1_method_22_code
def yX11_set : MethodName := ⟨RX11, "set", "(II)I"⟩
abbrev cX11_odds : ByteArray := prog_1_method_23_code
def yX11_odds : MethodName := ⟨RX11, "odds", "(IIII)I"⟩
abbrev cX11_matches : ByteArray := prog_1_method_24_code
def yX11_matches : MethodName := ⟨RX11, "matches", "(IIII)I"⟩
abbrev cX11_far : ByteArray := prog_1_method_25_code
def yX11_far : MethodName := ⟨RX11, "far", "(III)I"⟩
abbrev cX11_borrowed : ByteArray := prog_1_method_26_code
def yX11_borrowed : MethodName := ⟨RX11, "borrowed", "(III)I"⟩
abbrev cX11_old : ByteArray := prog_1_method_27_code
def yX11_old : MethodName := ⟨RX11, "old", "(II)I"⟩
abbrev cX11_best : ByteArray := prog_1_method_28_code
def yX11_best : MethodName := ⟨RX11, "best", "(IIII)I"⟩
abbrev cX11_feeds : ByteArray := prog_1_method_29_code
def yX11_feeds : MethodName := ⟨RX11, "feeds", "(III)I"⟩
abbrev cX11_steps : ByteArray := prog_1_method_30_code
def yX11_steps : MethodName := ⟨RX11, "steps", "(II)I"⟩
abbrev cX11_tree : ByteArray := prog_1_method_31_code
def yX11_tree : MethodName := ⟨RX11, "tree", "(II)I"⟩
abbrev cX11_claim : ByteArray := prog_1_method_32_code
def yX11_claim : MethodName := ⟨RX11, "claim", "(IIIZI)I"⟩
abbrev cX11_right : ByteArray := prog_1_method_33_code
def yX11_right : MethodName := ⟨RX11, "right", "(I)I"⟩
abbrev cX11_sure : ByteArray := prog_1_method_34_code
def yX11_sure : MethodName := ⟨RX11, "sure", "(II)I"⟩
abbrev cX11_act : ByteArray := prog_1_method_35_code
def yX11_act : MethodName := ⟨RX11, "act", "(III)I"⟩
abbrev cX11_trace : ByteArray := prog_1_method_36_code
def yX11_trace : MethodName := ⟨RX11, "trace", "(I)I"⟩
abbrev cX11_as : ByteArray := prog_1_method_37_code
def yX11_as : MethodName := ⟨RX11, "as", "(II)I"⟩
abbrev cX11_count : ByteArray := prog_1_method_38_code
def yX11_count : MethodName := ⟨RX11, "count", "(I)I"⟩
abbrev cX11_oneIf : ByteArray := prog_1_method_39_code
def yX11_oneIf : MethodName := ⟨RX11, "oneIf", "(Z)I"⟩
abbrev cX11_isTongue : ByteArray := prog_1_method_40_code
def yX11_isTongue : MethodName := ⟨RX11, "isTongue", "(I)Z"⟩
abbrev cX11_isMeaning : ByteArray := prog_1_method_41_code
def yX11_isMeaning : MethodName := ⟨RX11, "isMeaning", "(I)Z"⟩
abbrev cX11_isLaw : ByteArray := prog_1_method_42_code
def yX11_isLaw : MethodName := ⟨RX11, "isLaw", "(I)Z"⟩
abbrev cX11_isSureness : ByteArray := prog_1_method_43_code
def yX11_isSureness : MethodName := ⟨RX11, "isSureness", "(I)Z"⟩
abbrev cX11_isSoundOrNothing : ByteArray := prog_1_method_44_code
def yX11_isSoundOrNothing : MethodName := ⟨RX11, "isSoundOrNothing", "(I)Z"⟩
abbrev cX11_isLetterByte : ByteArray := prog_1_method_45_code
def yX11_isLetterByte : MethodName := ⟨RX11, "isLetterByte", "(I)Z"⟩
abbrev cX11_isVowel : ByteArray := prog_1_method_46_code
def yX11_isVowel : MethodName := ⟨RX11, "isVowel", "(I)Z"⟩
abbrev cX11_spokenWord : ByteArray := prog_1_method_47_code
def yX11_spokenWord : MethodName := ⟨RX11, "spokenWord", "(II)LSmallTongues$Word;"⟩
abbrev cX11_listedWord : ByteArray := prog_1_method_48_code
def yX11_listedWord : MethodName := ⟨RX11, "listedWord", "(II)LSmallTongues$Word;"⟩
abbrev cX11_eventAt : ByteArray := prog_1_method_49_code
def yX11_eventAt : MethodName := ⟨RX11, "eventAt", "(I)LSmallTongues$Event;"⟩
abbrev cX11_isOfKind : ByteArray := prog_1_method_50_code
def yX11_isOfKind : MethodName := ⟨RX11, "isOfKind", "(LSmallTongues$Event;I)Z"⟩
abbrev cX11_newTongue : ByteArray := prog_1_method_51_code
def yX11_newTongue : MethodName := ⟨RX11, "newTongue", "(II)I"⟩
abbrev cX11_happen : ByteArray := prog_1_method_52_code
def yX11_happen : MethodName := ⟨RX11, "happen", "(LSmallTongues$Event;)V"⟩
abbrev cX11_faultOfWord : ByteArray := prog_1_method_53_code
def yX11_faultOfWord : MethodName := ⟨RX11, "faultOfWord", "(I)I"⟩
abbrev cX11_areKin : ByteArray := prog_1_method_54_code
def yX11_areKin : MethodName := ⟨RX11, "areKin", "(LSmallTongues$Word;LSmallTongues$Word;)Z"⟩
abbrev cX11_kinSet : ByteArray := prog_1_method_55_code
def yX11_kinSet : MethodName := ⟨RX11, "kinSet", "(II)I"⟩
abbrev cX11_meaningsOfBoth : ByteArray := prog_1_method_56_code
def yX11_meaningsOfBoth : MethodName := ⟨RX11, "meaningsOfBoth", "(II)I"⟩
abbrev cX11_costsTogether : ByteArray := prog_1_method_57_code
def yX11_costsTogether : MethodName := ⟨RX11, "costsTogether", "(III)I"⟩
abbrev cX11_costsWithOthers : ByteArray := prog_1_method_58_code
def yX11_costsWithOthers : MethodName := ⟨RX11, "costsWithOthers", "(II)I"⟩
abbrev cX11_firstOrder : ByteArray := prog_1_method_59_code
def yX11_firstOrder : MethodName := ⟨RX11, "firstOrder", "(I)[I"⟩
abbrev cX11_toNextOrder : ByteArray := prog_1_method_60_code
def yX11_toNextOrder : MethodName := ⟨RX11, "toNextOrder", "([II)Z"⟩
abbrev cX11_swap : ByteArray := prog_1_method_61_code
def yX11_swap : MethodName := ⟨RX11, "swap", "([III)V"⟩
abbrev cX11_comeOut : ByteArray := prog_1_method_62_code
def yX11_comeOut : MethodName := ⟨RX11, "comeOut", "(II[II)I"⟩
abbrev cX11_isOrderFelt : ByteArray := prog_1_method_63_code
def yX11_isOrderFelt : MethodName := ⟨RX11, "isOrderFelt", "(LSmallTongues$Word;LSmallTongues$Law;LSmallTongues$Law;)Z"⟩
abbrev cX11_areLeaves : ByteArray := prog_1_method_64_code
def yX11_areLeaves : MethodName := ⟨RX11, "areLeaves", "(I)Z"⟩
abbrev cX11_treesOf : ByteArray := prog_1_method_65_code
def yX11_treesOf : MethodName := ⟨RX11, "treesOf", "(I)I"⟩
abbrev cX11_hangSets : ByteArray := prog_1_method_66_code
def yX11_hangSets : MethodName := ⟨RX11, "hangSets", "()V"⟩
abbrev cX11_stepsOf : ByteArray := prog_1_method_67_code
def yX11_stepsOf : MethodName := ⟨RX11, "stepsOf", "(II)I"⟩
def RX12 : String := "SmallTonguesModel"
def TX12 : u_T := fun k => match k with
  | 0 => ("SmallTonguesModel", "thrown", "I", false)
  | 1 => ("SmallTonguesModel", "tongues", "I", false)
  | 2 => ("SmallTonguesModel", "now", "I", false)
  | 3 => ("SmallTonguesModel", "laws", "I", false)
  | 4 => ("SmallTonguesModel", "events", "I", false)
  | 5 => ("SmallTonguesModel", "roots", "I", false)
  | 6 => ("SmallTonguesModel", "claims", "I", false)
  | 7 => ("SmallTonguesModel", "taped", "I", false)
  | 8 => ("SmallTonguesModel", "limit", "I", false)
  | 9 => ("SmallTonguesModel", "isOpen", "Z", false)
  | 10 => ("SmallTonguesModel", "tape", "[I", true)
  | 11 => ("SmallTonguesModel", "longs", "[I", true)
  | 12 => ("SmallTonguesModel", "sounds", "[I", true)
  | 13 => ("SmallTonguesModel", "root", "[I", true)
  | 14 => ("SmallTonguesModel", "isLoan", "[Z", true)
  | 15 => ("SmallTonguesModel", "isHole", "[Z", true)
  | 16 => ("SmallTonguesModel", "from", "[I", true)
  | 17 => ("SmallTonguesModel", "when", "[I", true)
  | 18 => ("SmallTonguesModel", "changes", "[I", true)
  | 19 => ("SmallTonguesModel", "sign", "[I", true)
  | 20 => ("SmallTonguesModel", "becomes", "[I", true)
  | 21 => ("SmallTonguesModel", "left", "[I", true)
  | 22 => ("SmallTonguesModel", "right", "[I", true)
  | 23 => ("SmallTonguesModel", "eventKind", "[I", true)
  | 24 => ("SmallTonguesModel", "eventYear", "[I", true)
  | 25 => ("SmallTonguesModel", "eventTongue", "[I", true)
  | 26 => ("SmallTonguesModel", "eventLaw", "[I", true)
  | 27 => ("SmallTonguesModel", "eventMeaning", "[I", true)
  | 28 => ("SmallTonguesModel", "claimSure", "[I", true)
  | 29 => ("SmallTonguesModel", "claimRight", "[Z", true)
  | 30 => ("SmallTonguesModel", "spot", "I", false)
  | 31 => ("SmallTonguesModel", "size", "I", false)
  | 32 => ("SmallTonguesModel", "isWrong", "Z", false)
  | 33 => ("SmallTonguesModel", "word", "[I", true)
  | 34 => ("SmallTonguesModel", "ahead", "[I", true)
  | 35 => ("SmallTonguesModel", "many", "I", false)
  | 36 => ("SmallTonguesModel", "rest", "[I", true)
  | 37 => ("SmallTonguesModel", "way", "[I", true)
  | 38 => ("SmallTonguesModel", "places", "I", false)
  | 39 => ("SmallTonguesModel", "sumCosts", "I", false)
  | 40 => ("SmallTonguesModel", "sumMany", "I", false)
  | 41 => ("SmallTonguesModel", "told", "[I", true)
  | 42 => ("SmallTonguesModel", "row", "[I", true)
  | 43 => ("SmallTonguesModel", "bestRow", "[I", true)
  | 44 => ("SmallTonguesModel", "tolds", "I", false)
  | 45 => ("SmallTonguesModel", "bestMany", "I", false)
  | 46 => ("SmallTonguesModel", "bestExcept", "I", false)
  | 47 => ("SmallTonguesModel", "oneWay", "[I", true)
  | 48 => ("SmallTonguesModel", "leaves", "[I", true)
  | 49 => ("SmallTonguesModel", "begins", "[I", true)
  | 50 => ("SmallTonguesModel", "ends", "[I", true)
  | 51 => ("SmallTonguesModel", "leafMany", "I", false)
  | 52 => ("SmallTonguesModel", "branches", "I", false)
  | 53 => ("SmallTonguesModel", "knots", "I", false)
  | 54 => ("SmallTonguesModel", "sets", "[I", true)
  | 55 => ("SmallTonguesModel", "least", "[I", true)
  | 56 => ("SmallTonguesModel", "bodies", "[I", true)
  | 57 => ("SmallTonguesModel", "ran", "I", false)
  | 58 => ("SmallTonguesModel", "kind", "I", false)
  | 59 => ("SmallTonguesModel", "number", "I", false)
  | _ => ("SmallTonguesModel", "year", "I", false)
def tyX12 : Nat → FieldType := fun k => match k with
  | 0 => .int
  | 1 => .int
  | 2 => .int
  | 3 => .int
  | 4 => .int
  | 5 => .int
  | 6 => .int
  | 7 => .int
  | 8 => .int
  | 9 => .boolean
  | 10 => .array .int
  | 11 => .array .int
  | 12 => .array .int
  | 13 => .array .int
  | 14 => .array .boolean
  | 15 => .array .boolean
  | 16 => .array .int
  | 17 => .array .int
  | 18 => .array .int
  | 19 => .array .int
  | 20 => .array .int
  | 21 => .array .int
  | 22 => .array .int
  | 23 => .array .int
  | 24 => .array .int
  | 25 => .array .int
  | 26 => .array .int
  | 27 => .array .int
  | 28 => .array .int
  | 29 => .array .boolean
  | 30 => .int
  | 31 => .int
  | 32 => .boolean
  | 33 => .array .int
  | 34 => .array .int
  | 35 => .int
  | 36 => .array .int
  | 37 => .array .int
  | 38 => .int
  | 39 => .int
  | 40 => .int
  | 41 => .array .int
  | 42 => .array .int
  | 43 => .array .int
  | 44 => .int
  | 45 => .int
  | 46 => .int
  | 47 => .array .int
  | 48 => .array .int
  | 49 => .array .int
  | 50 => .array .int
  | 51 => .int
  | 52 => .int
  | 53 => .int
  | 54 => .array .int
  | 55 => .array .int
  | 56 => .array .int
  | 57 => .int
  | 58 => .int
  | 59 => .int
  | _ => .int
abbrev wsX120 : List Cond := u_ws RX12 TX12 61
theorem nmX12 : ∀ a, a < 61 → ∀ b, b < 61 → a ≠ b → (TX12 a).2.1 ≠ (TX12 b).2.1 := by decide +kernel
theorem tyX12_ok : ∀ k, k < 61 → parseFieldDescriptor (TX12 k).2.2.1 = some (tyX12 k) := by decide +kernel
abbrev cX12_init : ByteArray := prog_14_method_1_code
def yX12_init : MethodName := ⟨RX12, "<init>", "()V"⟩
abbrev cX12_in : ByteArray := prog_14_method_3_code
def yX12_in : MethodName := ⟨RX12, "in", "(III)Z"⟩
abbrev cX12_isTongue : ByteArray := prog_14_method_4_code
def yX12_isTongue : MethodName := ⟨RX12, "isTongue", "(I)Z"⟩
abbrev cX12_isMeaning : ByteArray := prog_14_method_5_code
def yX12_isMeaning : MethodName := ⟨RX12, "isMeaning", "(I)Z"⟩
abbrev cX12_isLaw : ByteArray := prog_14_method_6_code
def yX12_isLaw : MethodName := ⟨RX12, "isLaw", "(I)Z"⟩
abbrev cX12_hasWord : ByteArray := prog_14_method_7_code
def yX12_hasWord : MethodName := ⟨RX12, "hasWord", "(II)Z"⟩
abbrev cX12_tongue : ByteArray := prog_14_method_8_code
def yX12_tongue : MethodName := ⟨RX12, "tongue", "()I"⟩
abbrev cX12_years : ByteArray := prog_14_method_9_code
def yX12_years : MethodName := ⟨RX12, "years", "(I)I"⟩
abbrev cX12_feed : ByteArray := prog_14_method_10_code
def yX12_feed : MethodName := ⟨RX12, "feed", "(JI)I"⟩
abbrev cX12_here : ByteArray := prog_14_method_11_code
def yX12_here : MethodName := ⟨RX12, "here", "()I"⟩
abbrev cX12_must : ByteArray := prog_14_method_12_code
def yX12_must : MethodName := ⟨RX12, "must", "(I)V"⟩
abbrev cX12_part : ByteArray := prog_14_method_13_code
def yX12_part : MethodName := ⟨RX12, "part", "()I"⟩
abbrev cX12_side : ByteArray := prog_14_method_14_code
def yX12_side : MethodName := ⟨RX12, "side", "()I"⟩
abbrev cX12_reads : ByteArray := prog_14_method_15_code
def yX12_reads : MethodName := ⟨RX12, "reads", "(I)V"⟩
abbrev cX12_law : ByteArray := prog_14_method_16_code
def yX12_law : MethodName := ⟨RX12, "law", "()I"⟩
abbrev cX12_isVowel : ByteArray := prog_14_method_17_code
def yX12_isVowel : MethodName := ⟨RX12, "isVowel", "(I)Z"⟩
abbrev cX12_isAs : ByteArray := prog_14_method_18_code
def yX12_isAs : MethodName := ⟨RX12, "isAs", "(II)Z"⟩
abbrev cX12_stands : ByteArray := prog_14_method_19_code
def yX12_stands : MethodName := ⟨RX12, "stands", "(II)Z"⟩
abbrev cX12_changeOf : ByteArray := prog_14_method_20_code
def yX12_changeOf : MethodName := ⟨RX12, "changeOf", "(II)I"⟩
abbrev cX12_applies : ByteArray := prog_14_method_21_code
def yX12_applies : MethodName := ⟨RX12, "applies", "(I)V"⟩
abbrev cX12_takes : ByteArray := prog_14_method_22_code
def yX12_takes : MethodName := ⟨RX12, "takes", "(II)V"⟩
abbrev cX12_isWord : ByteArray := prog_14_method_23_code
def yX12_isWord : MethodName := ⟨RX12, "isWord", "(II)Z"⟩
abbrev cX12_puts : ByteArray := prog_14_method_24_code
def yX12_puts : MethodName := ⟨RX12, "puts", "(II)V"⟩
abbrev cX12_happens : ByteArray := prog_14_method_25_code
def yX12_happens : MethodName := ⟨RX12, "happens", "(IIII)V"⟩
abbrev cX12_coin : ByteArray := prog_14_method_26_code
def yX12_coin : MethodName := ⟨RX12, "coin", "(II)I"⟩
abbrev cX12_sound : ByteArray := prog_14_method_27_code
def yX12_sound : MethodName := ⟨RX12, "sound", "(II)I"⟩
abbrev cX12_shorten : ByteArray := prog_14_method_28_code
def yX12_shorten : MethodName := ⟨RX12, "shorten", "(II)I"⟩
abbrev cX12_loan : ByteArray := prog_14_method_29_code
def yX12_loan : MethodName := ⟨RX12, "loan", "(III)I"⟩
abbrev cX12_forget : ByteArray := prog_14_method_30_code
def yX12_forget : MethodName := ⟨RX12, "forget", "(II)I"⟩
abbrev cX12_split : ByteArray := prog_14_method_31_code
def yX12_split : MethodName := ⟨RX12, "split", "(I)I"⟩
abbrev cX12_word : ByteArray := prog_14_method_32_code
def yX12_word : MethodName := ⟨RX12, "word", "(III)I"⟩
abbrev cX12_open : ByteArray := prog_14_method_33_code
def yX12_open : MethodName := ⟨RX12, "open", "()I"⟩
abbrev cX12_truth : ByteArray := prog_14_method_34_code
def yX12_truth : MethodName := ⟨RX12, "truth", "(III)I"⟩
abbrev cX12_from : ByteArray := prog_14_method_35_code
def yX12_from : MethodName := ⟨RX12, "from", "(II)I"⟩
abbrev cX12_event : ByteArray := prog_14_method_36_code
def yX12_event : MethodName := ⟨RX12, "event", "(II)I"⟩
abbrev cX12_limit : ByteArray := prog_14_method_37_code
def yX12_limit : MethodName := ⟨RX12, "limit", "(I)I"⟩
abbrev cX12_hole : ByteArray := prog_14_method_38_code
def yX12_hole : MethodName := ⟨RX12, "hole", "(IIZ)I"⟩
abbrev cX12_has : ByteArray := prog_14_method_39_code
def yX12_has : MethodName := ⟨RX12, "has", "(II)Z"⟩
abbrev cX12_apart : ByteArray := prog_14_method_40_code
def yX12_apart : MethodName := ⟨RX12, "apart", "(II)I"⟩
abbrev cX12_costOf : ByteArray := prog_14_method_41_code
def yX12_costOf : MethodName := ⟨RX12, "costOf", "(IIII)I"⟩
abbrev cX12_cost : ByteArray := prog_14_method_42_code
def yX12_cost : MethodName := ⟨RX12, "cost", "(III)I"⟩
abbrev cX12_walks : ByteArray := prog_14_method_43_code
def yX12_walks : MethodName := ⟨RX12, "walks", "(III)V"⟩
abbrev cX12_way : ByteArray := prog_14_method_44_code
def yX12_way : MethodName := ⟨RX12, "way", "(IIII)I"⟩
abbrev cX12_areKin : ByteArray := prog_14_method_45_code
def yX12_areKin : MethodName := ⟨RX12, "areKin", "(IIII)Z"⟩
abbrev cX12_kin : ByteArray := prog_14_method_46_code
def yX12_kin : MethodName := ⟨RX12, "kin", "(III)I"⟩
abbrev cX12_setOf : ByteArray := prog_14_method_47_code
def yX12_setOf : MethodName := ⟨RX12, "setOf", "(II)I"⟩
abbrev cX12_set : ByteArray := prog_14_method_48_code
def yX12_set : MethodName := ⟨RX12, "set", "(II)I"⟩
abbrev cX12_odds : ByteArray := prog_14_method_49_code
def yX12_odds : MethodName := ⟨RX12, "odds", "(IIII)I"⟩
abbrev cX12_matches : ByteArray := prog_14_method_50_code
def yX12_matches : MethodName := ⟨RX12, "matches", "(IIII)I"⟩
abbrev cX12_sums : ByteArray := prog_14_method_51_code
def yX12_sums : MethodName := ⟨RX12, "sums", "(III)V"⟩
abbrev cX12_far : ByteArray := prog_14_method_52_code
def yX12_far : MethodName := ⟨RX12, "far", "(III)I"⟩
abbrev cX12_borrowed : ByteArray := prog_14_method_53_code
def yX12_borrowed : MethodName := ⟨RX12, "borrowed", "(III)I"⟩
abbrev cX12_old : ByteArray := prog_14_method_54_code
def yX12_old : MethodName := ⟨RX12, "old", "(II)I"⟩
abbrev cX12_tries : ByteArray := prog_14_method_55_code
def yX12_tries : MethodName := ⟨RX12, "tries", "(II)V"⟩
abbrev cX12_orders : ByteArray := prog_14_method_56_code
def yX12_orders : MethodName := ⟨RX12, "orders", "(IIII)V"⟩
abbrev cX12_count1 : ByteArray := prog_14_method_57_code
def yX12_count1 : MethodName := ⟨RX12, "count1", "(I)I"⟩
abbrev cX12_best : ByteArray := prog_14_method_58_code
def yX12_best : MethodName := ⟨RX12, "best", "(IIII)I"⟩
abbrev cX12_feeds : ByteArray := prog_14_method_59_code
def yX12_feeds : MethodName := ⟨RX12, "feeds", "(III)I"⟩
abbrev cX12_refuses : ByteArray := prog_14_method_60_code
def yX12_refuses : MethodName := ⟨RX12, "refuses", "(I)I"⟩
abbrev cX12_trees : ByteArray := prog_14_method_61_code
def yX12_trees : MethodName := ⟨RX12, "trees", "()I"⟩
abbrev cX12_grows : ByteArray := prog_14_method_62_code
def yX12_grows : MethodName := ⟨RX12, "grows", "(I)V"⟩
abbrev cX12_below : ByteArray := prog_14_method_63_code
def yX12_below : MethodName := ⟨RX12, "below", "(III)I"⟩
abbrev cX12_stepsOf : ByteArray := prog_14_method_64_code
def yX12_stepsOf : MethodName := ⟨RX12, "stepsOf", "(I)I"⟩
abbrev cX12_steps : ByteArray := prog_14_method_65_code
def yX12_steps : MethodName := ⟨RX12, "steps", "(II)I"⟩
abbrev cX12_tree : ByteArray := prog_14_method_66_code
def yX12_tree : MethodName := ⟨RX12, "tree", "(II)I"⟩
abbrev cX12_claim : ByteArray := prog_14_method_67_code
def yX12_claim : MethodName := ⟨RX12, "claim", "(IIIZI)I"⟩
abbrev cX12_right : ByteArray := prog_14_method_68_code
def yX12_right : MethodName := ⟨RX12, "right", "(I)I"⟩
abbrev cX12_sure : ByteArray := prog_14_method_69_code
def yX12_sure : MethodName := ⟨RX12, "sure", "(II)I"⟩
abbrev cX12_runs : ByteArray := prog_14_method_70_code
def yX12_runs : MethodName := ⟨RX12, "runs", "(I)V"⟩
abbrev cX12_isUnder : ByteArray := prog_14_method_71_code
def yX12_isUnder : MethodName := ⟨RX12, "isUnder", "(II)Z"⟩
abbrev cX12_plainTells : ByteArray := prog_14_method_72_code
def yX12_plainTells : MethodName := ⟨RX12, "plainTells", "(I)I"⟩
abbrev cX12_tells : ByteArray := prog_14_method_73_code
def yX12_tells : MethodName := ⟨RX12, "tells", "(I)I"⟩
abbrev cX12_plainLeads : ByteArray := prog_14_method_74_code
def yX12_plainLeads : MethodName := ⟨RX12, "plainLeads", "(I)I"⟩
abbrev cX12_leads : ByteArray := prog_14_method_75_code
def yX12_leads : MethodName := ⟨RX12, "leads", "(I)I"⟩
abbrev cX12_plainMarks : ByteArray := prog_14_method_76_code
def yX12_plainMarks : MethodName := ⟨RX12, "plainMarks", "(I)I"⟩
abbrev cX12_marks : ByteArray := prog_14_method_77_code
def yX12_marks : MethodName := ⟨RX12, "marks", "(I)I"⟩
abbrev cX12_act : ByteArray := prog_14_method_78_code
def yX12_act : MethodName := ⟨RX12, "act", "(III)I"⟩
abbrev cX12_trace : ByteArray := prog_14_method_79_code
def yX12_trace : MethodName := ⟨RX12, "trace", "(I)I"⟩
abbrev cX12_as : ByteArray := prog_14_method_80_code
def yX12_as : MethodName := ⟨RX12, "as", "(II)I"⟩
abbrev cX12_count : ByteArray := prog_14_method_81_code
def yX12_count : MethodName := ⟨RX12, "count", "(I)I"⟩
def RJ6 : String := "java/lang/Integer"
def TJ6 : u_T := fun k => match k with
  | _ => ("", "", "", false)
def tyJ6 : Nat → FieldType := fun k => match k with
  | _ => .int
abbrev wsJ60 : List Cond := u_ws RJ6 TJ6 0
theorem nmJ6 : ∀ a, a < 0 → ∀ b, b < 0 → a ≠ b → (TJ6 a).2.1 ≠ (TJ6 b).2.1 := by decide +kernel
theorem tyJ6_ok : ∀ k, k < 0 → parseFieldDescriptor (TJ6 k).2.2.1 = some (tyJ6 k) := by decide +kernel
abbrev cJ6_numberOfTrailingZeros_0f7a4 : ByteArray := prog_15_method_48_code
def yJ6_numberOfTrailingZeros_0f7a4 : MethodName := ⟨RJ6, "numberOfTrailingZeros", "(I)I"⟩
abbrev cJ6_bitCount_0f7a4 : ByteArray := prog_15_method_49_code
def yJ6_bitCount_0f7a4 : MethodName := ⟨RJ6, "bitCount", "(I)I"⟩
def RJ9 : String := "java/lang/Math"
def TJ9 : u_T := fun k => match k with
  | _ => ("", "", "", false)
def tyJ9 : Nat → FieldType := fun k => match k with
  | _ => .int
abbrev wsJ90 : List Cond := u_ws RJ9 TJ9 0
theorem nmJ9 : ∀ a, a < 0 → ∀ b, b < 0 → a ≠ b → (TJ9 a).2.1 ≠ (TJ9 b).2.1 := by decide +kernel
theorem tyJ9_ok : ∀ k, k < 0 → parseFieldDescriptor (TJ9 k).2.2.1 = some (tyJ9 k) := by decide +kernel
abbrev cJ9_max_7cf53 : ByteArray := prog_16_method_65_code
def yJ9_max_7cf53 : MethodName := ⟨RJ9, "max", "(II)I"⟩
abbrev cJ9_min_7cf53 : ByteArray := prog_16_method_69_code
def yJ9_min_7cf53 : MethodName := ⟨RJ9, "min", "(II)I"⟩
def RJ10 : String := "java/lang/System"
def TJ10 : u_T := fun k => match k with
  | _ => ("", "", "", false)
def tyJ10 : Nat → FieldType := fun k => match k with
  | _ => .int
abbrev wsJ100 : List Cond := u_ws RJ10 TJ10 0
theorem nmJ10 : ∀ a, a < 0 → ∀ b, b < 0 → a ≠ b → (TJ10 a).2.1 ≠ (TJ10 b).2.1 := by decide +kernel
theorem tyJ10_ok : ∀ k, k < 0 → parseFieldDescriptor (TJ10 k).2.2.1 = some (tyJ10 k) := by decide +kernel
def RL : String := "SmallTonguesLaw"
abbrev cL_law : ByteArray := code
def yL_law : MethodName := ⟨RL, "law", "([I)Z"⟩
abbrev vwCl : List vw_C := [(RX0, TX0, 6), (RX1, TX1, 7), (RX3, TX3, 7), (RX4, TX4, 6), (RX5, TX5, 7), (RX6, TX6, 7), (RX7, TX7, 3), (RX8, TX8, 7), (RX9, TX9, 7), (RX10, TX10, 5), (RX11, TX11, 20), (RX12, TX12, 61)]
end
section
theorem dX0_init_0 : decode cX0_init 0 = .ok (.aload_n 0, 1) := by decide +kernel
theorem dX0_init_1 : decode cX0_init 1 = .ok (.invokespecial 3, 3) := by decide +kernel
theorem dX0_init_4 : decode cX0_init 4 = .ok (.aload_n 0, 1) := by decide +kernel
theorem dX0_init_5 : decode cX0_init 5 = .ok (.bipush 9, 2) := by decide +kernel
theorem dX0_init_7 : decode cX0_init 7 = .ok (.newarray .int, 2) := by decide +kernel
theorem dX0_init_9 : decode cX0_init 9 = .ok (.putfield 11, 3) := by decide +kernel
theorem dX0_init_12 : decode cX0_init 12 = .ok (.aload_n 0, 1) := by decide +kernel
theorem dX0_init_13 : decode cX0_init 13 = .ok (.bipush 9, 2) := by decide +kernel
theorem dX0_init_15 : decode cX0_init 15 = .ok (.newarray .int, 2) := by decide +kernel
theorem dX0_init_17 : decode cX0_init 17 = .ok (.putfield 15, 3) := by decide +kernel
theorem dX0_init_20 : decode cX0_init 20 = .ok (.aload_n 0, 1) := by decide +kernel
theorem dX0_init_21 : decode cX0_init 21 = .ok (.bipush 9, 2) := by decide +kernel
theorem dX0_init_23 : decode cX0_init 23 = .ok (.newarray .int, 2) := by decide +kernel
theorem dX0_init_25 : decode cX0_init 25 = .ok (.putfield 18, 3) := by decide +kernel
theorem dX0_init_28 : decode cX0_init 28 = .ok (.aload_n 0, 1) := by decide +kernel
theorem dX0_init_29 : decode cX0_init 29 = .ok (.bipush 60, 2) := by decide +kernel
theorem dX0_init_31 : decode cX0_init 31 = .ok (.newarray .int, 2) := by decide +kernel
theorem dX0_init_33 : decode cX0_init 33 = .ok (.putfield 21, 3) := by decide +kernel
theorem dX0_init_36 : decode cX0_init 36 = .ok (.aload_n 0, 1) := by decide +kernel
theorem dX0_init_37 : decode cX0_init 37 = .ok (.bipush 10, 2) := by decide +kernel
theorem dX0_init_39 : decode cX0_init 39 = .ok (.newarray .int, 2) := by decide +kernel
theorem dX0_init_41 : decode cX0_init 41 = .ok (.putfield 24, 3) := by decide +kernel
theorem dX0_init_44 : decode cX0_init 44 = .ok (.return_, 1) := by decide +kernel
theorem dX0_whenSet_0 : decode cX0_whenSet 0 = .ok (.iconst 2, 1) := by decide +kernel
theorem dX0_whenSet_1 : decode cX0_whenSet 1 = .ok (.iload_n 0, 1) := by decide +kernel
theorem dX0_whenSet_2 : decode cX0_whenSet 2 = .ok (.imul, 1) := by decide +kernel
theorem dX0_whenSet_3 : decode cX0_whenSet 3 = .ok (.iconst 3, 1) := by decide +kernel
theorem dX0_whenSet_4 : decode cX0_whenSet 4 = .ok (.isub, 1) := by decide +kernel
theorem dX0_whenSet_5 : decode cX0_whenSet 5 = .ok (.ireturn, 1) := by decide +kernel
theorem dX0_hang_0 : decode cX0_hang 0 = .ok (.iconst 0, 1) := by decide +kernel
theorem dX0_hang_1 : decode cX0_hang 1 = .ok (.istore 4, 2) := by decide +kernel
theorem dX0_hang_3 : decode cX0_hang 3 = .ok (.iload 4, 2) := by decide +kernel
theorem dX0_hang_5 : decode cX0_hang 5 = .ok (.bipush 6, 2) := by decide +kernel
theorem dX0_hang_7 : decode cX0_hang 7 = .ok (.if_icmp .ge 31, 3) := by decide +kernel
theorem dX0_hang_10 : decode cX0_hang 10 = .ok (.iload_n 2, 1) := by decide +kernel
theorem dX0_hang_11 : decode cX0_hang 11 = .ok (.iload 4, 2) := by decide +kernel
theorem dX0_hang_13 : decode cX0_hang 13 = .ok (.ishr, 1) := by decide +kernel
theorem dX0_hang_14 : decode cX0_hang 14 = .ok (.iconst 1, 1) := by decide +kernel
theorem dX0_hang_15 : decode cX0_hang 15 = .ok (.iand, 1) := by decide +kernel
theorem dX0_hang_16 : decode cX0_hang 16 = .ok (.ifCond .eq 16, 3) := by decide +kernel
theorem dX0_hang_19 : decode cX0_hang 19 = .ok (.aload_n 0, 1) := by decide +kernel
theorem dX0_hang_20 : decode cX0_hang 20 = .ok (.getfield 21, 3) := by decide +kernel
theorem dX0_hang_23 : decode cX0_hang 23 = .ok (.iload_n 1, 1) := by decide +kernel
theorem dX0_hang_24 : decode cX0_hang 24 = .ok (.bipush 6, 2) := by decide +kernel
theorem dX0_hang_26 : decode cX0_hang 26 = .ok (.imul, 1) := by decide +kernel
theorem dX0_hang_27 : decode cX0_hang 27 = .ok (.iload 4, 2) := by decide +kernel
theorem dX0_hang_29 : decode cX0_hang 29 = .ok (.iadd, 1) := by decide +kernel
theorem dX0_hang_30 : decode cX0_hang 30 = .ok (.iload_n 3, 1) := by decide +kernel
theorem dX0_hang_31 : decode cX0_hang 31 = .ok (.iastore, 1) := by decide +kernel
theorem dX0_hang_32 : decode cX0_hang 32 = .ok (.iinc 4 1, 3) := by decide +kernel
theorem dX0_hang_35 : decode cX0_hang 35 = .ok (.goto (-32), 3) := by decide +kernel
theorem dX0_hang_38 : decode cX0_hang 38 = .ok (.return_, 1) := by decide +kernel
theorem dX0_grow_0 : decode cX0_grow 0 = .ok (.aload_n 0, 1) := by decide +kernel
theorem dX0_grow_1 : decode cX0_grow 1 = .ok (.iconst 0, 1) := by decide +kernel
theorem dX0_grow_2 : decode cX0_grow 2 = .ok (.putfield 27, 3) := by decide +kernel
theorem dX0_grow_5 : decode cX0_grow 5 = .ok (.iconst 0, 1) := by decide +kernel
theorem dX0_grow_6 : decode cX0_grow 6 = .ok (.istore_n 3, 1) := by decide +kernel
theorem dX0_grow_7 : decode cX0_grow 7 = .ok (.iconst 0, 1) := by decide +kernel
theorem dX0_grow_8 : decode cX0_grow 8 = .ok (.istore 4, 2) := by decide +kernel
theorem dX0_grow_10 : decode cX0_grow 10 = .ok (.iload 4, 2) := by decide +kernel
theorem dX0_grow_12 : decode cX0_grow 12 = .ok (.bipush 6, 2) := by decide +kernel
theorem dX0_grow_14 : decode cX0_grow 14 = .ok (.if_icmp .ge 55, 3) := by decide +kernel
theorem dX0_grow_17 : decode cX0_grow 17 = .ok (.iload_n 1, 1) := by decide +kernel
theorem dX0_grow_18 : decode cX0_grow 18 = .ok (.iload 4, 2) := by decide +kernel
theorem dX0_grow_20 : decode cX0_grow 20 = .ok (.ishr, 1) := by decide +kernel
theorem dX0_grow_21 : decode cX0_grow 21 = .ok (.iconst 1, 1) := by decide +kernel
theorem dX0_grow_22 : decode cX0_grow 22 = .ok (.iand, 1) := by decide +kernel
theorem dX0_grow_23 : decode cX0_grow 23 = .ok (.ifCond .eq 40, 3) := by decide +kernel
theorem dX0_grow_26 : decode cX0_grow 26 = .ok (.iload_n 3, 1) := by decide +kernel
theorem dX0_grow_27 : decode cX0_grow 27 = .ok (.iconst 3, 1) := by decide +kernel
theorem dX0_grow_28 : decode cX0_grow 28 = .ok (.if_icmp .ge 14, 3) := by decide +kernel
theorem dX0_grow_31 : decode cX0_grow 31 = .ok (.aload_n 0, 1) := by decide +kernel
theorem dX0_grow_32 : decode cX0_grow 32 = .ok (.bipush 6, 2) := by decide +kernel
theorem dX0_grow_34 : decode cX0_grow 34 = .ok (.iload 4, 2) := by decide +kernel
theorem dX0_grow_36 : decode cX0_grow 36 = .ok (.invokevirtual 31, 3) := by decide +kernel
theorem dX0_grow_39 : decode cX0_grow 39 = .ok (.goto 21, 3) := by decide +kernel
theorem dX0_grow_42 : decode cX0_grow 42 = .ok (.aload_n 0, 1) := by decide +kernel
theorem dX0_grow_43 : decode cX0_grow 43 = .ok (.iload_n 1, 1) := by decide +kernel
theorem dX0_grow_44 : decode cX0_grow 44 = .ok (.iload_n 2, 1) := by decide +kernel
theorem dX0_grow_45 : decode cX0_grow 45 = .ok (.iload_n 3, 1) := by decide +kernel
theorem dX0_grow_46 : decode cX0_grow 46 = .ok (.invokestatic 35, 3) := by decide +kernel
theorem dX0_grow_49 : decode cX0_grow 49 = .ok (.iload 4, 2) := by decide +kernel
theorem dX0_grow_51 : decode cX0_grow 51 = .ok (.bipush 6, 2) := by decide +kernel
theorem dX0_grow_53 : decode cX0_grow 53 = .ok (.iload_n 3, 1) := by decide +kernel
theorem dX0_grow_54 : decode cX0_grow 54 = .ok (.iadd, 1) := by decide +kernel
theorem dX0_grow_55 : decode cX0_grow 55 = .ok (.iconst 2, 1) := by decide +kernel
theorem dX0_grow_56 : decode cX0_grow 56 = .ok (.isub, 1) := by decide +kernel
theorem dX0_grow_57 : decode cX0_grow 57 = .ok (.invokevirtual 39, 3) := by decide +kernel
theorem dX0_grow_60 : decode cX0_grow 60 = .ok (.iinc 3 1, 3) := by decide +kernel
theorem dX0_grow_63 : decode cX0_grow 63 = .ok (.iinc 4 1, 3) := by decide +kernel
theorem dX0_grow_66 : decode cX0_grow 66 = .ok (.goto (-56), 3) := by decide +kernel
theorem dX0_grow_69 : decode cX0_grow 69 = .ok (.aload_n 0, 1) := by decide +kernel
theorem dX0_grow_70 : decode cX0_grow 70 = .ok (.invokevirtual 43, 3) := by decide +kernel
theorem dX0_grow_73 : decode cX0_grow 73 = .ok (.return_, 1) := by decide +kernel
theorem dX0_digit_0 : decode cX0_digit 0 = .ok (.iload_n 1, 1) := by decide +kernel
theorem dX0_digit_1 : decode cX0_digit 1 = .ok (.istore_n 3, 1) := by decide +kernel
theorem dX0_digit_2 : decode cX0_digit 2 = .ok (.iload_n 0, 1) := by decide +kernel
theorem dX0_digit_3 : decode cX0_digit 3 = .ok (.invokestatic 46, 3) := by decide +kernel
theorem dX0_digit_6 : decode cX0_digit 6 = .ok (.iconst 1, 1) := by decide +kernel
theorem dX0_digit_7 : decode cX0_digit 7 = .ok (.isub, 1) := by decide +kernel
theorem dX0_digit_8 : decode cX0_digit 8 = .ok (.istore 4, 2) := by decide +kernel
theorem dX0_digit_10 : decode cX0_digit 10 = .ok (.iload 4, 2) := by decide +kernel
theorem dX0_digit_12 : decode cX0_digit 12 = .ok (.iload_n 2, 1) := by decide +kernel
theorem dX0_digit_13 : decode cX0_digit 13 = .ok (.if_icmp .le 17, 3) := by decide +kernel
theorem dX0_digit_16 : decode cX0_digit 16 = .ok (.iload_n 3, 1) := by decide +kernel
theorem dX0_digit_17 : decode cX0_digit 17 = .ok (.iload 4, 2) := by decide +kernel
theorem dX0_digit_19 : decode cX0_digit 19 = .ok (.invokestatic 52, 3) := by decide +kernel
theorem dX0_digit_22 : decode cX0_digit 22 = .ok (.idiv, 1) := by decide +kernel
theorem dX0_digit_23 : decode cX0_digit 23 = .ok (.istore_n 3, 1) := by decide +kernel
theorem dX0_digit_24 : decode cX0_digit 24 = .ok (.iinc 4 (-1), 3) := by decide +kernel
theorem dX0_digit_27 : decode cX0_digit 27 = .ok (.goto (-17), 3) := by decide +kernel
theorem dX0_digit_30 : decode cX0_digit 30 = .ok (.iload_n 3, 1) := by decide +kernel
theorem dX0_digit_31 : decode cX0_digit 31 = .ok (.iload_n 2, 1) := by decide +kernel
theorem dX0_digit_32 : decode cX0_digit 32 = .ok (.invokestatic 52, 3) := by decide +kernel
theorem dX0_digit_35 : decode cX0_digit 35 = .ok (.irem, 1) := by decide +kernel
theorem dX0_digit_36 : decode cX0_digit 36 = .ok (.ireturn, 1) := by decide +kernel
theorem dX0_add_0 : decode cX0_add 0 = .ok (.aload_n 0, 1) := by decide +kernel
theorem dX0_add_1 : decode cX0_add 1 = .ok (.getfield 27, 3) := by decide +kernel
theorem dX0_add_4 : decode cX0_add 4 = .ok (.bipush 9, 2) := by decide +kernel
theorem dX0_add_6 : decode cX0_add 6 = .ok (.if_icmp .ge 33, 3) := by decide +kernel
theorem dX0_add_9 : decode cX0_add 9 = .ok (.aload_n 0, 1) := by decide +kernel
theorem dX0_add_10 : decode cX0_add 10 = .ok (.getfield 11, 3) := by decide +kernel
theorem dX0_add_13 : decode cX0_add 13 = .ok (.aload_n 0, 1) := by decide +kernel
theorem dX0_add_14 : decode cX0_add 14 = .ok (.getfield 27, 3) := by decide +kernel
theorem dX0_add_17 : decode cX0_add 17 = .ok (.iload_n 1, 1) := by decide +kernel
theorem dX0_add_18 : decode cX0_add 18 = .ok (.iastore, 1) := by decide +kernel
theorem dX0_add_19 : decode cX0_add 19 = .ok (.aload_n 0, 1) := by decide +kernel
theorem dX0_add_20 : decode cX0_add 20 = .ok (.getfield 15, 3) := by decide +kernel
theorem dX0_add_23 : decode cX0_add 23 = .ok (.aload_n 0, 1) := by decide +kernel
theorem dX0_add_24 : decode cX0_add 24 = .ok (.getfield 27, 3) := by decide +kernel
theorem dX0_add_27 : decode cX0_add 27 = .ok (.iload_n 2, 1) := by decide +kernel
theorem dX0_add_28 : decode cX0_add 28 = .ok (.iastore, 1) := by decide +kernel
theorem dX0_add_29 : decode cX0_add 29 = .ok (.aload_n 0, 1) := by decide +kernel
theorem dX0_add_30 : decode cX0_add 30 = .ok (.dup, 1) := by decide +kernel
theorem dX0_add_31 : decode cX0_add 31 = .ok (.getfield 27, 3) := by decide +kernel
theorem dX0_add_34 : decode cX0_add 34 = .ok (.iconst 1, 1) := by decide +kernel
theorem dX0_add_35 : decode cX0_add 35 = .ok (.iadd, 1) := by decide +kernel
theorem dX0_add_36 : decode cX0_add 36 = .ok (.putfield 27, 3) := by decide +kernel
theorem dX0_add_39 : decode cX0_add 39 = .ok (.return_, 1) := by decide +kernel
theorem dX0_setOn_0 : decode cX0_setOn 0 = .ok (.iload_n 1, 1) := by decide +kernel
theorem dX0_setOn_1 : decode cX0_setOn 1 = .ok (.ifCond .lt 39, 3) := by decide +kernel
theorem dX0_setOn_4 : decode cX0_setOn 4 = .ok (.iload_n 1, 1) := by decide +kernel
theorem dX0_setOn_5 : decode cX0_setOn 5 = .ok (.aload_n 0, 1) := by decide +kernel
theorem dX0_setOn_6 : decode cX0_setOn 6 = .ok (.getfield 27, 3) := by decide +kernel
theorem dX0_setOn_9 : decode cX0_setOn 9 = .ok (.if_icmp .ge 31, 3) := by decide +kernel
theorem dX0_setOn_12 : decode cX0_setOn 12 = .ok (.aload_n 0, 1) := by decide +kernel
theorem dX0_setOn_13 : decode cX0_setOn 13 = .ok (.getfield 15, 3) := by decide +kernel
theorem dX0_setOn_16 : decode cX0_setOn 16 = .ok (.iload_n 1, 1) := by decide +kernel
theorem dX0_setOn_17 : decode cX0_setOn 17 = .ok (.iaload, 1) := by decide +kernel
theorem dX0_setOn_18 : decode cX0_setOn 18 = .ok (.istore 4, 2) := by decide +kernel
theorem dX0_setOn_20 : decode cX0_setOn 20 = .ok (.aload_n 0, 1) := by decide +kernel
theorem dX0_setOn_21 : decode cX0_setOn 21 = .ok (.getfield 15, 3) := by decide +kernel
theorem dX0_setOn_24 : decode cX0_setOn 24 = .ok (.iload_n 1, 1) := by decide +kernel
theorem dX0_setOn_25 : decode cX0_setOn 25 = .ok (.iload_n 3, 1) := by decide +kernel
theorem dX0_setOn_26 : decode cX0_setOn 26 = .ok (.iastore, 1) := by decide +kernel
theorem dX0_setOn_27 : decode cX0_setOn 27 = .ok (.aload_n 0, 1) := by decide +kernel
theorem dX0_setOn_28 : decode cX0_setOn 28 = .ok (.iload_n 3, 1) := by decide +kernel
theorem dX0_setOn_29 : decode cX0_setOn 29 = .ok (.iload 4, 2) := by decide +kernel
theorem dX0_setOn_31 : decode cX0_setOn 31 = .ok (.invokevirtual 31, 3) := by decide +kernel
theorem dX0_setOn_34 : decode cX0_setOn 34 = .ok (.aload_n 0, 1) := by decide +kernel
theorem dX0_setOn_35 : decode cX0_setOn 35 = .ok (.iload_n 3, 1) := by decide +kernel
theorem dX0_setOn_36 : decode cX0_setOn 36 = .ok (.iload_n 2, 1) := by decide +kernel
theorem dX0_setOn_37 : decode cX0_setOn 37 = .ok (.invokevirtual 31, 3) := by decide +kernel
theorem dX0_setOn_40 : decode cX0_setOn 40 = .ok (.return_, 1) := by decide +kernel
theorem dX0_orderOutward_0 : decode cX0_orderOutward 0 = .ok (.iconst 0, 1) := by decide +kernel
theorem dX0_orderOutward_1 : decode cX0_orderOutward 1 = .ok (.istore_n 1, 1) := by decide +kernel
theorem dX0_orderOutward_2 : decode cX0_orderOutward 2 = .ok (.iconst (-1), 1) := by decide +kernel
theorem dX0_orderOutward_3 : decode cX0_orderOutward 3 = .ok (.istore_n 2, 1) := by decide +kernel
theorem dX0_orderOutward_4 : decode cX0_orderOutward 4 = .ok (.iload_n 2, 1) := by decide +kernel
theorem dX0_orderOutward_5 : decode cX0_orderOutward 5 = .ok (.iload_n 1, 1) := by decide +kernel
theorem dX0_orderOutward_6 : decode cX0_orderOutward 6 = .ok (.if_icmp .ge 82, 3) := by decide +kernel
theorem dX0_orderOutward_9 : decode cX0_orderOutward 9 = .ok (.iload_n 2, 1) := by decide +kernel
theorem dX0_orderOutward_10 : decode cX0_orderOutward 10 = .ok (.bipush 9, 2) := by decide +kernel
theorem dX0_orderOutward_12 : decode cX0_orderOutward 12 = .ok (.if_icmp .ge 76, 3) := by decide +kernel
theorem dX0_orderOutward_15 : decode cX0_orderOutward 15 = .ok (.iload_n 2, 1) := by decide +kernel
theorem dX0_orderOutward_16 : decode cX0_orderOutward 16 = .ok (.ifCond .ge 8, 3) := by decide +kernel
theorem dX0_orderOutward_19 : decode cX0_orderOutward 19 = .ok (.bipush 6, 2) := by decide +kernel
theorem dX0_orderOutward_21 : decode cX0_orderOutward 21 = .ok (.goto 14, 3) := by decide +kernel
theorem dX0_orderOutward_24 : decode cX0_orderOutward 24 = .ok (.aload_n 0, 1) := by decide +kernel
theorem dX0_orderOutward_25 : decode cX0_orderOutward 25 = .ok (.getfield 15, 3) := by decide +kernel
theorem dX0_orderOutward_28 : decode cX0_orderOutward 28 = .ok (.aload_n 0, 1) := by decide +kernel
theorem dX0_orderOutward_29 : decode cX0_orderOutward 29 = .ok (.getfield 18, 3) := by decide +kernel
theorem dX0_orderOutward_32 : decode cX0_orderOutward 32 = .ok (.iload_n 2, 1) := by decide +kernel
theorem dX0_orderOutward_33 : decode cX0_orderOutward 33 = .ok (.iaload, 1) := by decide +kernel
theorem dX0_orderOutward_34 : decode cX0_orderOutward 34 = .ok (.iaload, 1) := by decide +kernel
theorem dX0_orderOutward_35 : decode cX0_orderOutward 35 = .ok (.istore_n 3, 1) := by decide +kernel
theorem dX0_orderOutward_36 : decode cX0_orderOutward 36 = .ok (.iconst 0, 1) := by decide +kernel
theorem dX0_orderOutward_37 : decode cX0_orderOutward 37 = .ok (.istore 4, 2) := by decide +kernel
theorem dX0_orderOutward_39 : decode cX0_orderOutward 39 = .ok (.iload 4, 2) := by decide +kernel
theorem dX0_orderOutward_41 : decode cX0_orderOutward 41 = .ok (.aload_n 0, 1) := by decide +kernel
theorem dX0_orderOutward_42 : decode cX0_orderOutward 42 = .ok (.getfield 27, 3) := by decide +kernel
theorem dX0_orderOutward_45 : decode cX0_orderOutward 45 = .ok (.if_icmp .ge 37, 3) := by decide +kernel
theorem dX0_orderOutward_48 : decode cX0_orderOutward 48 = .ok (.aload_n 0, 1) := by decide +kernel
theorem dX0_orderOutward_49 : decode cX0_orderOutward 49 = .ok (.getfield 11, 3) := by decide +kernel
theorem dX0_orderOutward_52 : decode cX0_orderOutward 52 = .ok (.iload 4, 2) := by decide +kernel
theorem dX0_orderOutward_54 : decode cX0_orderOutward 54 = .ok (.iaload, 1) := by decide +kernel
theorem dX0_orderOutward_55 : decode cX0_orderOutward 55 = .ok (.iload_n 3, 1) := by decide +kernel
theorem dX0_orderOutward_56 : decode cX0_orderOutward 56 = .ok (.if_icmp .ne 20, 3) := by decide +kernel
theorem dX0_orderOutward_59 : decode cX0_orderOutward 59 = .ok (.iload_n 1, 1) := by decide +kernel
theorem dX0_orderOutward_60 : decode cX0_orderOutward 60 = .ok (.bipush 9, 2) := by decide +kernel
theorem dX0_orderOutward_62 : decode cX0_orderOutward 62 = .ok (.if_icmp .ge 14, 3) := by decide +kernel
theorem dX0_orderOutward_65 : decode cX0_orderOutward 65 = .ok (.aload_n 0, 1) := by decide +kernel
theorem dX0_orderOutward_66 : decode cX0_orderOutward 66 = .ok (.getfield 18, 3) := by decide +kernel
theorem dX0_orderOutward_69 : decode cX0_orderOutward 69 = .ok (.iload_n 1, 1) := by decide +kernel
theorem dX0_orderOutward_70 : decode cX0_orderOutward 70 = .ok (.iload 4, 2) := by decide +kernel
theorem dX0_orderOutward_72 : decode cX0_orderOutward 72 = .ok (.iastore, 1) := by decide +kernel
theorem dX0_orderOutward_73 : decode cX0_orderOutward 73 = .ok (.iinc 1 1, 3) := by decide +kernel
theorem dX0_orderOutward_76 : decode cX0_orderOutward 76 = .ok (.iinc 4 1, 3) := by decide +kernel
theorem dX0_orderOutward_79 : decode cX0_orderOutward 79 = .ok (.goto (-40), 3) := by decide +kernel
theorem dX0_orderOutward_82 : decode cX0_orderOutward 82 = .ok (.iinc 2 1, 3) := by decide +kernel
theorem dX0_orderOutward_85 : decode cX0_orderOutward 85 = .ok (.goto (-81), 3) := by decide +kernel
theorem dX0_orderOutward_88 : decode cX0_orderOutward 88 = .ok (.return_, 1) := by decide +kernel
theorem dX0_fewestChanges_0 : decode cX0_fewestChanges 0 = .ok (.iconst 0, 1) := by decide +kernel
theorem dX0_fewestChanges_1 : decode cX0_fewestChanges 1 = .ok (.istore_n 2, 1) := by decide +kernel
theorem dX0_fewestChanges_2 : decode cX0_fewestChanges 2 = .ok (.iload_n 2, 1) := by decide +kernel
theorem dX0_fewestChanges_3 : decode cX0_fewestChanges 3 = .ok (.bipush 10, 2) := by decide +kernel
theorem dX0_fewestChanges_5 : decode cX0_fewestChanges 5 = .ok (.if_icmp .ge 37, 3) := by decide +kernel
theorem dX0_fewestChanges_8 : decode cX0_fewestChanges 8 = .ok (.aload_n 0, 1) := by decide +kernel
theorem dX0_fewestChanges_9 : decode cX0_fewestChanges 9 = .ok (.getfield 24, 3) := by decide +kernel
theorem dX0_fewestChanges_12 : decode cX0_fewestChanges 12 = .ok (.iload_n 2, 1) := by decide +kernel
theorem dX0_fewestChanges_13 : decode cX0_fewestChanges 13 = .ok (.iload_n 2, 1) := by decide +kernel
theorem dX0_fewestChanges_14 : decode cX0_fewestChanges 14 = .ok (.bipush 6, 2) := by decide +kernel
theorem dX0_fewestChanges_16 : decode cX0_fewestChanges 16 = .ok (.if_icmp .ge 17, 3) := by decide +kernel
theorem dX0_fewestChanges_19 : decode cX0_fewestChanges 19 = .ok (.aload_n 0, 1) := by decide +kernel
theorem dX0_fewestChanges_20 : decode cX0_fewestChanges 20 = .ok (.getfield 21, 3) := by decide +kernel
theorem dX0_fewestChanges_23 : decode cX0_fewestChanges 23 = .ok (.iload_n 1, 1) := by decide +kernel
theorem dX0_fewestChanges_24 : decode cX0_fewestChanges 24 = .ok (.bipush 6, 2) := by decide +kernel
theorem dX0_fewestChanges_26 : decode cX0_fewestChanges 26 = .ok (.imul, 1) := by decide +kernel
theorem dX0_fewestChanges_27 : decode cX0_fewestChanges 27 = .ok (.iload_n 2, 1) := by decide +kernel
theorem dX0_fewestChanges_28 : decode cX0_fewestChanges 28 = .ok (.iadd, 1) := by decide +kernel
theorem dX0_fewestChanges_29 : decode cX0_fewestChanges 29 = .ok (.iaload, 1) := by decide +kernel
theorem dX0_fewestChanges_30 : decode cX0_fewestChanges 30 = .ok (.goto 5, 3) := by decide +kernel
theorem dX0_fewestChanges_33 : decode cX0_fewestChanges 33 = .ok (.bipush 63, 2) := by decide +kernel
theorem dX0_fewestChanges_35 : decode cX0_fewestChanges 35 = .ok (.iastore, 1) := by decide +kernel
theorem dX0_fewestChanges_36 : decode cX0_fewestChanges 36 = .ok (.iinc 2 1, 3) := by decide +kernel
theorem dX0_fewestChanges_39 : decode cX0_fewestChanges 39 = .ok (.goto (-37), 3) := by decide +kernel
theorem dX0_fewestChanges_42 : decode cX0_fewestChanges 42 = .ok (.iconst 0, 1) := by decide +kernel
theorem dX0_fewestChanges_43 : decode cX0_fewestChanges 43 = .ok (.istore_n 2, 1) := by decide +kernel
theorem dX0_fewestChanges_44 : decode cX0_fewestChanges 44 = .ok (.aload_n 0, 1) := by decide +kernel
theorem dX0_fewestChanges_45 : decode cX0_fewestChanges 45 = .ok (.getfield 27, 3) := by decide +kernel
theorem dX0_fewestChanges_48 : decode cX0_fewestChanges 48 = .ok (.iconst 1, 1) := by decide +kernel
theorem dX0_fewestChanges_49 : decode cX0_fewestChanges 49 = .ok (.isub, 1) := by decide +kernel
theorem dX0_fewestChanges_50 : decode cX0_fewestChanges 50 = .ok (.istore_n 3, 1) := by decide +kernel
theorem dX0_fewestChanges_51 : decode cX0_fewestChanges 51 = .ok (.iload_n 3, 1) := by decide +kernel
theorem dX0_fewestChanges_52 : decode cX0_fewestChanges 52 = .ok (.ifCond .lt 89, 3) := by decide +kernel
theorem dX0_fewestChanges_55 : decode cX0_fewestChanges 55 = .ok (.aload_n 0, 1) := by decide +kernel
theorem dX0_fewestChanges_56 : decode cX0_fewestChanges 56 = .ok (.getfield 11, 3) := by decide +kernel
theorem dX0_fewestChanges_59 : decode cX0_fewestChanges 59 = .ok (.aload_n 0, 1) := by decide +kernel
theorem dX0_fewestChanges_60 : decode cX0_fewestChanges 60 = .ok (.getfield 18, 3) := by decide +kernel
theorem dX0_fewestChanges_63 : decode cX0_fewestChanges 63 = .ok (.iload_n 3, 1) := by decide +kernel
theorem dX0_fewestChanges_64 : decode cX0_fewestChanges 64 = .ok (.iaload, 1) := by decide +kernel
theorem dX0_fewestChanges_65 : decode cX0_fewestChanges 65 = .ok (.iaload, 1) := by decide +kernel
theorem dX0_fewestChanges_66 : decode cX0_fewestChanges 66 = .ok (.istore 4, 2) := by decide +kernel
theorem dX0_fewestChanges_68 : decode cX0_fewestChanges 68 = .ok (.aload_n 0, 1) := by decide +kernel
theorem dX0_fewestChanges_69 : decode cX0_fewestChanges 69 = .ok (.getfield 15, 3) := by decide +kernel
theorem dX0_fewestChanges_72 : decode cX0_fewestChanges 72 = .ok (.aload_n 0, 1) := by decide +kernel
theorem dX0_fewestChanges_73 : decode cX0_fewestChanges 73 = .ok (.getfield 18, 3) := by decide +kernel
theorem dX0_fewestChanges_76 : decode cX0_fewestChanges 76 = .ok (.iload_n 3, 1) := by decide +kernel
theorem dX0_fewestChanges_77 : decode cX0_fewestChanges 77 = .ok (.iaload, 1) := by decide +kernel
theorem dX0_fewestChanges_78 : decode cX0_fewestChanges 78 = .ok (.iaload, 1) := by decide +kernel
theorem dX0_fewestChanges_79 : decode cX0_fewestChanges 79 = .ok (.istore 5, 2) := by decide +kernel
theorem dX0_fewestChanges_81 : decode cX0_fewestChanges 81 = .ok (.aload_n 0, 1) := by decide +kernel
theorem dX0_fewestChanges_82 : decode cX0_fewestChanges 82 = .ok (.getfield 24, 3) := by decide +kernel
theorem dX0_fewestChanges_85 : decode cX0_fewestChanges 85 = .ok (.iload 4, 2) := by decide +kernel
theorem dX0_fewestChanges_87 : decode cX0_fewestChanges 87 = .ok (.iaload, 1) := by decide +kernel
theorem dX0_fewestChanges_88 : decode cX0_fewestChanges 88 = .ok (.aload_n 0, 1) := by decide +kernel
theorem dX0_fewestChanges_89 : decode cX0_fewestChanges 89 = .ok (.getfield 24, 3) := by decide +kernel
theorem dX0_fewestChanges_92 : decode cX0_fewestChanges 92 = .ok (.iload 5, 2) := by decide +kernel
theorem dX0_fewestChanges_94 : decode cX0_fewestChanges 94 = .ok (.iaload, 1) := by decide +kernel
theorem dX0_fewestChanges_95 : decode cX0_fewestChanges 95 = .ok (.iand, 1) := by decide +kernel
theorem dX0_fewestChanges_96 : decode cX0_fewestChanges 96 = .ok (.istore 6, 2) := by decide +kernel
theorem dX0_fewestChanges_98 : decode cX0_fewestChanges 98 = .ok (.iload 6, 2) := by decide +kernel
theorem dX0_fewestChanges_100 : decode cX0_fewestChanges 100 = .ok (.ifCond .ne 26, 3) := by decide +kernel
theorem dX0_fewestChanges_103 : decode cX0_fewestChanges 103 = .ok (.iinc 2 1, 3) := by decide +kernel
theorem dX0_fewestChanges_106 : decode cX0_fewestChanges 106 = .ok (.aload_n 0, 1) := by decide +kernel
theorem dX0_fewestChanges_107 : decode cX0_fewestChanges 107 = .ok (.getfield 24, 3) := by decide +kernel
theorem dX0_fewestChanges_110 : decode cX0_fewestChanges 110 = .ok (.iload 4, 2) := by decide +kernel
theorem dX0_fewestChanges_112 : decode cX0_fewestChanges 112 = .ok (.dup2, 1) := by decide +kernel
theorem dX0_fewestChanges_113 : decode cX0_fewestChanges 113 = .ok (.iaload, 1) := by decide +kernel
theorem dX0_fewestChanges_114 : decode cX0_fewestChanges 114 = .ok (.aload_n 0, 1) := by decide +kernel
theorem dX0_fewestChanges_115 : decode cX0_fewestChanges 115 = .ok (.getfield 24, 3) := by decide +kernel
theorem dX0_fewestChanges_118 : decode cX0_fewestChanges 118 = .ok (.iload 5, 2) := by decide +kernel
theorem dX0_fewestChanges_120 : decode cX0_fewestChanges 120 = .ok (.iaload, 1) := by decide +kernel
theorem dX0_fewestChanges_121 : decode cX0_fewestChanges 121 = .ok (.ior, 1) := by decide +kernel
theorem dX0_fewestChanges_122 : decode cX0_fewestChanges 122 = .ok (.iastore, 1) := by decide +kernel
theorem dX0_fewestChanges_123 : decode cX0_fewestChanges 123 = .ok (.goto 12, 3) := by decide +kernel
theorem dX0_fewestChanges_126 : decode cX0_fewestChanges 126 = .ok (.aload_n 0, 1) := by decide +kernel
theorem dX0_fewestChanges_127 : decode cX0_fewestChanges 127 = .ok (.getfield 24, 3) := by decide +kernel
theorem dX0_fewestChanges_130 : decode cX0_fewestChanges 130 = .ok (.iload 4, 2) := by decide +kernel
theorem dX0_fewestChanges_132 : decode cX0_fewestChanges 132 = .ok (.iload 6, 2) := by decide +kernel
theorem dX0_fewestChanges_134 : decode cX0_fewestChanges 134 = .ok (.iastore, 1) := by decide +kernel
theorem dX0_fewestChanges_135 : decode cX0_fewestChanges 135 = .ok (.iinc 3 (-1), 3) := by decide +kernel
theorem dX0_fewestChanges_138 : decode cX0_fewestChanges 138 = .ok (.goto (-87), 3) := by decide +kernel
theorem dX0_fewestChanges_141 : decode cX0_fewestChanges 141 = .ok (.iload_n 2, 1) := by decide +kernel
theorem dX0_fewestChanges_142 : decode cX0_fewestChanges 142 = .ok (.ireturn, 1) := by decide +kernel
theorem dX1_init_0 : decode cX1_init 0 = .ok (.aload_n 0, 1) := by decide +kernel
theorem dX1_init_1 : decode cX1_init 1 = .ok (.iload_n 1, 1) := by decide +kernel
theorem dX1_init_2 : decode cX1_init 2 = .ok (.iload_n 2, 1) := by decide +kernel
theorem dX1_init_3 : decode cX1_init 3 = .ok (.iload_n 3, 1) := by decide +kernel
theorem dX1_init_4 : decode cX1_init 4 = .ok (.iload 4, 2) := by decide +kernel
theorem dX1_init_6 : decode cX1_init 6 = .ok (.iload 5, 2) := by decide +kernel
theorem dX1_init_8 : decode cX1_init 8 = .ok (.invokespecial 1, 3) := by decide +kernel
theorem dX1_init_11 : decode cX1_init 11 = .ok (.return_, 1) := by decide +kernel
theorem dX1_kindNumber_0 : decode cX1_kindNumber 0 = .ok (.bipush 6, 2) := by decide +kernel
theorem dX1_kindNumber_2 : decode cX1_kindNumber 2 = .ok (.ireturn, 1) := by decide +kernel
theorem dX1_marks_0 : decode cX1_marks 0 = .ok (.aload_n 0, 1) := by decide +kernel
theorem dX1_marks_1 : decode cX1_marks 1 = .ok (.bipush 61, 2) := by decide +kernel
theorem dX1_marks_3 : decode cX1_marks 3 = .ok (.invokevirtual 7, 3) := by decide +kernel
theorem dX1_marks_6 : decode cX1_marks 6 = .ok (.aload_n 0, 1) := by decide +kernel
theorem dX1_marks_7 : decode cX1_marks 7 = .ok (.iload_n 1, 1) := by decide +kernel
theorem dX1_marks_8 : decode cX1_marks 8 = .ok (.iconst 1, 1) := by decide +kernel
theorem dX1_marks_9 : decode cX1_marks 9 = .ok (.iadd, 1) := by decide +kernel
theorem dX1_marks_10 : decode cX1_marks 10 = .ok (.invokespecial 13, 3) := by decide +kernel
theorem dX1_marks_13 : decode cX1_marks 13 = .ok (.iconst 3, 1) := by decide +kernel
theorem dX1_marks_14 : decode cX1_marks 14 = .ok (.ixor, 1) := by decide +kernel
theorem dX1_marks_15 : decode cX1_marks 15 = .ok (.ireturn, 1) := by decide +kernel
theorem dX2_init_0 : decode cX2_init 0 = .ok (.aload_n 0, 1) := by decide +kernel
theorem dX2_init_1 : decode cX2_init 1 = .ok (.invokespecial 3, 3) := by decide +kernel
theorem dX2_init_4 : decode cX2_init 4 = .ok (.aload_n 0, 1) := by decide +kernel
theorem dX2_init_5 : decode cX2_init 5 = .ok (.bipush 20, 2) := by decide +kernel
theorem dX2_init_7 : decode cX2_init 7 = .ok (.newarray .int, 2) := by decide +kernel
theorem dX2_init_9 : decode cX2_init 9 = .ok (.putfield 9, 3) := by decide +kernel
theorem dX2_init_12 : decode cX2_init 12 = .ok (.aload_n 0, 1) := by decide +kernel
theorem dX2_init_13 : decode cX2_init 13 = .ok (.iload_n 1, 1) := by decide +kernel
theorem dX2_init_14 : decode cX2_init 14 = .ok (.putfield 15, 3) := by decide +kernel
theorem dX2_init_17 : decode cX2_init 17 = .ok (.aload_n 0, 1) := by decide +kernel
theorem dX2_init_18 : decode cX2_init 18 = .ok (.iload_n 2, 1) := by decide +kernel
theorem dX2_init_19 : decode cX2_init 19 = .ok (.putfield 19, 3) := by decide +kernel
theorem dX2_init_22 : decode cX2_init 22 = .ok (.aload_n 0, 1) := by decide +kernel
theorem dX2_init_23 : decode cX2_init 23 = .ok (.iload_n 3, 1) := by decide +kernel
theorem dX2_init_24 : decode cX2_init 24 = .ok (.putfield 22, 3) := by decide +kernel
theorem dX2_init_27 : decode cX2_init 27 = .ok (.aload_n 0, 1) := by decide +kernel
theorem dX2_init_28 : decode cX2_init 28 = .ok (.iload 4, 2) := by decide +kernel
theorem dX2_init_30 : decode cX2_init 30 = .ok (.putfield 25, 3) := by decide +kernel
theorem dX2_init_33 : decode cX2_init 33 = .ok (.aload_n 0, 1) := by decide +kernel
theorem dX2_init_34 : decode cX2_init 34 = .ok (.iload 5, 2) := by decide +kernel
theorem dX2_init_36 : decode cX2_init 36 = .ok (.putfield 28, 3) := by decide +kernel
theorem dX2_init_39 : decode cX2_init 39 = .ok (.return_, 1) := by decide +kernel
theorem dX2_tells_0 : decode cX2_tells 0 = .ok (.aload_n 0, 1) := by decide +kernel
theorem dX2_tells_1 : decode cX2_tells 1 = .ok (.iconst 1, 1) := by decide +kernel
theorem dX2_tells_2 : decode cX2_tells 2 = .ok (.invokevirtual 31, 3) := by decide +kernel
theorem dX2_tells_5 : decode cX2_tells 5 = .ok (.iload_n 1, 1) := by decide +kernel
theorem dX2_tells_6 : decode cX2_tells 6 = .ok (.aload_n 0, 1) := by decide +kernel
theorem dX2_tells_7 : decode cX2_tells 7 = .ok (.getfield 15, 3) := by decide +kernel
theorem dX2_tells_10 : decode cX2_tells 10 = .ok (.iadd, 1) := by decide +kernel
theorem dX2_tells_11 : decode cX2_tells 11 = .ok (.ireturn, 1) := by decide +kernel
theorem dX2_leads_0 : decode cX2_leads 0 = .ok (.aload_n 0, 1) := by decide +kernel
theorem dX2_leads_1 : decode cX2_leads 1 = .ok (.iconst 2, 1) := by decide +kernel
theorem dX2_leads_2 : decode cX2_leads 2 = .ok (.invokevirtual 31, 3) := by decide +kernel
theorem dX2_leads_5 : decode cX2_leads 5 = .ok (.aload_n 0, 1) := by decide +kernel
theorem dX2_leads_6 : decode cX2_leads 6 = .ok (.iload_n 1, 1) := by decide +kernel
theorem dX2_leads_7 : decode cX2_leads 7 = .ok (.invokevirtual 35, 3) := by decide +kernel
theorem dX2_leads_10 : decode cX2_leads 10 = .ok (.aload_n 0, 1) := by decide +kernel
theorem dX2_leads_11 : decode cX2_leads 11 = .ok (.getfield 19, 3) := by decide +kernel
theorem dX2_leads_14 : decode cX2_leads 14 = .ok (.isub, 1) := by decide +kernel
theorem dX2_leads_15 : decode cX2_leads 15 = .ok (.ireturn, 1) := by decide +kernel
theorem dX2_marks_0 : decode cX2_marks 0 = .ok (.aload_n 0, 1) := by decide +kernel
theorem dX2_marks_1 : decode cX2_marks 1 = .ok (.iconst 3, 1) := by decide +kernel
theorem dX2_marks_2 : decode cX2_marks 2 = .ok (.invokevirtual 31, 3) := by decide +kernel
theorem dX2_marks_5 : decode cX2_marks 5 = .ok (.aload_n 0, 1) := by decide +kernel
theorem dX2_marks_6 : decode cX2_marks 6 = .ok (.iload_n 1, 1) := by decide +kernel
theorem dX2_marks_7 : decode cX2_marks 7 = .ok (.invokevirtual 39, 3) := by decide +kernel
theorem dX2_marks_10 : decode cX2_marks 10 = .ok (.iconst 2, 1) := by decide +kernel
theorem dX2_marks_11 : decode cX2_marks 11 = .ok (.imul, 1) := by decide +kernel
theorem dX2_marks_12 : decode cX2_marks 12 = .ok (.ireturn, 1) := by decide +kernel
theorem dX2_begin_0 : decode cX2_begin 0 = .ok (.aload_n 0, 1) := by decide +kernel
theorem dX2_begin_1 : decode cX2_begin 1 = .ok (.getfield 42, 3) := by decide +kernel
theorem dX2_begin_4 : decode cX2_begin 4 = .ok (.ifCond .lt 22, 3) := by decide +kernel
theorem dX2_begin_7 : decode cX2_begin 7 = .ok (.aload_n 0, 1) := by decide +kernel
theorem dX2_begin_8 : decode cX2_begin 8 = .ok (.getfield 42, 3) := by decide +kernel
theorem dX2_begin_11 : decode cX2_begin 11 = .ok (.bipush 20, 2) := by decide +kernel
theorem dX2_begin_13 : decode cX2_begin 13 = .ok (.if_icmp .ge 13, 3) := by decide +kernel
theorem dX2_begin_16 : decode cX2_begin 16 = .ok (.aload_n 0, 1) := by decide +kernel
theorem dX2_begin_17 : decode cX2_begin 17 = .ok (.getfield 9, 3) := by decide +kernel
theorem dX2_begin_20 : decode cX2_begin 20 = .ok (.aload_n 0, 1) := by decide +kernel
theorem dX2_begin_21 : decode cX2_begin 21 = .ok (.getfield 42, 3) := by decide +kernel
theorem dX2_begin_24 : decode cX2_begin 24 = .ok (.iload_n 1, 1) := by decide +kernel
theorem dX2_begin_25 : decode cX2_begin 25 = .ok (.iastore, 1) := by decide +kernel
theorem dX2_begin_26 : decode cX2_begin 26 = .ok (.aload_n 0, 1) := by decide +kernel
theorem dX2_begin_27 : decode cX2_begin 27 = .ok (.dup, 1) := by decide +kernel
theorem dX2_begin_28 : decode cX2_begin 28 = .ok (.getfield 42, 3) := by decide +kernel
theorem dX2_begin_31 : decode cX2_begin 31 = .ok (.iconst 1, 1) := by decide +kernel
theorem dX2_begin_32 : decode cX2_begin 32 = .ok (.iadd, 1) := by decide +kernel
theorem dX2_begin_33 : decode cX2_begin 33 = .ok (.putfield 42, 3) := by decide +kernel
theorem dX2_begin_36 : decode cX2_begin 36 = .ok (.return_, 1) := by decide +kernel
theorem dX3_init_0 : decode cX3_init 0 = .ok (.aload_n 0, 1) := by decide +kernel
theorem dX3_init_1 : decode cX3_init 1 = .ok (.iload_n 1, 1) := by decide +kernel
theorem dX3_init_2 : decode cX3_init 2 = .ok (.iload_n 2, 1) := by decide +kernel
theorem dX3_init_3 : decode cX3_init 3 = .ok (.iload_n 3, 1) := by decide +kernel
theorem dX3_init_4 : decode cX3_init 4 = .ok (.iload 4, 2) := by decide +kernel
theorem dX3_init_6 : decode cX3_init 6 = .ok (.iload 5, 2) := by decide +kernel
theorem dX3_init_8 : decode cX3_init 8 = .ok (.invokespecial 1, 3) := by decide +kernel
theorem dX3_init_11 : decode cX3_init 11 = .ok (.return_, 1) := by decide +kernel
theorem dX3_kindNumber_0 : decode cX3_kindNumber 0 = .ok (.iconst 5, 1) := by decide +kernel
theorem dX3_kindNumber_1 : decode cX3_kindNumber 1 = .ok (.ireturn, 1) := by decide +kernel
theorem dX3_tells_0 : decode cX3_tells 0 = .ok (.aload_n 0, 1) := by decide +kernel
theorem dX3_tells_1 : decode cX3_tells 1 = .ok (.bipush 51, 2) := by decide +kernel
theorem dX3_tells_3 : decode cX3_tells 3 = .ok (.invokevirtual 7, 3) := by decide +kernel
theorem dX3_tells_6 : decode cX3_tells 6 = .ok (.aload_n 0, 1) := by decide +kernel
theorem dX3_tells_7 : decode cX3_tells 7 = .ok (.iload_n 1, 1) := by decide +kernel
theorem dX3_tells_8 : decode cX3_tells 8 = .ok (.invokespecial 13, 3) := by decide +kernel
theorem dX3_tells_11 : decode cX3_tells 11 = .ok (.aload_n 0, 1) := by decide +kernel
theorem dX3_tells_12 : decode cX3_tells 12 = .ok (.getfield 17, 3) := by decide +kernel
theorem dX3_tells_15 : decode cX3_tells 15 = .ok (.iadd, 1) := by decide +kernel
theorem dX3_tells_16 : decode cX3_tells 16 = .ok (.ireturn, 1) := by decide +kernel
theorem dX4_init_0 : decode cX4_init 0 = .ok (.aload_n 0, 1) := by decide +kernel
theorem dX4_init_1 : decode cX4_init 1 = .ok (.invokespecial 3, 3) := by decide +kernel
theorem dX4_init_4 : decode cX4_init 4 = .ok (.aload_n 0, 1) := by decide +kernel
theorem dX4_init_5 : decode cX4_init 5 = .ok (.bipush 6, 2) := by decide +kernel
theorem dX4_init_7 : decode cX4_init 7 = .ok (.newarray .int, 2) := by decide +kernel
theorem dX4_init_9 : decode cX4_init 9 = .ok (.putfield 9, 3) := by decide +kernel
theorem dX4_init_12 : decode cX4_init 12 = .ok (.aload_n 0, 1) := by decide +kernel
theorem dX4_init_13 : decode cX4_init 13 = .ok (.bipush 6, 2) := by decide +kernel
theorem dX4_init_15 : decode cX4_init 15 = .ok (.newarray .int, 2) := by decide +kernel
theorem dX4_init_17 : decode cX4_init 17 = .ok (.putfield 15, 3) := by decide +kernel
theorem dX4_init_20 : decode cX4_init 20 = .ok (.aload_n 0, 1) := by decide +kernel
theorem dX4_init_21 : decode cX4_init 21 = .ok (.bipush 6, 2) := by decide +kernel
theorem dX4_init_23 : decode cX4_init 23 = .ok (.newarray .int, 2) := by decide +kernel
theorem dX4_init_25 : decode cX4_init 25 = .ok (.putfield 18, 3) := by decide +kernel
theorem dX4_init_28 : decode cX4_init 28 = .ok (.aload_n 0, 1) := by decide +kernel
theorem dX4_init_29 : decode cX4_init 29 = .ok (.bipush 6, 2) := by decide +kernel
theorem dX4_init_31 : decode cX4_init 31 = .ok (.newarray .int, 2) := by decide +kernel
theorem dX4_init_33 : decode cX4_init 33 = .ok (.putfield 21, 3) := by decide +kernel
theorem dX4_init_36 : decode cX4_init 36 = .ok (.aload_n 0, 1) := by decide +kernel
theorem dX4_init_37 : decode cX4_init 37 = .ok (.bipush 8, 2) := by decide +kernel
theorem dX4_init_39 : decode cX4_init 39 = .ok (.newarray .int, 2) := by decide +kernel
theorem dX4_init_41 : decode cX4_init 41 = .ok (.putfield 24, 3) := by decide +kernel
theorem dX4_init_44 : decode cX4_init 44 = .ok (.return_, 1) := by decide +kernel
theorem dX4_read_0 : decode cX4_read 0 = .ok (.iconst 0, 1) := by decide +kernel
theorem dX4_read_1 : decode cX4_read 1 = .ok (.istore_n 3, 1) := by decide +kernel
theorem dX4_read_2 : decode cX4_read 2 = .ok (.iconst 0, 1) := by decide +kernel
theorem dX4_read_3 : decode cX4_read 3 = .ok (.istore 4, 2) := by decide +kernel
theorem dX4_read_5 : decode cX4_read 5 = .ok (.iload 4, 2) := by decide +kernel
theorem dX4_read_7 : decode cX4_read 7 = .ok (.bipush 6, 2) := by decide +kernel
theorem dX4_read_9 : decode cX4_read 9 = .ok (.if_icmp .ge 66, 3) := by decide +kernel
theorem dX4_read_12 : decode cX4_read 12 = .ok (.aload_n 0, 1) := by decide +kernel
theorem dX4_read_13 : decode cX4_read 13 = .ok (.iload 4, 2) := by decide +kernel
theorem dX4_read_15 : decode cX4_read 15 = .ok (.iconst 1, 1) := by decide +kernel
theorem dX4_read_16 : decode cX4_read 16 = .ok (.iadd, 1) := by decide +kernel
theorem dX4_read_17 : decode cX4_read 17 = .ok (.putfield 27, 3) := by decide +kernel
theorem dX4_read_20 : decode cX4_read 20 = .ok (.aload_n 0, 1) := by decide +kernel
theorem dX4_read_21 : decode cX4_read 21 = .ok (.aload_n 1, 1) := by decide +kernel
theorem dX4_read_22 : decode cX4_read 22 = .ok (.iload_n 2, 1) := by decide +kernel
theorem dX4_read_23 : decode cX4_read 23 = .ok (.iload_n 3, 1) := by decide +kernel
theorem dX4_read_24 : decode cX4_read 24 = .ok (.iload 4, 2) := by decide +kernel
theorem dX4_read_26 : decode cX4_read 26 = .ok (.invokevirtual 31, 3) := by decide +kernel
theorem dX4_read_29 : decode cX4_read 29 = .ok (.istore 5, 2) := by decide +kernel
theorem dX4_read_31 : decode cX4_read 31 = .ok (.iload 5, 2) := by decide +kernel
theorem dX4_read_33 : decode cX4_read 33 = .ok (.ifCond .ge 8, 3) := by decide +kernel
theorem dX4_read_36 : decode cX4_read 36 = .ok (.iconst (-1), 1) := by decide +kernel
theorem dX4_read_37 : decode cX4_read 37 = .ok (.iload 5, 2) := by decide +kernel
theorem dX4_read_39 : decode cX4_read 39 = .ok (.isub, 1) := by decide +kernel
theorem dX4_read_40 : decode cX4_read 40 = .ok (.ireturn, 1) := by decide +kernel
theorem dX4_read_41 : decode cX4_read 41 = .ok (.iload 5, 2) := by decide +kernel
theorem dX4_read_43 : decode cX4_read 43 = .ok (.iload_n 2, 1) := by decide +kernel
theorem dX4_read_44 : decode cX4_read 44 = .ok (.if_icmp .ne 5, 3) := by decide +kernel
theorem dX4_read_47 : decode cX4_read 47 = .ok (.iconst (-1), 1) := by decide +kernel
theorem dX4_read_48 : decode cX4_read 48 = .ok (.ireturn, 1) := by decide +kernel
theorem dX4_read_49 : decode cX4_read 49 = .ok (.aload_n 1, 1) := by decide +kernel
theorem dX4_read_50 : decode cX4_read 50 = .ok (.iload_n 2, 1) := by decide +kernel
theorem dX4_read_51 : decode cX4_read 51 = .ok (.iload 5, 2) := by decide +kernel
theorem dX4_read_53 : decode cX4_read 53 = .ok (.invokestatic 35, 3) := by decide +kernel
theorem dX4_read_56 : decode cX4_read 56 = .ok (.bipush 44, 2) := by decide +kernel
theorem dX4_read_58 : decode cX4_read 58 = .ok (.if_icmp .eq 6, 3) := by decide +kernel
theorem dX4_read_61 : decode cX4_read 61 = .ok (.iload 5, 2) := by decide +kernel
theorem dX4_read_63 : decode cX4_read 63 = .ok (.ireturn, 1) := by decide +kernel
theorem dX4_read_64 : decode cX4_read 64 = .ok (.iload 5, 2) := by decide +kernel
theorem dX4_read_66 : decode cX4_read 66 = .ok (.iconst 1, 1) := by decide +kernel
theorem dX4_read_67 : decode cX4_read 67 = .ok (.iadd, 1) := by decide +kernel
theorem dX4_read_68 : decode cX4_read 68 = .ok (.istore_n 3, 1) := by decide +kernel
theorem dX4_read_69 : decode cX4_read 69 = .ok (.iinc 4 1, 3) := by decide +kernel
theorem dX4_read_72 : decode cX4_read 72 = .ok (.goto (-67), 3) := by decide +kernel
theorem dX4_read_75 : decode cX4_read 75 = .ok (.iload_n 3, 1) := by decide +kernel
theorem dX4_read_76 : decode cX4_read 76 = .ok (.iconst 1, 1) := by decide +kernel
theorem dX4_read_77 : decode cX4_read 77 = .ok (.isub, 1) := by decide +kernel
theorem dX4_read_78 : decode cX4_read 78 = .ok (.ireturn, 1) := by decide +kernel
theorem dX4_readChange_0 : decode cX4_readChange 0 = .ok (.aload_n 0, 1) := by decide +kernel
theorem dX4_readChange_1 : decode cX4_readChange 1 = .ok (.getfield 9, 3) := by decide +kernel
theorem dX4_readChange_4 : decode cX4_readChange 4 = .ok (.iload 4, 2) := by decide +kernel
theorem dX4_readChange_6 : decode cX4_readChange 6 = .ok (.aload_n 1, 1) := by decide +kernel
theorem dX4_readChange_7 : decode cX4_readChange 7 = .ok (.iload_n 2, 1) := by decide +kernel
theorem dX4_readChange_8 : decode cX4_readChange 8 = .ok (.iload_n 3, 1) := by decide +kernel
theorem dX4_readChange_9 : decode cX4_readChange 9 = .ok (.invokestatic 35, 3) := by decide +kernel
theorem dX4_readChange_12 : decode cX4_readChange 12 = .ok (.iastore, 1) := by decide +kernel
theorem dX4_readChange_13 : decode cX4_readChange 13 = .ok (.aload_n 0, 1) := by decide +kernel
theorem dX4_readChange_14 : decode cX4_readChange 14 = .ok (.getfield 9, 3) := by decide +kernel
theorem dX4_readChange_17 : decode cX4_readChange 17 = .ok (.iload 4, 2) := by decide +kernel
theorem dX4_readChange_19 : decode cX4_readChange 19 = .ok (.iaload, 1) := by decide +kernel
theorem dX4_readChange_20 : decode cX4_readChange 20 = .ok (.invokestatic 39, 3) := by decide +kernel
theorem dX4_readChange_23 : decode cX4_readChange 23 = .ok (.ifCond .ne 7, 3) := by decide +kernel
theorem dX4_readChange_26 : decode cX4_readChange 26 = .ok (.iconst (-1), 1) := by decide +kernel
theorem dX4_readChange_27 : decode cX4_readChange 27 = .ok (.iload_n 3, 1) := by decide +kernel
theorem dX4_readChange_28 : decode cX4_readChange 28 = .ok (.isub, 1) := by decide +kernel
theorem dX4_readChange_29 : decode cX4_readChange 29 = .ok (.ireturn, 1) := by decide +kernel
theorem dX4_readChange_30 : decode cX4_readChange 30 = .ok (.aload_n 1, 1) := by decide +kernel
theorem dX4_readChange_31 : decode cX4_readChange 31 = .ok (.iload_n 2, 1) := by decide +kernel
theorem dX4_readChange_32 : decode cX4_readChange 32 = .ok (.iload_n 3, 1) := by decide +kernel
theorem dX4_readChange_33 : decode cX4_readChange 33 = .ok (.iconst 1, 1) := by decide +kernel
theorem dX4_readChange_34 : decode cX4_readChange 34 = .ok (.iadd, 1) := by decide +kernel
theorem dX4_readChange_35 : decode cX4_readChange 35 = .ok (.invokestatic 35, 3) := by decide +kernel
theorem dX4_readChange_38 : decode cX4_readChange 38 = .ok (.bipush 62, 2) := by decide +kernel
theorem dX4_readChange_40 : decode cX4_readChange 40 = .ok (.if_icmp .eq 9, 3) := by decide +kernel
theorem dX4_readChange_43 : decode cX4_readChange 43 = .ok (.iconst (-1), 1) := by decide +kernel
theorem dX4_readChange_44 : decode cX4_readChange 44 = .ok (.iload_n 3, 1) := by decide +kernel
theorem dX4_readChange_45 : decode cX4_readChange 45 = .ok (.iconst 1, 1) := by decide +kernel
theorem dX4_readChange_46 : decode cX4_readChange 46 = .ok (.iadd, 1) := by decide +kernel
theorem dX4_readChange_47 : decode cX4_readChange 47 = .ok (.isub, 1) := by decide +kernel
theorem dX4_readChange_48 : decode cX4_readChange 48 = .ok (.ireturn, 1) := by decide +kernel
theorem dX4_readChange_49 : decode cX4_readChange 49 = .ok (.aload_n 0, 1) := by decide +kernel
theorem dX4_readChange_50 : decode cX4_readChange 50 = .ok (.getfield 15, 3) := by decide +kernel
theorem dX4_readChange_53 : decode cX4_readChange 53 = .ok (.iload 4, 2) := by decide +kernel
theorem dX4_readChange_55 : decode cX4_readChange 55 = .ok (.aload_n 1, 1) := by decide +kernel
theorem dX4_readChange_56 : decode cX4_readChange 56 = .ok (.iload_n 2, 1) := by decide +kernel
theorem dX4_readChange_57 : decode cX4_readChange 57 = .ok (.iload_n 3, 1) := by decide +kernel
theorem dX4_readChange_58 : decode cX4_readChange 58 = .ok (.iconst 2, 1) := by decide +kernel
theorem dX4_readChange_59 : decode cX4_readChange 59 = .ok (.iadd, 1) := by decide +kernel
theorem dX4_readChange_60 : decode cX4_readChange 60 = .ok (.invokestatic 35, 3) := by decide +kernel
theorem dX4_readChange_63 : decode cX4_readChange 63 = .ok (.iastore, 1) := by decide +kernel
theorem dX4_readChange_64 : decode cX4_readChange 64 = .ok (.aload_n 0, 1) := by decide +kernel
theorem dX4_readChange_65 : decode cX4_readChange 65 = .ok (.getfield 15, 3) := by decide +kernel
theorem dX4_readChange_68 : decode cX4_readChange 68 = .ok (.iload 4, 2) := by decide +kernel
theorem dX4_readChange_70 : decode cX4_readChange 70 = .ok (.iaload, 1) := by decide +kernel
theorem dX4_readChange_71 : decode cX4_readChange 71 = .ok (.invokestatic 43, 3) := by decide +kernel
theorem dX4_readChange_74 : decode cX4_readChange 74 = .ok (.ifCond .ne 21, 3) := by decide +kernel
theorem dX4_readChange_77 : decode cX4_readChange 77 = .ok (.aload_n 0, 1) := by decide +kernel
theorem dX4_readChange_78 : decode cX4_readChange 78 = .ok (.getfield 15, 3) := by decide +kernel
theorem dX4_readChange_81 : decode cX4_readChange 81 = .ok (.iload 4, 2) := by decide +kernel
theorem dX4_readChange_83 : decode cX4_readChange 83 = .ok (.iaload, 1) := by decide +kernel
theorem dX4_readChange_84 : decode cX4_readChange 84 = .ok (.bipush 48, 2) := by decide +kernel
theorem dX4_readChange_86 : decode cX4_readChange 86 = .ok (.if_icmp .eq 9, 3) := by decide +kernel
theorem dX4_readChange_89 : decode cX4_readChange 89 = .ok (.iconst (-1), 1) := by decide +kernel
theorem dX4_readChange_90 : decode cX4_readChange 90 = .ok (.iload_n 3, 1) := by decide +kernel
theorem dX4_readChange_91 : decode cX4_readChange 91 = .ok (.iconst 2, 1) := by decide +kernel
theorem dX4_readChange_92 : decode cX4_readChange 92 = .ok (.iadd, 1) := by decide +kernel
theorem dX4_readChange_93 : decode cX4_readChange 93 = .ok (.isub, 1) := by decide +kernel
theorem dX4_readChange_94 : decode cX4_readChange 94 = .ok (.ireturn, 1) := by decide +kernel
theorem dX4_readChange_95 : decode cX4_readChange 95 = .ok (.aload_n 0, 1) := by decide +kernel
theorem dX4_readChange_96 : decode cX4_readChange 96 = .ok (.getfield 18, 3) := by decide +kernel
theorem dX4_readChange_99 : decode cX4_readChange 99 = .ok (.iload 4, 2) := by decide +kernel
theorem dX4_readChange_101 : decode cX4_readChange 101 = .ok (.iconst 0, 1) := by decide +kernel
theorem dX4_readChange_102 : decode cX4_readChange 102 = .ok (.iastore, 1) := by decide +kernel
theorem dX4_readChange_103 : decode cX4_readChange 103 = .ok (.aload_n 0, 1) := by decide +kernel
theorem dX4_readChange_104 : decode cX4_readChange 104 = .ok (.getfield 21, 3) := by decide +kernel
theorem dX4_readChange_107 : decode cX4_readChange 107 = .ok (.iload 4, 2) := by decide +kernel
theorem dX4_readChange_109 : decode cX4_readChange 109 = .ok (.iconst 0, 1) := by decide +kernel
theorem dX4_readChange_110 : decode cX4_readChange 110 = .ok (.iastore, 1) := by decide +kernel
theorem dX4_readChange_111 : decode cX4_readChange 111 = .ok (.aload_n 1, 1) := by decide +kernel
theorem dX4_readChange_112 : decode cX4_readChange 112 = .ok (.iload_n 2, 1) := by decide +kernel
theorem dX4_readChange_113 : decode cX4_readChange 113 = .ok (.iload_n 3, 1) := by decide +kernel
theorem dX4_readChange_114 : decode cX4_readChange 114 = .ok (.iconst 3, 1) := by decide +kernel
theorem dX4_readChange_115 : decode cX4_readChange 115 = .ok (.iadd, 1) := by decide +kernel
theorem dX4_readChange_116 : decode cX4_readChange 116 = .ok (.invokestatic 35, 3) := by decide +kernel
theorem dX4_readChange_119 : decode cX4_readChange 119 = .ok (.bipush 47, 2) := by decide +kernel
theorem dX4_readChange_121 : decode cX4_readChange 121 = .ok (.if_icmp .eq 7, 3) := by decide +kernel
theorem dX4_readChange_124 : decode cX4_readChange 124 = .ok (.iload_n 3, 1) := by decide +kernel
theorem dX4_readChange_125 : decode cX4_readChange 125 = .ok (.iconst 3, 1) := by decide +kernel
theorem dX4_readChange_126 : decode cX4_readChange 126 = .ok (.iadd, 1) := by decide +kernel
theorem dX4_readChange_127 : decode cX4_readChange 127 = .ok (.ireturn, 1) := by decide +kernel
theorem dX4_readChange_128 : decode cX4_readChange 128 = .ok (.aload_n 0, 1) := by decide +kernel
theorem dX4_readChange_129 : decode cX4_readChange 129 = .ok (.aload_n 1, 1) := by decide +kernel
theorem dX4_readChange_130 : decode cX4_readChange 130 = .ok (.iload_n 2, 1) := by decide +kernel
theorem dX4_readChange_131 : decode cX4_readChange 131 = .ok (.iload_n 3, 1) := by decide +kernel
theorem dX4_readChange_132 : decode cX4_readChange 132 = .ok (.iconst 4, 1) := by decide +kernel
theorem dX4_readChange_133 : decode cX4_readChange 133 = .ok (.iadd, 1) := by decide +kernel
theorem dX4_readChange_134 : decode cX4_readChange 134 = .ok (.iload 4, 2) := by decide +kernel
theorem dX4_readChange_136 : decode cX4_readChange 136 = .ok (.invokevirtual 46, 3) := by decide +kernel
theorem dX4_readChange_139 : decode cX4_readChange 139 = .ok (.ireturn, 1) := by decide +kernel
theorem dX4_readSides_0 : decode cX4_readSides 0 = .ok (.iload_n 3, 1) := by decide +kernel
theorem dX4_readSides_1 : decode cX4_readSides 1 = .ok (.istore 5, 2) := by decide +kernel
theorem dX4_readSides_3 : decode cX4_readSides 3 = .ok (.aload_n 1, 1) := by decide +kernel
theorem dX4_readSides_4 : decode cX4_readSides 4 = .ok (.iload_n 2, 1) := by decide +kernel
theorem dX4_readSides_5 : decode cX4_readSides 5 = .ok (.iload 5, 2) := by decide +kernel
theorem dX4_readSides_7 : decode cX4_readSides 7 = .ok (.invokestatic 35, 3) := by decide +kernel
theorem dX4_readSides_10 : decode cX4_readSides 10 = .ok (.invokestatic 49, 3) := by decide +kernel
theorem dX4_readSides_13 : decode cX4_readSides 13 = .ok (.ifCond .eq 20, 3) := by decide +kernel
theorem dX4_readSides_16 : decode cX4_readSides 16 = .ok (.aload_n 0, 1) := by decide +kernel
theorem dX4_readSides_17 : decode cX4_readSides 17 = .ok (.getfield 18, 3) := by decide +kernel
theorem dX4_readSides_20 : decode cX4_readSides 20 = .ok (.iload 4, 2) := by decide +kernel
theorem dX4_readSides_22 : decode cX4_readSides 22 = .ok (.aload_n 1, 1) := by decide +kernel
theorem dX4_readSides_23 : decode cX4_readSides 23 = .ok (.iload_n 2, 1) := by decide +kernel
theorem dX4_readSides_24 : decode cX4_readSides 24 = .ok (.iload 5, 2) := by decide +kernel
theorem dX4_readSides_26 : decode cX4_readSides 26 = .ok (.invokestatic 35, 3) := by decide +kernel
theorem dX4_readSides_29 : decode cX4_readSides 29 = .ok (.iastore, 1) := by decide +kernel
theorem dX4_readSides_30 : decode cX4_readSides 30 = .ok (.iinc 5 1, 3) := by decide +kernel
theorem dX4_readSides_33 : decode cX4_readSides 33 = .ok (.aload_n 1, 1) := by decide +kernel
theorem dX4_readSides_34 : decode cX4_readSides 34 = .ok (.iload_n 2, 1) := by decide +kernel
theorem dX4_readSides_35 : decode cX4_readSides 35 = .ok (.iload 5, 2) := by decide +kernel
theorem dX4_readSides_37 : decode cX4_readSides 37 = .ok (.invokestatic 35, 3) := by decide +kernel
theorem dX4_readSides_40 : decode cX4_readSides 40 = .ok (.bipush 95, 2) := by decide +kernel
theorem dX4_readSides_42 : decode cX4_readSides 42 = .ok (.if_icmp .eq 8, 3) := by decide +kernel
theorem dX4_readSides_45 : decode cX4_readSides 45 = .ok (.iconst (-1), 1) := by decide +kernel
theorem dX4_readSides_46 : decode cX4_readSides 46 = .ok (.iload 5, 2) := by decide +kernel
theorem dX4_readSides_48 : decode cX4_readSides 48 = .ok (.isub, 1) := by decide +kernel
theorem dX4_readSides_49 : decode cX4_readSides 49 = .ok (.ireturn, 1) := by decide +kernel
theorem dX4_readSides_50 : decode cX4_readSides 50 = .ok (.iinc 5 1, 3) := by decide +kernel
theorem dX4_readSides_53 : decode cX4_readSides 53 = .ok (.aload_n 1, 1) := by decide +kernel
theorem dX4_readSides_54 : decode cX4_readSides 54 = .ok (.iload_n 2, 1) := by decide +kernel
theorem dX4_readSides_55 : decode cX4_readSides 55 = .ok (.iload 5, 2) := by decide +kernel
theorem dX4_readSides_57 : decode cX4_readSides 57 = .ok (.invokestatic 35, 3) := by decide +kernel
theorem dX4_readSides_60 : decode cX4_readSides 60 = .ok (.invokestatic 49, 3) := by decide +kernel
theorem dX4_readSides_63 : decode cX4_readSides 63 = .ok (.ifCond .eq 20, 3) := by decide +kernel
theorem dX4_readSides_66 : decode cX4_readSides 66 = .ok (.aload_n 0, 1) := by decide +kernel
theorem dX4_readSides_67 : decode cX4_readSides 67 = .ok (.getfield 21, 3) := by decide +kernel
theorem dX4_readSides_70 : decode cX4_readSides 70 = .ok (.iload 4, 2) := by decide +kernel
theorem dX4_readSides_72 : decode cX4_readSides 72 = .ok (.aload_n 1, 1) := by decide +kernel
theorem dX4_readSides_73 : decode cX4_readSides 73 = .ok (.iload_n 2, 1) := by decide +kernel
theorem dX4_readSides_74 : decode cX4_readSides 74 = .ok (.iload 5, 2) := by decide +kernel
theorem dX4_readSides_76 : decode cX4_readSides 76 = .ok (.invokestatic 35, 3) := by decide +kernel
theorem dX4_readSides_79 : decode cX4_readSides 79 = .ok (.iastore, 1) := by decide +kernel
theorem dX4_readSides_80 : decode cX4_readSides 80 = .ok (.iinc 5 1, 3) := by decide +kernel
theorem dX4_readSides_83 : decode cX4_readSides 83 = .ok (.iload 5, 2) := by decide +kernel
theorem dX4_readSides_85 : decode cX4_readSides 85 = .ok (.ireturn, 1) := by decide +kernel
theorem dX4_byteAt_0 : decode cX4_byteAt 0 = .ok (.iload_n 2, 1) := by decide +kernel
theorem dX4_byteAt_1 : decode cX4_byteAt 1 = .ok (.ifCond .lt 20, 3) := by decide +kernel
theorem dX4_byteAt_4 : decode cX4_byteAt 4 = .ok (.iload_n 2, 1) := by decide +kernel
theorem dX4_byteAt_5 : decode cX4_byteAt 5 = .ok (.iload_n 1, 1) := by decide +kernel
theorem dX4_byteAt_6 : decode cX4_byteAt 6 = .ok (.if_icmp .ge 15, 3) := by decide +kernel
theorem dX4_byteAt_9 : decode cX4_byteAt 9 = .ok (.iload_n 2, 1) := by decide +kernel
theorem dX4_byteAt_10 : decode cX4_byteAt 10 = .ok (.aload_n 0, 1) := by decide +kernel
theorem dX4_byteAt_11 : decode cX4_byteAt 11 = .ok (.arraylength, 1) := by decide +kernel
theorem dX4_byteAt_12 : decode cX4_byteAt 12 = .ok (.if_icmp .ge 9, 3) := by decide +kernel
theorem dX4_byteAt_15 : decode cX4_byteAt 15 = .ok (.aload_n 0, 1) := by decide +kernel
theorem dX4_byteAt_16 : decode cX4_byteAt 16 = .ok (.iload_n 2, 1) := by decide +kernel
theorem dX4_byteAt_17 : decode cX4_byteAt 17 = .ok (.iaload, 1) := by decide +kernel
theorem dX4_byteAt_18 : decode cX4_byteAt 18 = .ok (.goto 4, 3) := by decide +kernel
theorem dX4_byteAt_21 : decode cX4_byteAt 21 = .ok (.iconst (-1), 1) := by decide +kernel
theorem dX4_byteAt_22 : decode cX4_byteAt 22 = .ok (.ireturn, 1) := by decide +kernel
theorem dX4_isSign_0 : decode cX4_isSign 0 = .ok (.iload_n 0, 1) := by decide +kernel
theorem dX4_isSign_1 : decode cX4_isSign 1 = .ok (.invokestatic 43, 3) := by decide +kernel
theorem dX4_isSign_4 : decode cX4_isSign 4 = .ok (.ifCond .ne 15, 3) := by decide +kernel
theorem dX4_isSign_7 : decode cX4_isSign 7 = .ok (.iload_n 0, 1) := by decide +kernel
theorem dX4_isSign_8 : decode cX4_isSign 8 = .ok (.bipush 86, 2) := by decide +kernel
theorem dX4_isSign_10 : decode cX4_isSign 10 = .ok (.if_icmp .eq 9, 3) := by decide +kernel
theorem dX4_isSign_13 : decode cX4_isSign 13 = .ok (.iload_n 0, 1) := by decide +kernel
theorem dX4_isSign_14 : decode cX4_isSign 14 = .ok (.bipush 67, 2) := by decide +kernel
theorem dX4_isSign_16 : decode cX4_isSign 16 = .ok (.if_icmp .ne 7, 3) := by decide +kernel
theorem dX4_isSign_19 : decode cX4_isSign 19 = .ok (.iconst 1, 1) := by decide +kernel
theorem dX4_isSign_20 : decode cX4_isSign 20 = .ok (.goto 4, 3) := by decide +kernel
theorem dX4_isSign_23 : decode cX4_isSign 23 = .ok (.iconst 0, 1) := by decide +kernel
theorem dX4_isSign_24 : decode cX4_isSign 24 = .ok (.ireturn, 1) := by decide +kernel
theorem dX4_isSide_0 : decode cX4_isSide 0 = .ok (.iload_n 0, 1) := by decide +kernel
theorem dX4_isSide_1 : decode cX4_isSide 1 = .ok (.invokestatic 39, 3) := by decide +kernel
theorem dX4_isSide_4 : decode cX4_isSide 4 = .ok (.ifCond .ne 9, 3) := by decide +kernel
theorem dX4_isSide_7 : decode cX4_isSide 7 = .ok (.iload_n 0, 1) := by decide +kernel
theorem dX4_isSide_8 : decode cX4_isSide 8 = .ok (.bipush 35, 2) := by decide +kernel
theorem dX4_isSide_10 : decode cX4_isSide 10 = .ok (.if_icmp .ne 7, 3) := by decide +kernel
theorem dX4_isSide_13 : decode cX4_isSide 13 = .ok (.iconst 1, 1) := by decide +kernel
theorem dX4_isSide_14 : decode cX4_isSide 14 = .ok (.goto 4, 3) := by decide +kernel
theorem dX4_isSide_17 : decode cX4_isSide 17 = .ok (.iconst 0, 1) := by decide +kernel
theorem dX4_isSide_18 : decode cX4_isSide 18 = .ok (.ireturn, 1) := by decide +kernel
theorem dX4_comeOver_0 : decode cX4_comeOver 0 = .ok (.aload_n 1, 1) := by decide +kernel
theorem dX4_comeOver_1 : decode cX4_comeOver 1 = .ok (.getfield 52, 3) := by decide +kernel
theorem dX4_comeOver_4 : decode cX4_comeOver 4 = .ok (.istore_n 2, 1) := by decide +kernel
theorem dX4_comeOver_5 : decode cX4_comeOver 5 = .ok (.aload_n 1, 1) := by decide +kernel
theorem dX4_comeOver_6 : decode cX4_comeOver 6 = .ok (.getfield 57, 3) := by decide +kernel
theorem dX4_comeOver_9 : decode cX4_comeOver 9 = .ok (.iconst 0, 1) := by decide +kernel
theorem dX4_comeOver_10 : decode cX4_comeOver 10 = .ok (.aload_n 0, 1) := by decide +kernel
theorem dX4_comeOver_11 : decode cX4_comeOver 11 = .ok (.getfield 24, 3) := by decide +kernel
theorem dX4_comeOver_14 : decode cX4_comeOver 14 = .ok (.iconst 0, 1) := by decide +kernel
theorem dX4_comeOver_15 : decode cX4_comeOver 15 = .ok (.bipush 8, 2) := by decide +kernel
theorem dX4_comeOver_17 : decode cX4_comeOver 17 = .ok (.invokestatic 60, 3) := by decide +kernel
theorem dX4_comeOver_20 : decode cX4_comeOver 20 = .ok (.iconst 0, 1) := by decide +kernel
theorem dX4_comeOver_21 : decode cX4_comeOver 21 = .ok (.istore_n 3, 1) := by decide +kernel
theorem dX4_comeOver_22 : decode cX4_comeOver 22 = .ok (.iconst 0, 1) := by decide +kernel
theorem dX4_comeOver_23 : decode cX4_comeOver 23 = .ok (.istore 4, 2) := by decide +kernel
theorem dX4_comeOver_25 : decode cX4_comeOver 25 = .ok (.iconst 0, 1) := by decide +kernel
theorem dX4_comeOver_26 : decode cX4_comeOver 26 = .ok (.istore 5, 2) := by decide +kernel
theorem dX4_comeOver_28 : decode cX4_comeOver 28 = .ok (.iload 5, 2) := by decide +kernel
theorem dX4_comeOver_30 : decode cX4_comeOver 30 = .ok (.iload_n 2, 1) := by decide +kernel
theorem dX4_comeOver_31 : decode cX4_comeOver 31 = .ok (.if_icmp .ge 66, 3) := by decide +kernel
theorem dX4_comeOver_34 : decode cX4_comeOver 34 = .ok (.iload 5, 2) := by decide +kernel
theorem dX4_comeOver_36 : decode cX4_comeOver 36 = .ok (.bipush 8, 2) := by decide +kernel
theorem dX4_comeOver_38 : decode cX4_comeOver 38 = .ok (.if_icmp .ge 59, 3) := by decide +kernel
theorem dX4_comeOver_41 : decode cX4_comeOver 41 = .ok (.aload_n 0, 1) := by decide +kernel
theorem dX4_comeOver_42 : decode cX4_comeOver 42 = .ok (.iload 5, 2) := by decide +kernel
theorem dX4_comeOver_44 : decode cX4_comeOver 44 = .ok (.iload_n 2, 1) := by decide +kernel
theorem dX4_comeOver_45 : decode cX4_comeOver 45 = .ok (.invokevirtual 66, 3) := by decide +kernel
theorem dX4_comeOver_48 : decode cX4_comeOver 48 = .ok (.istore 6, 2) := by decide +kernel
theorem dX4_comeOver_50 : decode cX4_comeOver 50 = .ok (.iload 4, 2) := by decide +kernel
theorem dX4_comeOver_52 : decode cX4_comeOver 52 = .ok (.ifCond .ne 15, 3) := by decide +kernel
theorem dX4_comeOver_55 : decode cX4_comeOver 55 = .ok (.iload 6, 2) := by decide +kernel
theorem dX4_comeOver_57 : decode cX4_comeOver 57 = .ok (.aload_n 0, 1) := by decide +kernel
theorem dX4_comeOver_58 : decode cX4_comeOver 58 = .ok (.getfield 24, 3) := by decide +kernel
theorem dX4_comeOver_61 : decode cX4_comeOver 61 = .ok (.iload 5, 2) := by decide +kernel
theorem dX4_comeOver_63 : decode cX4_comeOver 63 = .ok (.iaload, 1) := by decide +kernel
theorem dX4_comeOver_64 : decode cX4_comeOver 64 = .ok (.if_icmp .eq 7, 3) := by decide +kernel
theorem dX4_comeOver_67 : decode cX4_comeOver 67 = .ok (.iconst 1, 1) := by decide +kernel
theorem dX4_comeOver_68 : decode cX4_comeOver 68 = .ok (.goto 4, 3) := by decide +kernel
theorem dX4_comeOver_71 : decode cX4_comeOver 71 = .ok (.iconst 0, 1) := by decide +kernel
theorem dX4_comeOver_72 : decode cX4_comeOver 72 = .ok (.istore 4, 2) := by decide +kernel
theorem dX4_comeOver_74 : decode cX4_comeOver 74 = .ok (.iload 6, 2) := by decide +kernel
theorem dX4_comeOver_76 : decode cX4_comeOver 76 = .ok (.iconst (-1), 1) := by decide +kernel
theorem dX4_comeOver_77 : decode cX4_comeOver 77 = .ok (.if_icmp .eq 14, 3) := by decide +kernel
theorem dX4_comeOver_80 : decode cX4_comeOver 80 = .ok (.aload_n 1, 1) := by decide +kernel
theorem dX4_comeOver_81 : decode cX4_comeOver 81 = .ok (.getfield 57, 3) := by decide +kernel
theorem dX4_comeOver_84 : decode cX4_comeOver 84 = .ok (.iload_n 3, 1) := by decide +kernel
theorem dX4_comeOver_85 : decode cX4_comeOver 85 = .ok (.iload 6, 2) := by decide +kernel
theorem dX4_comeOver_87 : decode cX4_comeOver 87 = .ok (.iastore, 1) := by decide +kernel
theorem dX4_comeOver_88 : decode cX4_comeOver 88 = .ok (.iinc 3 1, 3) := by decide +kernel
theorem dX4_comeOver_91 : decode cX4_comeOver 91 = .ok (.iinc 5 1, 3) := by decide +kernel
theorem dX4_comeOver_94 : decode cX4_comeOver 94 = .ok (.goto (-66), 3) := by decide +kernel
theorem dX4_comeOver_97 : decode cX4_comeOver 97 = .ok (.iload_n 3, 1) := by decide +kernel
theorem dX4_comeOver_98 : decode cX4_comeOver 98 = .ok (.ifCond .ne 5, 3) := by decide +kernel
theorem dX4_comeOver_101 : decode cX4_comeOver 101 = .ok (.iconst 0, 1) := by decide +kernel
theorem dX4_comeOver_102 : decode cX4_comeOver 102 = .ok (.ireturn, 1) := by decide +kernel
theorem dX4_comeOver_103 : decode cX4_comeOver 103 = .ok (.aload_n 1, 1) := by decide +kernel
theorem dX4_comeOver_104 : decode cX4_comeOver 104 = .ok (.iload_n 3, 1) := by decide +kernel
theorem dX4_comeOver_105 : decode cX4_comeOver 105 = .ok (.putfield 52, 3) := by decide +kernel
theorem dX4_comeOver_108 : decode cX4_comeOver 108 = .ok (.iload 4, 2) := by decide +kernel
theorem dX4_comeOver_110 : decode cX4_comeOver 110 = .ok (.ireturn, 1) := by decide +kernel
theorem dX4_letterFor_0 : decode cX4_letterFor 0 = .ok (.iconst 0, 1) := by decide +kernel
theorem dX4_letterFor_1 : decode cX4_letterFor 1 = .ok (.istore_n 3, 1) := by decide +kernel
theorem dX4_letterFor_2 : decode cX4_letterFor 2 = .ok (.iload_n 3, 1) := by decide +kernel
theorem dX4_letterFor_3 : decode cX4_letterFor 3 = .ok (.aload_n 0, 1) := by decide +kernel
theorem dX4_letterFor_4 : decode cX4_letterFor 4 = .ok (.getfield 27, 3) := by decide +kernel
theorem dX4_letterFor_7 : decode cX4_letterFor 7 = .ok (.if_icmp .ge 86, 3) := by decide +kernel
theorem dX4_letterFor_10 : decode cX4_letterFor 10 = .ok (.aload_n 0, 1) := by decide +kernel
theorem dX4_letterFor_11 : decode cX4_letterFor 11 = .ok (.getfield 9, 3) := by decide +kernel
theorem dX4_letterFor_14 : decode cX4_letterFor 14 = .ok (.iload_n 3, 1) := by decide +kernel
theorem dX4_letterFor_15 : decode cX4_letterFor 15 = .ok (.iaload, 1) := by decide +kernel
theorem dX4_letterFor_16 : decode cX4_letterFor 16 = .ok (.aload_n 0, 1) := by decide +kernel
theorem dX4_letterFor_17 : decode cX4_letterFor 17 = .ok (.getfield 24, 3) := by decide +kernel
theorem dX4_letterFor_20 : decode cX4_letterFor 20 = .ok (.iload_n 1, 1) := by decide +kernel
theorem dX4_letterFor_21 : decode cX4_letterFor 21 = .ok (.iaload, 1) := by decide +kernel
theorem dX4_letterFor_22 : decode cX4_letterFor 22 = .ok (.invokestatic 70, 3) := by decide +kernel
theorem dX4_letterFor_25 : decode cX4_letterFor 25 = .ok (.ifCond .eq 62, 3) := by decide +kernel
theorem dX4_letterFor_28 : decode cX4_letterFor 28 = .ok (.aload_n 0, 1) := by decide +kernel
theorem dX4_letterFor_29 : decode cX4_letterFor 29 = .ok (.aload_n 0, 1) := by decide +kernel
theorem dX4_letterFor_30 : decode cX4_letterFor 30 = .ok (.getfield 18, 3) := by decide +kernel
theorem dX4_letterFor_33 : decode cX4_letterFor 33 = .ok (.iload_n 3, 1) := by decide +kernel
theorem dX4_letterFor_34 : decode cX4_letterFor 34 = .ok (.iaload, 1) := by decide +kernel
theorem dX4_letterFor_35 : decode cX4_letterFor 35 = .ok (.iload_n 1, 1) := by decide +kernel
theorem dX4_letterFor_36 : decode cX4_letterFor 36 = .ok (.iconst 1, 1) := by decide +kernel
theorem dX4_letterFor_37 : decode cX4_letterFor 37 = .ok (.isub, 1) := by decide +kernel
theorem dX4_letterFor_38 : decode cX4_letterFor 38 = .ok (.iload_n 2, 1) := by decide +kernel
theorem dX4_letterFor_39 : decode cX4_letterFor 39 = .ok (.invokevirtual 74, 3) := by decide +kernel
theorem dX4_letterFor_42 : decode cX4_letterFor 42 = .ok (.ifCond .eq 45, 3) := by decide +kernel
theorem dX4_letterFor_45 : decode cX4_letterFor 45 = .ok (.aload_n 0, 1) := by decide +kernel
theorem dX4_letterFor_46 : decode cX4_letterFor 46 = .ok (.aload_n 0, 1) := by decide +kernel
theorem dX4_letterFor_47 : decode cX4_letterFor 47 = .ok (.getfield 21, 3) := by decide +kernel
theorem dX4_letterFor_50 : decode cX4_letterFor 50 = .ok (.iload_n 3, 1) := by decide +kernel
theorem dX4_letterFor_51 : decode cX4_letterFor 51 = .ok (.iaload, 1) := by decide +kernel
theorem dX4_letterFor_52 : decode cX4_letterFor 52 = .ok (.iload_n 1, 1) := by decide +kernel
theorem dX4_letterFor_53 : decode cX4_letterFor 53 = .ok (.iconst 1, 1) := by decide +kernel
theorem dX4_letterFor_54 : decode cX4_letterFor 54 = .ok (.iadd, 1) := by decide +kernel
theorem dX4_letterFor_55 : decode cX4_letterFor 55 = .ok (.iload_n 2, 1) := by decide +kernel
theorem dX4_letterFor_56 : decode cX4_letterFor 56 = .ok (.invokevirtual 74, 3) := by decide +kernel
theorem dX4_letterFor_59 : decode cX4_letterFor 59 = .ok (.ifCond .eq 28, 3) := by decide +kernel
theorem dX4_letterFor_62 : decode cX4_letterFor 62 = .ok (.aload_n 0, 1) := by decide +kernel
theorem dX4_letterFor_63 : decode cX4_letterFor 63 = .ok (.getfield 15, 3) := by decide +kernel
theorem dX4_letterFor_66 : decode cX4_letterFor 66 = .ok (.iload_n 3, 1) := by decide +kernel
theorem dX4_letterFor_67 : decode cX4_letterFor 67 = .ok (.iaload, 1) := by decide +kernel
theorem dX4_letterFor_68 : decode cX4_letterFor 68 = .ok (.bipush 48, 2) := by decide +kernel
theorem dX4_letterFor_70 : decode cX4_letterFor 70 = .ok (.if_icmp .ne 7, 3) := by decide +kernel
theorem dX4_letterFor_73 : decode cX4_letterFor 73 = .ok (.iconst (-1), 1) := by decide +kernel
theorem dX4_letterFor_74 : decode cX4_letterFor 74 = .ok (.goto 12, 3) := by decide +kernel
theorem dX4_letterFor_77 : decode cX4_letterFor 77 = .ok (.aload_n 0, 1) := by decide +kernel
theorem dX4_letterFor_78 : decode cX4_letterFor 78 = .ok (.getfield 15, 3) := by decide +kernel
theorem dX4_letterFor_81 : decode cX4_letterFor 81 = .ok (.iload_n 3, 1) := by decide +kernel
theorem dX4_letterFor_82 : decode cX4_letterFor 82 = .ok (.iaload, 1) := by decide +kernel
theorem dX4_letterFor_83 : decode cX4_letterFor 83 = .ok (.bipush 97, 2) := by decide +kernel
theorem dX4_letterFor_85 : decode cX4_letterFor 85 = .ok (.isub, 1) := by decide +kernel
theorem dX4_letterFor_86 : decode cX4_letterFor 86 = .ok (.ireturn, 1) := by decide +kernel
theorem dX4_letterFor_87 : decode cX4_letterFor 87 = .ok (.iinc 3 1, 3) := by decide +kernel
theorem dX4_letterFor_90 : decode cX4_letterFor 90 = .ok (.goto (-88), 3) := by decide +kernel
theorem dX4_letterFor_93 : decode cX4_letterFor 93 = .ok (.aload_n 0, 1) := by decide +kernel
theorem dX4_letterFor_94 : decode cX4_letterFor 94 = .ok (.getfield 24, 3) := by decide +kernel
theorem dX4_letterFor_97 : decode cX4_letterFor 97 = .ok (.iload_n 1, 1) := by decide +kernel
theorem dX4_letterFor_98 : decode cX4_letterFor 98 = .ok (.iaload, 1) := by decide +kernel
theorem dX4_letterFor_99 : decode cX4_letterFor 99 = .ok (.ireturn, 1) := by decide +kernel
theorem dX4_isBeside_0 : decode cX4_isBeside 0 = .ok (.iload_n 1, 1) := by decide +kernel
theorem dX4_isBeside_1 : decode cX4_isBeside 1 = .ok (.ifCond .ne 5, 3) := by decide +kernel
theorem dX4_isBeside_4 : decode cX4_isBeside 4 = .ok (.iconst 1, 1) := by decide +kernel
theorem dX4_isBeside_5 : decode cX4_isBeside 5 = .ok (.ireturn, 1) := by decide +kernel
theorem dX4_isBeside_6 : decode cX4_isBeside 6 = .ok (.iload_n 2, 1) := by decide +kernel
theorem dX4_isBeside_7 : decode cX4_isBeside 7 = .ok (.ifCond .lt 8, 3) := by decide +kernel
theorem dX4_isBeside_10 : decode cX4_isBeside 10 = .ok (.iload_n 2, 1) := by decide +kernel
theorem dX4_isBeside_11 : decode cX4_isBeside 11 = .ok (.iload_n 3, 1) := by decide +kernel
theorem dX4_isBeside_12 : decode cX4_isBeside 12 = .ok (.if_icmp .lt 15, 3) := by decide +kernel
theorem dX4_isBeside_15 : decode cX4_isBeside 15 = .ok (.iload_n 1, 1) := by decide +kernel
theorem dX4_isBeside_16 : decode cX4_isBeside 16 = .ok (.bipush 35, 2) := by decide +kernel
theorem dX4_isBeside_18 : decode cX4_isBeside 18 = .ok (.if_icmp .ne 7, 3) := by decide +kernel
theorem dX4_isBeside_21 : decode cX4_isBeside 21 = .ok (.iconst 1, 1) := by decide +kernel
theorem dX4_isBeside_22 : decode cX4_isBeside 22 = .ok (.goto 4, 3) := by decide +kernel
theorem dX4_isBeside_25 : decode cX4_isBeside 25 = .ok (.iconst 0, 1) := by decide +kernel
theorem dX4_isBeside_26 : decode cX4_isBeside 26 = .ok (.ireturn, 1) := by decide +kernel
theorem dX4_isBeside_27 : decode cX4_isBeside 27 = .ok (.iload_n 1, 1) := by decide +kernel
theorem dX4_isBeside_28 : decode cX4_isBeside 28 = .ok (.aload_n 0, 1) := by decide +kernel
theorem dX4_isBeside_29 : decode cX4_isBeside 29 = .ok (.getfield 24, 3) := by decide +kernel
theorem dX4_isBeside_32 : decode cX4_isBeside 32 = .ok (.iload_n 2, 1) := by decide +kernel
theorem dX4_isBeside_33 : decode cX4_isBeside 33 = .ok (.iaload, 1) := by decide +kernel
theorem dX4_isBeside_34 : decode cX4_isBeside 34 = .ok (.invokestatic 70, 3) := by decide +kernel
theorem dX4_isBeside_37 : decode cX4_isBeside 37 = .ok (.ireturn, 1) := by decide +kernel
theorem dX4_isSignOf_0 : decode cX4_isSignOf 0 = .ok (.iload_n 0, 1) := by decide +kernel
theorem dX4_isSignOf_1 : decode cX4_isSignOf 1 = .ok (.bipush 86, 2) := by decide +kernel
theorem dX4_isSignOf_3 : decode cX4_isSignOf 3 = .ok (.if_icmp .ne 8, 3) := by decide +kernel
theorem dX4_isSignOf_6 : decode cX4_isSignOf 6 = .ok (.iload_n 1, 1) := by decide +kernel
theorem dX4_isSignOf_7 : decode cX4_isSignOf 7 = .ok (.invokestatic 78, 3) := by decide +kernel
theorem dX4_isSignOf_10 : decode cX4_isSignOf 10 = .ok (.ireturn, 1) := by decide +kernel
theorem dX4_isSignOf_11 : decode cX4_isSignOf 11 = .ok (.iload_n 0, 1) := by decide +kernel
theorem dX4_isSignOf_12 : decode cX4_isSignOf 12 = .ok (.bipush 67, 2) := by decide +kernel
theorem dX4_isSignOf_14 : decode cX4_isSignOf 14 = .ok (.if_icmp .ne 16, 3) := by decide +kernel
theorem dX4_isSignOf_17 : decode cX4_isSignOf 17 = .ok (.iload_n 1, 1) := by decide +kernel
theorem dX4_isSignOf_18 : decode cX4_isSignOf 18 = .ok (.invokestatic 78, 3) := by decide +kernel
theorem dX4_isSignOf_21 : decode cX4_isSignOf 21 = .ok (.ifCond .ne 7, 3) := by decide +kernel
theorem dX4_isSignOf_24 : decode cX4_isSignOf 24 = .ok (.iconst 1, 1) := by decide +kernel
theorem dX4_isSignOf_25 : decode cX4_isSignOf 25 = .ok (.goto 4, 3) := by decide +kernel
theorem dX4_isSignOf_28 : decode cX4_isSignOf 28 = .ok (.iconst 0, 1) := by decide +kernel
theorem dX4_isSignOf_29 : decode cX4_isSignOf 29 = .ok (.ireturn, 1) := by decide +kernel
theorem dX4_isSignOf_30 : decode cX4_isSignOf 30 = .ok (.iload_n 0, 1) := by decide +kernel
theorem dX4_isSignOf_31 : decode cX4_isSignOf 31 = .ok (.bipush 97, 2) := by decide +kernel
theorem dX4_isSignOf_33 : decode cX4_isSignOf 33 = .ok (.isub, 1) := by decide +kernel
theorem dX4_isSignOf_34 : decode cX4_isSignOf 34 = .ok (.iload_n 1, 1) := by decide +kernel
theorem dX4_isSignOf_35 : decode cX4_isSignOf 35 = .ok (.if_icmp .ne 7, 3) := by decide +kernel
theorem dX4_isSignOf_38 : decode cX4_isSignOf 38 = .ok (.iconst 1, 1) := by decide +kernel
theorem dX4_isSignOf_39 : decode cX4_isSignOf 39 = .ok (.goto 4, 3) := by decide +kernel
theorem dX4_isSignOf_42 : decode cX4_isSignOf 42 = .ok (.iconst 0, 1) := by decide +kernel
theorem dX4_isSignOf_43 : decode cX4_isSignOf 43 = .ok (.ireturn, 1) := by decide +kernel
theorem dX5_init_0 : decode cX5_init 0 = .ok (.aload_n 0, 1) := by decide +kernel
theorem dX5_init_1 : decode cX5_init 1 = .ok (.iload_n 1, 1) := by decide +kernel
theorem dX5_init_2 : decode cX5_init 2 = .ok (.iload_n 2, 1) := by decide +kernel
theorem dX5_init_3 : decode cX5_init 3 = .ok (.iload_n 3, 1) := by decide +kernel
theorem dX5_init_4 : decode cX5_init 4 = .ok (.iload 4, 2) := by decide +kernel
theorem dX5_init_6 : decode cX5_init 6 = .ok (.iload 5, 2) := by decide +kernel
theorem dX5_init_8 : decode cX5_init 8 = .ok (.invokespecial 1, 3) := by decide +kernel
theorem dX5_init_11 : decode cX5_init 11 = .ok (.return_, 1) := by decide +kernel
theorem dX5_kindNumber_0 : decode cX5_kindNumber 0 = .ok (.iconst 2, 1) := by decide +kernel
theorem dX5_kindNumber_1 : decode cX5_kindNumber 1 = .ok (.ireturn, 1) := by decide +kernel
theorem dX5_leads_0 : decode cX5_leads 0 = .ok (.aload_n 0, 1) := by decide +kernel
theorem dX5_leads_1 : decode cX5_leads 1 = .ok (.bipush 21, 2) := by decide +kernel
theorem dX5_leads_3 : decode cX5_leads 3 = .ok (.invokevirtual 7, 3) := by decide +kernel
theorem dX5_leads_6 : decode cX5_leads 6 = .ok (.aload_n 0, 1) := by decide +kernel
theorem dX5_leads_7 : decode cX5_leads 7 = .ok (.iload_n 1, 1) := by decide +kernel
theorem dX5_leads_8 : decode cX5_leads 8 = .ok (.invokespecial 13, 3) := by decide +kernel
theorem dX5_leads_11 : decode cX5_leads 11 = .ok (.bipush 7, 2) := by decide +kernel
theorem dX5_leads_13 : decode cX5_leads 13 = .ok (.ixor, 1) := by decide +kernel
theorem dX5_leads_14 : decode cX5_leads 14 = .ok (.ireturn, 1) := by decide +kernel
theorem dX6_init_0 : decode cX6_init 0 = .ok (.aload_n 0, 1) := by decide +kernel
theorem dX6_init_1 : decode cX6_init 1 = .ok (.iload_n 1, 1) := by decide +kernel
theorem dX6_init_2 : decode cX6_init 2 = .ok (.iload_n 2, 1) := by decide +kernel
theorem dX6_init_3 : decode cX6_init 3 = .ok (.iload_n 3, 1) := by decide +kernel
theorem dX6_init_4 : decode cX6_init 4 = .ok (.iload 4, 2) := by decide +kernel
theorem dX6_init_6 : decode cX6_init 6 = .ok (.iload 5, 2) := by decide +kernel
theorem dX6_init_8 : decode cX6_init 8 = .ok (.invokespecial 1, 3) := by decide +kernel
theorem dX6_init_11 : decode cX6_init 11 = .ok (.return_, 1) := by decide +kernel
theorem dX6_kindNumber_0 : decode cX6_kindNumber 0 = .ok (.iconst 4, 1) := by decide +kernel
theorem dX6_kindNumber_1 : decode cX6_kindNumber 1 = .ok (.ireturn, 1) := by decide +kernel
theorem dX6_leads_0 : decode cX6_leads 0 = .ok (.aload_n 0, 1) := by decide +kernel
theorem dX6_leads_1 : decode cX6_leads 1 = .ok (.bipush 41, 2) := by decide +kernel
theorem dX6_leads_3 : decode cX6_leads 3 = .ok (.invokevirtual 7, 3) := by decide +kernel
theorem dX6_leads_6 : decode cX6_leads 6 = .ok (.aload_n 0, 1) := by decide +kernel
theorem dX6_leads_7 : decode cX6_leads 7 = .ok (.iload_n 1, 1) := by decide +kernel
theorem dX6_leads_8 : decode cX6_leads 8 = .ok (.iconst 1, 1) := by decide +kernel
theorem dX6_leads_9 : decode cX6_leads 9 = .ok (.isub, 1) := by decide +kernel
theorem dX6_leads_10 : decode cX6_leads 10 = .ok (.invokespecial 13, 3) := by decide +kernel
theorem dX6_leads_13 : decode cX6_leads 13 = .ok (.aload_n 0, 1) := by decide +kernel
theorem dX6_leads_14 : decode cX6_leads 14 = .ok (.iconst 2, 1) := by decide +kernel
theorem dX6_leads_15 : decode cX6_leads 15 = .ok (.invokevirtual 17, 3) := by decide +kernel
theorem dX6_leads_18 : decode cX6_leads 18 = .ok (.iadd, 1) := by decide +kernel
theorem dX6_leads_19 : decode cX6_leads 19 = .ok (.ireturn, 1) := by decide +kernel
theorem dX7_init_0 : decode cX7_init 0 = .ok (.aload_n 0, 1) := by decide +kernel
theorem dX7_init_1 : decode cX7_init 1 = .ok (.invokespecial 3, 3) := by decide +kernel
theorem dX7_init_4 : decode cX7_init 4 = .ok (.aload_n 0, 1) := by decide +kernel
theorem dX7_init_5 : decode cX7_init 5 = .ok (.bipush 81, 2) := by decide +kernel
theorem dX7_init_7 : decode cX7_init 7 = .ok (.newarray .int, 2) := by decide +kernel
theorem dX7_init_9 : decode cX7_init 9 = .ok (.putfield 11, 3) := by decide +kernel
theorem dX7_init_12 : decode cX7_init 12 = .ok (.aload_n 0, 1) := by decide +kernel
theorem dX7_init_13 : decode cX7_init 13 = .ok (.bipush 16, 2) := by decide +kernel
theorem dX7_init_15 : decode cX7_init 15 = .ok (.newarray .int, 2) := by decide +kernel
theorem dX7_init_17 : decode cX7_init 17 = .ok (.putfield 15, 3) := by decide +kernel
theorem dX7_init_20 : decode cX7_init 20 = .ok (.return_, 1) := by decide +kernel
theorem dX7_leastCost_0 : decode cX7_leastCost 0 = .ok (.aload_n 1, 1) := by decide +kernel
theorem dX7_leastCost_1 : decode cX7_leastCost 1 = .ok (.getfield 18, 3) := by decide +kernel
theorem dX7_leastCost_4 : decode cX7_leastCost 4 = .ok (.istore_n 3, 1) := by decide +kernel
theorem dX7_leastCost_5 : decode cX7_leastCost 5 = .ok (.iload_n 3, 1) := by decide +kernel
theorem dX7_leastCost_6 : decode cX7_leastCost 6 = .ok (.ifCond .lt 126, 3) := by decide +kernel
theorem dX7_leastCost_9 : decode cX7_leastCost 9 = .ok (.aload_n 2, 1) := by decide +kernel
theorem dX7_leastCost_10 : decode cX7_leastCost 10 = .ok (.getfield 18, 3) := by decide +kernel
theorem dX7_leastCost_13 : decode cX7_leastCost 13 = .ok (.istore 4, 2) := by decide +kernel
theorem dX7_leastCost_15 : decode cX7_leastCost 15 = .ok (.iload 4, 2) := by decide +kernel
theorem dX7_leastCost_17 : decode cX7_leastCost 17 = .ok (.ifCond .lt 109, 3) := by decide +kernel
theorem dX7_leastCost_20 : decode cX7_leastCost 20 = .ok (.iconst 2, 1) := by decide +kernel
theorem dX7_leastCost_21 : decode cX7_leastCost 21 = .ok (.aload_n 1, 1) := by decide +kernel
theorem dX7_leastCost_22 : decode cX7_leastCost 22 = .ok (.getfield 18, 3) := by decide +kernel
theorem dX7_leastCost_25 : decode cX7_leastCost 25 = .ok (.iload_n 3, 1) := by decide +kernel
theorem dX7_leastCost_26 : decode cX7_leastCost 26 = .ok (.isub, 1) := by decide +kernel
theorem dX7_leastCost_27 : decode cX7_leastCost 27 = .ok (.aload_n 2, 1) := by decide +kernel
theorem dX7_leastCost_28 : decode cX7_leastCost 28 = .ok (.getfield 18, 3) := by decide +kernel
theorem dX7_leastCost_31 : decode cX7_leastCost 31 = .ok (.iadd, 1) := by decide +kernel
theorem dX7_leastCost_32 : decode cX7_leastCost 32 = .ok (.iload 4, 2) := by decide +kernel
theorem dX7_leastCost_34 : decode cX7_leastCost 34 = .ok (.isub, 1) := by decide +kernel
theorem dX7_leastCost_35 : decode cX7_leastCost 35 = .ok (.imul, 1) := by decide +kernel
theorem dX7_leastCost_36 : decode cX7_leastCost 36 = .ok (.istore 5, 2) := by decide +kernel
theorem dX7_leastCost_38 : decode cX7_leastCost 38 = .ok (.iload_n 3, 1) := by decide +kernel
theorem dX7_leastCost_39 : decode cX7_leastCost 39 = .ok (.aload_n 1, 1) := by decide +kernel
theorem dX7_leastCost_40 : decode cX7_leastCost 40 = .ok (.getfield 18, 3) := by decide +kernel
theorem dX7_leastCost_43 : decode cX7_leastCost 43 = .ok (.if_icmp .ge 63, 3) := by decide +kernel
theorem dX7_leastCost_46 : decode cX7_leastCost 46 = .ok (.iload 4, 2) := by decide +kernel
theorem dX7_leastCost_48 : decode cX7_leastCost 48 = .ok (.aload_n 2, 1) := by decide +kernel
theorem dX7_leastCost_49 : decode cX7_leastCost 49 = .ok (.getfield 18, 3) := by decide +kernel
theorem dX7_leastCost_52 : decode cX7_leastCost 52 = .ok (.if_icmp .ge 54, 3) := by decide +kernel
theorem dX7_leastCost_55 : decode cX7_leastCost 55 = .ok (.iconst 2, 1) := by decide +kernel
theorem dX7_leastCost_56 : decode cX7_leastCost 56 = .ok (.aload_n 0, 1) := by decide +kernel
theorem dX7_leastCost_57 : decode cX7_leastCost 57 = .ok (.getfield 11, 3) := by decide +kernel
theorem dX7_leastCost_60 : decode cX7_leastCost 60 = .ok (.iload_n 3, 1) := by decide +kernel
theorem dX7_leastCost_61 : decode cX7_leastCost 61 = .ok (.iconst 1, 1) := by decide +kernel
theorem dX7_leastCost_62 : decode cX7_leastCost 62 = .ok (.iadd, 1) := by decide +kernel
theorem dX7_leastCost_63 : decode cX7_leastCost 63 = .ok (.bipush 9, 2) := by decide +kernel
theorem dX7_leastCost_65 : decode cX7_leastCost 65 = .ok (.imul, 1) := by decide +kernel
theorem dX7_leastCost_66 : decode cX7_leastCost 66 = .ok (.iload 4, 2) := by decide +kernel
theorem dX7_leastCost_68 : decode cX7_leastCost 68 = .ok (.iadd, 1) := by decide +kernel
theorem dX7_leastCost_69 : decode cX7_leastCost 69 = .ok (.iaload, 1) := by decide +kernel
theorem dX7_leastCost_70 : decode cX7_leastCost 70 = .ok (.aload_n 0, 1) := by decide +kernel
theorem dX7_leastCost_71 : decode cX7_leastCost 71 = .ok (.getfield 11, 3) := by decide +kernel
theorem dX7_leastCost_74 : decode cX7_leastCost 74 = .ok (.iload_n 3, 1) := by decide +kernel
theorem dX7_leastCost_75 : decode cX7_leastCost 75 = .ok (.bipush 9, 2) := by decide +kernel
theorem dX7_leastCost_77 : decode cX7_leastCost 77 = .ok (.imul, 1) := by decide +kernel
theorem dX7_leastCost_78 : decode cX7_leastCost 78 = .ok (.iload 4, 2) := by decide +kernel
theorem dX7_leastCost_80 : decode cX7_leastCost 80 = .ok (.iadd, 1) := by decide +kernel
theorem dX7_leastCost_81 : decode cX7_leastCost 81 = .ok (.iconst 1, 1) := by decide +kernel
theorem dX7_leastCost_82 : decode cX7_leastCost 82 = .ok (.iadd, 1) := by decide +kernel
theorem dX7_leastCost_83 : decode cX7_leastCost 83 = .ok (.iaload, 1) := by decide +kernel
theorem dX7_leastCost_84 : decode cX7_leastCost 84 = .ok (.invokestatic 24, 3) := by decide +kernel
theorem dX7_leastCost_87 : decode cX7_leastCost 87 = .ok (.iadd, 1) := by decide +kernel
theorem dX7_leastCost_88 : decode cX7_leastCost 88 = .ok (.istore 6, 2) := by decide +kernel
theorem dX7_leastCost_90 : decode cX7_leastCost 90 = .ok (.aload_n 0, 1) := by decide +kernel
theorem dX7_leastCost_91 : decode cX7_leastCost 91 = .ok (.aload_n 1, 1) := by decide +kernel
theorem dX7_leastCost_92 : decode cX7_leastCost 92 = .ok (.aload_n 2, 1) := by decide +kernel
theorem dX7_leastCost_93 : decode cX7_leastCost 93 = .ok (.iload_n 3, 1) := by decide +kernel
theorem dX7_leastCost_94 : decode cX7_leastCost 94 = .ok (.iload 4, 2) := by decide +kernel
theorem dX7_leastCost_96 : decode cX7_leastCost 96 = .ok (.invokevirtual 30, 3) := by decide +kernel
theorem dX7_leastCost_99 : decode cX7_leastCost 99 = .ok (.iload 6, 2) := by decide +kernel
theorem dX7_leastCost_101 : decode cX7_leastCost 101 = .ok (.invokestatic 24, 3) := by decide +kernel
theorem dX7_leastCost_104 : decode cX7_leastCost 104 = .ok (.istore 5, 2) := by decide +kernel
theorem dX7_leastCost_106 : decode cX7_leastCost 106 = .ok (.aload_n 0, 1) := by decide +kernel
theorem dX7_leastCost_107 : decode cX7_leastCost 107 = .ok (.getfield 11, 3) := by decide +kernel
theorem dX7_leastCost_110 : decode cX7_leastCost 110 = .ok (.iload_n 3, 1) := by decide +kernel
theorem dX7_leastCost_111 : decode cX7_leastCost 111 = .ok (.bipush 9, 2) := by decide +kernel
theorem dX7_leastCost_113 : decode cX7_leastCost 113 = .ok (.imul, 1) := by decide +kernel
theorem dX7_leastCost_114 : decode cX7_leastCost 114 = .ok (.iload 4, 2) := by decide +kernel
theorem dX7_leastCost_116 : decode cX7_leastCost 116 = .ok (.iadd, 1) := by decide +kernel
theorem dX7_leastCost_117 : decode cX7_leastCost 117 = .ok (.iload 5, 2) := by decide +kernel
theorem dX7_leastCost_119 : decode cX7_leastCost 119 = .ok (.iastore, 1) := by decide +kernel
theorem dX7_leastCost_120 : decode cX7_leastCost 120 = .ok (.iinc 4 (-1), 3) := by decide +kernel
theorem dX7_leastCost_123 : decode cX7_leastCost 123 = .ok (.goto (-108), 3) := by decide +kernel
theorem dX7_leastCost_126 : decode cX7_leastCost 126 = .ok (.iinc 3 (-1), 3) := by decide +kernel
theorem dX7_leastCost_129 : decode cX7_leastCost 129 = .ok (.goto (-124), 3) := by decide +kernel
theorem dX7_leastCost_132 : decode cX7_leastCost 132 = .ok (.aload_n 0, 1) := by decide +kernel
theorem dX7_leastCost_133 : decode cX7_leastCost 133 = .ok (.getfield 11, 3) := by decide +kernel
theorem dX7_leastCost_136 : decode cX7_leastCost 136 = .ok (.iconst 0, 1) := by decide +kernel
theorem dX7_leastCost_137 : decode cX7_leastCost 137 = .ok (.iaload, 1) := by decide +kernel
theorem dX7_leastCost_138 : decode cX7_leastCost 138 = .ok (.ireturn, 1) := by decide +kernel
theorem dX7_costOfBoth_0 : decode cX7_costOfBoth 0 = .ok (.aload_n 1, 1) := by decide +kernel
theorem dX7_costOfBoth_1 : decode cX7_costOfBoth 1 = .ok (.getfield 34, 3) := by decide +kernel
theorem dX7_costOfBoth_4 : decode cX7_costOfBoth 4 = .ok (.iload_n 3, 1) := by decide +kernel
theorem dX7_costOfBoth_5 : decode cX7_costOfBoth 5 = .ok (.iaload, 1) := by decide +kernel
theorem dX7_costOfBoth_6 : decode cX7_costOfBoth 6 = .ok (.istore 5, 2) := by decide +kernel
theorem dX7_costOfBoth_8 : decode cX7_costOfBoth 8 = .ok (.aload_n 2, 1) := by decide +kernel
theorem dX7_costOfBoth_9 : decode cX7_costOfBoth 9 = .ok (.getfield 34, 3) := by decide +kernel
theorem dX7_costOfBoth_12 : decode cX7_costOfBoth 12 = .ok (.iload 4, 2) := by decide +kernel
theorem dX7_costOfBoth_14 : decode cX7_costOfBoth 14 = .ok (.iaload, 1) := by decide +kernel
theorem dX7_costOfBoth_15 : decode cX7_costOfBoth 15 = .ok (.istore 6, 2) := by decide +kernel
theorem dX7_costOfBoth_17 : decode cX7_costOfBoth 17 = .ok (.aload_n 0, 1) := by decide +kernel
theorem dX7_costOfBoth_18 : decode cX7_costOfBoth 18 = .ok (.getfield 11, 3) := by decide +kernel
theorem dX7_costOfBoth_21 : decode cX7_costOfBoth 21 = .ok (.iload_n 3, 1) := by decide +kernel
theorem dX7_costOfBoth_22 : decode cX7_costOfBoth 22 = .ok (.iconst 1, 1) := by decide +kernel
theorem dX7_costOfBoth_23 : decode cX7_costOfBoth 23 = .ok (.iadd, 1) := by decide +kernel
theorem dX7_costOfBoth_24 : decode cX7_costOfBoth 24 = .ok (.bipush 9, 2) := by decide +kernel
theorem dX7_costOfBoth_26 : decode cX7_costOfBoth 26 = .ok (.imul, 1) := by decide +kernel
theorem dX7_costOfBoth_27 : decode cX7_costOfBoth 27 = .ok (.iload 4, 2) := by decide +kernel
theorem dX7_costOfBoth_29 : decode cX7_costOfBoth 29 = .ok (.iadd, 1) := by decide +kernel
theorem dX7_costOfBoth_30 : decode cX7_costOfBoth 30 = .ok (.iconst 1, 1) := by decide +kernel
theorem dX7_costOfBoth_31 : decode cX7_costOfBoth 31 = .ok (.iadd, 1) := by decide +kernel
theorem dX7_costOfBoth_32 : decode cX7_costOfBoth 32 = .ok (.iaload, 1) := by decide +kernel
theorem dX7_costOfBoth_33 : decode cX7_costOfBoth 33 = .ok (.istore 7, 2) := by decide +kernel
theorem dX7_costOfBoth_35 : decode cX7_costOfBoth 35 = .ok (.iload 5, 2) := by decide +kernel
theorem dX7_costOfBoth_37 : decode cX7_costOfBoth 37 = .ok (.iload 6, 2) := by decide +kernel
theorem dX7_costOfBoth_39 : decode cX7_costOfBoth 39 = .ok (.if_icmp .ne 6, 3) := by decide +kernel
theorem dX7_costOfBoth_42 : decode cX7_costOfBoth 42 = .ok (.iload 7, 2) := by decide +kernel
theorem dX7_costOfBoth_44 : decode cX7_costOfBoth 44 = .ok (.ireturn, 1) := by decide +kernel
theorem dX7_costOfBoth_45 : decode cX7_costOfBoth 45 = .ok (.iload 7, 2) := by decide +kernel
theorem dX7_costOfBoth_47 : decode cX7_costOfBoth 47 = .ok (.iload 5, 2) := by decide +kernel
theorem dX7_costOfBoth_49 : decode cX7_costOfBoth 49 = .ok (.invokestatic 37, 3) := by decide +kernel
theorem dX7_costOfBoth_52 : decode cX7_costOfBoth 52 = .ok (.iload 6, 2) := by decide +kernel
theorem dX7_costOfBoth_54 : decode cX7_costOfBoth 54 = .ok (.invokestatic 37, 3) := by decide +kernel
theorem dX7_costOfBoth_57 : decode cX7_costOfBoth 57 = .ok (.if_icmp .ne 7, 3) := by decide +kernel
theorem dX7_costOfBoth_60 : decode cX7_costOfBoth 60 = .ok (.iconst 1, 1) := by decide +kernel
theorem dX7_costOfBoth_61 : decode cX7_costOfBoth 61 = .ok (.goto 4, 3) := by decide +kernel
theorem dX7_costOfBoth_64 : decode cX7_costOfBoth 64 = .ok (.iconst 3, 1) := by decide +kernel
theorem dX7_costOfBoth_65 : decode cX7_costOfBoth 65 = .ok (.iadd, 1) := by decide +kernel
theorem dX7_costOfBoth_66 : decode cX7_costOfBoth 66 = .ok (.ireturn, 1) := by decide +kernel
theorem dX7_lay_0 : decode cX7_lay 0 = .ok (.aload_n 0, 1) := by decide +kernel
theorem dX7_lay_1 : decode cX7_lay 1 = .ok (.aload_n 1, 1) := by decide +kernel
theorem dX7_lay_2 : decode cX7_lay 2 = .ok (.aload_n 2, 1) := by decide +kernel
theorem dX7_lay_3 : decode cX7_lay 3 = .ok (.invokevirtual 41, 3) := by decide +kernel
theorem dX7_lay_6 : decode cX7_lay 6 = .ok (.pop, 1) := by decide +kernel
theorem dX7_lay_7 : decode cX7_lay 7 = .ok (.iconst 0, 1) := by decide +kernel
theorem dX7_lay_8 : decode cX7_lay 8 = .ok (.istore_n 3, 1) := by decide +kernel
theorem dX7_lay_9 : decode cX7_lay 9 = .ok (.iconst 0, 1) := by decide +kernel
theorem dX7_lay_10 : decode cX7_lay 10 = .ok (.istore 4, 2) := by decide +kernel
theorem dX7_lay_12 : decode cX7_lay 12 = .ok (.aload_n 0, 1) := by decide +kernel
theorem dX7_lay_13 : decode cX7_lay 13 = .ok (.iconst 0, 1) := by decide +kernel
theorem dX7_lay_14 : decode cX7_lay 14 = .ok (.putfield 45, 3) := by decide +kernel
theorem dX7_lay_17 : decode cX7_lay 17 = .ok (.aload_n 0, 1) := by decide +kernel
theorem dX7_lay_18 : decode cX7_lay 18 = .ok (.getfield 45, 3) := by decide +kernel
theorem dX7_lay_21 : decode cX7_lay 21 = .ok (.bipush 16, 2) := by decide +kernel
theorem dX7_lay_23 : decode cX7_lay 23 = .ok (.if_icmp .ge 202, 3) := by decide +kernel
theorem dX7_lay_26 : decode cX7_lay 26 = .ok (.iload_n 3, 1) := by decide +kernel
theorem dX7_lay_27 : decode cX7_lay 27 = .ok (.aload_n 1, 1) := by decide +kernel
theorem dX7_lay_28 : decode cX7_lay 28 = .ok (.getfield 18, 3) := by decide +kernel
theorem dX7_lay_31 : decode cX7_lay 31 = .ok (.if_icmp .lt 12, 3) := by decide +kernel
theorem dX7_lay_34 : decode cX7_lay 34 = .ok (.iload 4, 2) := by decide +kernel
theorem dX7_lay_36 : decode cX7_lay 36 = .ok (.aload_n 2, 1) := by decide +kernel
theorem dX7_lay_37 : decode cX7_lay 37 = .ok (.getfield 18, 3) := by decide +kernel
theorem dX7_lay_40 : decode cX7_lay 40 = .ok (.if_icmp .ge 185, 3) := by decide +kernel
theorem dX7_lay_43 : decode cX7_lay 43 = .ok (.aload_n 0, 1) := by decide +kernel
theorem dX7_lay_44 : decode cX7_lay 44 = .ok (.getfield 11, 3) := by decide +kernel
theorem dX7_lay_47 : decode cX7_lay 47 = .ok (.iload_n 3, 1) := by decide +kernel
theorem dX7_lay_48 : decode cX7_lay 48 = .ok (.bipush 9, 2) := by decide +kernel
theorem dX7_lay_50 : decode cX7_lay 50 = .ok (.imul, 1) := by decide +kernel
theorem dX7_lay_51 : decode cX7_lay 51 = .ok (.iload 4, 2) := by decide +kernel
theorem dX7_lay_53 : decode cX7_lay 53 = .ok (.iadd, 1) := by decide +kernel
theorem dX7_lay_54 : decode cX7_lay 54 = .ok (.iaload, 1) := by decide +kernel
theorem dX7_lay_55 : decode cX7_lay 55 = .ok (.istore 5, 2) := by decide +kernel
theorem dX7_lay_57 : decode cX7_lay 57 = .ok (.iload_n 3, 1) := by decide +kernel
theorem dX7_lay_58 : decode cX7_lay 58 = .ok (.aload_n 1, 1) := by decide +kernel
theorem dX7_lay_59 : decode cX7_lay 59 = .ok (.getfield 18, 3) := by decide +kernel
theorem dX7_lay_62 : decode cX7_lay 62 = .ok (.if_icmp .ge 65, 3) := by decide +kernel
theorem dX7_lay_65 : decode cX7_lay 65 = .ok (.iload 4, 2) := by decide +kernel
theorem dX7_lay_67 : decode cX7_lay 67 = .ok (.aload_n 2, 1) := by decide +kernel
theorem dX7_lay_68 : decode cX7_lay 68 = .ok (.getfield 18, 3) := by decide +kernel
theorem dX7_lay_71 : decode cX7_lay 71 = .ok (.if_icmp .ge 56, 3) := by decide +kernel
theorem dX7_lay_74 : decode cX7_lay 74 = .ok (.aload_n 0, 1) := by decide +kernel
theorem dX7_lay_75 : decode cX7_lay 75 = .ok (.aload_n 1, 1) := by decide +kernel
theorem dX7_lay_76 : decode cX7_lay 76 = .ok (.aload_n 2, 1) := by decide +kernel
theorem dX7_lay_77 : decode cX7_lay 77 = .ok (.iload_n 3, 1) := by decide +kernel
theorem dX7_lay_78 : decode cX7_lay 78 = .ok (.iload 4, 2) := by decide +kernel
theorem dX7_lay_80 : decode cX7_lay 80 = .ok (.invokevirtual 30, 3) := by decide +kernel
theorem dX7_lay_83 : decode cX7_lay 83 = .ok (.iload 5, 2) := by decide +kernel
theorem dX7_lay_85 : decode cX7_lay 85 = .ok (.if_icmp .ne 42, 3) := by decide +kernel
theorem dX7_lay_88 : decode cX7_lay 88 = .ok (.aload_n 0, 1) := by decide +kernel
theorem dX7_lay_89 : decode cX7_lay 89 = .ok (.getfield 15, 3) := by decide +kernel
theorem dX7_lay_92 : decode cX7_lay 92 = .ok (.aload_n 0, 1) := by decide +kernel
theorem dX7_lay_93 : decode cX7_lay 93 = .ok (.getfield 45, 3) := by decide +kernel
theorem dX7_lay_96 : decode cX7_lay 96 = .ok (.bipush 100, 2) := by decide +kernel
theorem dX7_lay_98 : decode cX7_lay 98 = .ok (.aload_n 1, 1) := by decide +kernel
theorem dX7_lay_99 : decode cX7_lay 99 = .ok (.getfield 34, 3) := by decide +kernel
theorem dX7_lay_102 : decode cX7_lay 102 = .ok (.iload_n 3, 1) := by decide +kernel
theorem dX7_lay_103 : decode cX7_lay 103 = .ok (.iaload, 1) := by decide +kernel
theorem dX7_lay_104 : decode cX7_lay 104 = .ok (.iconst 1, 1) := by decide +kernel
theorem dX7_lay_105 : decode cX7_lay 105 = .ok (.iadd, 1) := by decide +kernel
theorem dX7_lay_106 : decode cX7_lay 106 = .ok (.imul, 1) := by decide +kernel
theorem dX7_lay_107 : decode cX7_lay 107 = .ok (.aload_n 2, 1) := by decide +kernel
theorem dX7_lay_108 : decode cX7_lay 108 = .ok (.getfield 34, 3) := by decide +kernel
theorem dX7_lay_111 : decode cX7_lay 111 = .ok (.iload 4, 2) := by decide +kernel
theorem dX7_lay_113 : decode cX7_lay 113 = .ok (.iaload, 1) := by decide +kernel
theorem dX7_lay_114 : decode cX7_lay 114 = .ok (.iadd, 1) := by decide +kernel
theorem dX7_lay_115 : decode cX7_lay 115 = .ok (.iconst 1, 1) := by decide +kernel
theorem dX7_lay_116 : decode cX7_lay 116 = .ok (.iadd, 1) := by decide +kernel
theorem dX7_lay_117 : decode cX7_lay 117 = .ok (.iastore, 1) := by decide +kernel
theorem dX7_lay_118 : decode cX7_lay 118 = .ok (.iinc 3 1, 3) := by decide +kernel
theorem dX7_lay_121 : decode cX7_lay 121 = .ok (.iinc 4 1, 3) := by decide +kernel
theorem dX7_lay_124 : decode cX7_lay 124 = .ok (.goto 88, 3) := by decide +kernel
theorem dX7_lay_127 : decode cX7_lay 127 = .ok (.iload_n 3, 1) := by decide +kernel
theorem dX7_lay_128 : decode cX7_lay 128 = .ok (.aload_n 1, 1) := by decide +kernel
theorem dX7_lay_129 : decode cX7_lay 129 = .ok (.getfield 18, 3) := by decide +kernel
theorem dX7_lay_132 : decode cX7_lay 132 = .ok (.if_icmp .ge 50, 3) := by decide +kernel
theorem dX7_lay_135 : decode cX7_lay 135 = .ok (.iconst 2, 1) := by decide +kernel
theorem dX7_lay_136 : decode cX7_lay 136 = .ok (.aload_n 0, 1) := by decide +kernel
theorem dX7_lay_137 : decode cX7_lay 137 = .ok (.getfield 11, 3) := by decide +kernel
theorem dX7_lay_140 : decode cX7_lay 140 = .ok (.iload_n 3, 1) := by decide +kernel
theorem dX7_lay_141 : decode cX7_lay 141 = .ok (.iconst 1, 1) := by decide +kernel
theorem dX7_lay_142 : decode cX7_lay 142 = .ok (.iadd, 1) := by decide +kernel
theorem dX7_lay_143 : decode cX7_lay 143 = .ok (.bipush 9, 2) := by decide +kernel
theorem dX7_lay_145 : decode cX7_lay 145 = .ok (.imul, 1) := by decide +kernel
theorem dX7_lay_146 : decode cX7_lay 146 = .ok (.iload 4, 2) := by decide +kernel
theorem dX7_lay_148 : decode cX7_lay 148 = .ok (.iadd, 1) := by decide +kernel
theorem dX7_lay_149 : decode cX7_lay 149 = .ok (.iaload, 1) := by decide +kernel
theorem dX7_lay_150 : decode cX7_lay 150 = .ok (.iadd, 1) := by decide +kernel
theorem dX7_lay_151 : decode cX7_lay 151 = .ok (.iload 5, 2) := by decide +kernel
theorem dX7_lay_153 : decode cX7_lay 153 = .ok (.if_icmp .ne 29, 3) := by decide +kernel
theorem dX7_lay_156 : decode cX7_lay 156 = .ok (.aload_n 0, 1) := by decide +kernel
theorem dX7_lay_157 : decode cX7_lay 157 = .ok (.getfield 15, 3) := by decide +kernel
theorem dX7_lay_160 : decode cX7_lay 160 = .ok (.aload_n 0, 1) := by decide +kernel
theorem dX7_lay_161 : decode cX7_lay 161 = .ok (.getfield 45, 3) := by decide +kernel
theorem dX7_lay_164 : decode cX7_lay 164 = .ok (.bipush 100, 2) := by decide +kernel
theorem dX7_lay_166 : decode cX7_lay 166 = .ok (.aload_n 1, 1) := by decide +kernel
theorem dX7_lay_167 : decode cX7_lay 167 = .ok (.getfield 34, 3) := by decide +kernel
theorem dX7_lay_170 : decode cX7_lay 170 = .ok (.iload_n 3, 1) := by decide +kernel
theorem dX7_lay_171 : decode cX7_lay 171 = .ok (.iaload, 1) := by decide +kernel
theorem dX7_lay_172 : decode cX7_lay 172 = .ok (.iconst 1, 1) := by decide +kernel
theorem dX7_lay_173 : decode cX7_lay 173 = .ok (.iadd, 1) := by decide +kernel
theorem dX7_lay_174 : decode cX7_lay 174 = .ok (.imul, 1) := by decide +kernel
theorem dX7_lay_175 : decode cX7_lay 175 = .ok (.iastore, 1) := by decide +kernel
theorem dX7_lay_176 : decode cX7_lay 176 = .ok (.iinc 3 1, 3) := by decide +kernel
theorem dX7_lay_179 : decode cX7_lay 179 = .ok (.goto 33, 3) := by decide +kernel
theorem dX7_lay_182 : decode cX7_lay 182 = .ok (.iload 4, 2) := by decide +kernel
theorem dX7_lay_184 : decode cX7_lay 184 = .ok (.aload_n 2, 1) := by decide +kernel
theorem dX7_lay_185 : decode cX7_lay 185 = .ok (.getfield 18, 3) := by decide +kernel
theorem dX7_lay_188 : decode cX7_lay 188 = .ok (.if_icmp .ge 24, 3) := by decide +kernel
theorem dX7_lay_191 : decode cX7_lay 191 = .ok (.aload_n 0, 1) := by decide +kernel
theorem dX7_lay_192 : decode cX7_lay 192 = .ok (.getfield 15, 3) := by decide +kernel
theorem dX7_lay_195 : decode cX7_lay 195 = .ok (.aload_n 0, 1) := by decide +kernel
theorem dX7_lay_196 : decode cX7_lay 196 = .ok (.getfield 45, 3) := by decide +kernel
theorem dX7_lay_199 : decode cX7_lay 199 = .ok (.aload_n 2, 1) := by decide +kernel
theorem dX7_lay_200 : decode cX7_lay 200 = .ok (.getfield 34, 3) := by decide +kernel
theorem dX7_lay_203 : decode cX7_lay 203 = .ok (.iload 4, 2) := by decide +kernel
theorem dX7_lay_205 : decode cX7_lay 205 = .ok (.iaload, 1) := by decide +kernel
theorem dX7_lay_206 : decode cX7_lay 206 = .ok (.iconst 1, 1) := by decide +kernel
theorem dX7_lay_207 : decode cX7_lay 207 = .ok (.iadd, 1) := by decide +kernel
theorem dX7_lay_208 : decode cX7_lay 208 = .ok (.iastore, 1) := by decide +kernel
theorem dX7_lay_209 : decode cX7_lay 209 = .ok (.iinc 4 1, 3) := by decide +kernel
theorem dX7_lay_212 : decode cX7_lay 212 = .ok (.aload_n 0, 1) := by decide +kernel
theorem dX7_lay_213 : decode cX7_lay 213 = .ok (.dup, 1) := by decide +kernel
theorem dX7_lay_214 : decode cX7_lay 214 = .ok (.getfield 45, 3) := by decide +kernel
theorem dX7_lay_217 : decode cX7_lay 217 = .ok (.iconst 1, 1) := by decide +kernel
theorem dX7_lay_218 : decode cX7_lay 218 = .ok (.iadd, 1) := by decide +kernel
theorem dX7_lay_219 : decode cX7_lay 219 = .ok (.putfield 45, 3) := by decide +kernel
theorem dX7_lay_222 : decode cX7_lay 222 = .ok (.goto (-205), 3) := by decide +kernel
theorem dX7_lay_225 : decode cX7_lay 225 = .ok (.return_, 1) := by decide +kernel
theorem dX7_hasPair_0 : decode cX7_hasPair 0 = .ok (.iconst 0, 1) := by decide +kernel
theorem dX7_hasPair_1 : decode cX7_hasPair 1 = .ok (.istore_n 2, 1) := by decide +kernel
theorem dX7_hasPair_2 : decode cX7_hasPair 2 = .ok (.iload_n 2, 1) := by decide +kernel
theorem dX7_hasPair_3 : decode cX7_hasPair 3 = .ok (.aload_n 0, 1) := by decide +kernel
theorem dX7_hasPair_4 : decode cX7_hasPair 4 = .ok (.getfield 45, 3) := by decide +kernel
theorem dX7_hasPair_7 : decode cX7_hasPair 7 = .ok (.if_icmp .ge 21, 3) := by decide +kernel
theorem dX7_hasPair_10 : decode cX7_hasPair 10 = .ok (.aload_n 0, 1) := by decide +kernel
theorem dX7_hasPair_11 : decode cX7_hasPair 11 = .ok (.getfield 15, 3) := by decide +kernel
theorem dX7_hasPair_14 : decode cX7_hasPair 14 = .ok (.iload_n 2, 1) := by decide +kernel
theorem dX7_hasPair_15 : decode cX7_hasPair 15 = .ok (.iaload, 1) := by decide +kernel
theorem dX7_hasPair_16 : decode cX7_hasPair 16 = .ok (.iload_n 1, 1) := by decide +kernel
theorem dX7_hasPair_17 : decode cX7_hasPair 17 = .ok (.if_icmp .ne 5, 3) := by decide +kernel
theorem dX7_hasPair_20 : decode cX7_hasPair 20 = .ok (.iconst 1, 1) := by decide +kernel
theorem dX7_hasPair_21 : decode cX7_hasPair 21 = .ok (.ireturn, 1) := by decide +kernel
theorem dX7_hasPair_22 : decode cX7_hasPair 22 = .ok (.iinc 2 1, 3) := by decide +kernel
theorem dX7_hasPair_25 : decode cX7_hasPair 25 = .ok (.goto (-23), 3) := by decide +kernel
theorem dX7_hasPair_28 : decode cX7_hasPair 28 = .ok (.iconst 0, 1) := by decide +kernel
theorem dX7_hasPair_29 : decode cX7_hasPair 29 = .ok (.ireturn, 1) := by decide +kernel
theorem dX8_init_0 : decode cX8_init 0 = .ok (.aload_n 0, 1) := by decide +kernel
theorem dX8_init_1 : decode cX8_init 1 = .ok (.iload_n 1, 1) := by decide +kernel
theorem dX8_init_2 : decode cX8_init 2 = .ok (.iload_n 2, 1) := by decide +kernel
theorem dX8_init_3 : decode cX8_init 3 = .ok (.iload_n 3, 1) := by decide +kernel
theorem dX8_init_4 : decode cX8_init 4 = .ok (.iload 4, 2) := by decide +kernel
theorem dX8_init_6 : decode cX8_init 6 = .ok (.iload 5, 2) := by decide +kernel
theorem dX8_init_8 : decode cX8_init 8 = .ok (.invokespecial 1, 3) := by decide +kernel
theorem dX8_init_11 : decode cX8_init 11 = .ok (.return_, 1) := by decide +kernel
theorem dX8_kindNumber_0 : decode cX8_kindNumber 0 = .ok (.iconst 1, 1) := by decide +kernel
theorem dX8_kindNumber_1 : decode cX8_kindNumber 1 = .ok (.ireturn, 1) := by decide +kernel
theorem dX8_tells_0 : decode cX8_tells 0 = .ok (.aload_n 0, 1) := by decide +kernel
theorem dX8_tells_1 : decode cX8_tells 1 = .ok (.bipush 11, 2) := by decide +kernel
theorem dX8_tells_3 : decode cX8_tells 3 = .ok (.invokevirtual 7, 3) := by decide +kernel
theorem dX8_tells_6 : decode cX8_tells 6 = .ok (.aload_n 0, 1) := by decide +kernel
theorem dX8_tells_7 : decode cX8_tells 7 = .ok (.iload_n 1, 1) := by decide +kernel
theorem dX8_tells_8 : decode cX8_tells 8 = .ok (.iconst 3, 1) := by decide +kernel
theorem dX8_tells_9 : decode cX8_tells 9 = .ok (.imul, 1) := by decide +kernel
theorem dX8_tells_10 : decode cX8_tells 10 = .ok (.invokespecial 13, 3) := by decide +kernel
theorem dX8_tells_13 : decode cX8_tells 13 = .ok (.ireturn, 1) := by decide +kernel
theorem dX9_init_0 : decode cX9_init 0 = .ok (.aload_n 0, 1) := by decide +kernel
theorem dX9_init_1 : decode cX9_init 1 = .ok (.iload_n 1, 1) := by decide +kernel
theorem dX9_init_2 : decode cX9_init 2 = .ok (.iload_n 2, 1) := by decide +kernel
theorem dX9_init_3 : decode cX9_init 3 = .ok (.iload_n 3, 1) := by decide +kernel
theorem dX9_init_4 : decode cX9_init 4 = .ok (.iload 4, 2) := by decide +kernel
theorem dX9_init_6 : decode cX9_init 6 = .ok (.iload 5, 2) := by decide +kernel
theorem dX9_init_8 : decode cX9_init 8 = .ok (.invokespecial 1, 3) := by decide +kernel
theorem dX9_init_11 : decode cX9_init 11 = .ok (.return_, 1) := by decide +kernel
theorem dX9_kindNumber_0 : decode cX9_kindNumber 0 = .ok (.iconst 3, 1) := by decide +kernel
theorem dX9_kindNumber_1 : decode cX9_kindNumber 1 = .ok (.ireturn, 1) := by decide +kernel
theorem dX9_marks_0 : decode cX9_marks 0 = .ok (.aload_n 0, 1) := by decide +kernel
theorem dX9_marks_1 : decode cX9_marks 1 = .ok (.bipush 31, 2) := by decide +kernel
theorem dX9_marks_3 : decode cX9_marks 3 = .ok (.invokevirtual 7, 3) := by decide +kernel
theorem dX9_marks_6 : decode cX9_marks 6 = .ok (.aload_n 0, 1) := by decide +kernel
theorem dX9_marks_7 : decode cX9_marks 7 = .ok (.iload_n 1, 1) := by decide +kernel
theorem dX9_marks_8 : decode cX9_marks 8 = .ok (.invokespecial 13, 3) := by decide +kernel
theorem dX9_marks_11 : decode cX9_marks 11 = .ok (.ineg, 1) := by decide +kernel
theorem dX9_marks_12 : decode cX9_marks 12 = .ok (.ireturn, 1) := by decide +kernel
theorem dX10_init_0 : decode cX10_init 0 = .ok (.aload_n 0, 1) := by decide +kernel
theorem dX10_init_1 : decode cX10_init 1 = .ok (.invokespecial 3, 3) := by decide +kernel
theorem dX10_init_4 : decode cX10_init 4 = .ok (.aload_n 0, 1) := by decide +kernel
theorem dX10_init_5 : decode cX10_init 5 = .ok (.bipush 8, 2) := by decide +kernel
theorem dX10_init_7 : decode cX10_init 7 = .ok (.newarray .int, 2) := by decide +kernel
theorem dX10_init_9 : decode cX10_init 9 = .ok (.putfield 9, 3) := by decide +kernel
theorem dX10_init_12 : decode cX10_init 12 = .ok (.return_, 1) := by decide +kernel
theorem dX10_readSounds_0 : decode cX10_readSounds 0 = .ok (.aload_n 0, 1) := by decide +kernel
theorem dX10_readSounds_1 : decode cX10_readSounds 1 = .ok (.iload_n 2, 1) := by decide +kernel
theorem dX10_readSounds_2 : decode cX10_readSounds 2 = .ok (.bipush 8, 2) := by decide +kernel
theorem dX10_readSounds_4 : decode cX10_readSounds 4 = .ok (.invokestatic 15, 3) := by decide +kernel
theorem dX10_readSounds_7 : decode cX10_readSounds 7 = .ok (.putfield 21, 3) := by decide +kernel
theorem dX10_readSounds_10 : decode cX10_readSounds 10 = .ok (.iconst 0, 1) := by decide +kernel
theorem dX10_readSounds_11 : decode cX10_readSounds 11 = .ok (.istore_n 3, 1) := by decide +kernel
theorem dX10_readSounds_12 : decode cX10_readSounds 12 = .ok (.iload_n 3, 1) := by decide +kernel
theorem dX10_readSounds_13 : decode cX10_readSounds 13 = .ok (.aload_n 0, 1) := by decide +kernel
theorem dX10_readSounds_14 : decode cX10_readSounds 14 = .ok (.getfield 21, 3) := by decide +kernel
theorem dX10_readSounds_17 : decode cX10_readSounds 17 = .ok (.if_icmp .ge 21, 3) := by decide +kernel
theorem dX10_readSounds_20 : decode cX10_readSounds 20 = .ok (.aload_n 0, 1) := by decide +kernel
theorem dX10_readSounds_21 : decode cX10_readSounds 21 = .ok (.getfield 9, 3) := by decide +kernel
theorem dX10_readSounds_24 : decode cX10_readSounds 24 = .ok (.iload_n 3, 1) := by decide +kernel
theorem dX10_readSounds_25 : decode cX10_readSounds 25 = .ok (.aload_n 1, 1) := by decide +kernel
theorem dX10_readSounds_26 : decode cX10_readSounds 26 = .ok (.iload_n 3, 1) := by decide +kernel
theorem dX10_readSounds_27 : decode cX10_readSounds 27 = .ok (.iaload, 1) := by decide +kernel
theorem dX10_readSounds_28 : decode cX10_readSounds 28 = .ok (.bipush 97, 2) := by decide +kernel
theorem dX10_readSounds_30 : decode cX10_readSounds 30 = .ok (.isub, 1) := by decide +kernel
theorem dX10_readSounds_31 : decode cX10_readSounds 31 = .ok (.iastore, 1) := by decide +kernel
theorem dX10_readSounds_32 : decode cX10_readSounds 32 = .ok (.iinc 3 1, 3) := by decide +kernel
theorem dX10_readSounds_35 : decode cX10_readSounds 35 = .ok (.goto (-23), 3) := by decide +kernel
theorem dX10_readSounds_38 : decode cX10_readSounds 38 = .ok (.return_, 1) := by decide +kernel
theorem dX10_copySounds_0 : decode cX10_copySounds 0 = .ok (.aload_n 0, 1) := by decide +kernel
theorem dX10_copySounds_1 : decode cX10_copySounds 1 = .ok (.aload_n 1, 1) := by decide +kernel
theorem dX10_copySounds_2 : decode cX10_copySounds 2 = .ok (.getfield 21, 3) := by decide +kernel
theorem dX10_copySounds_5 : decode cX10_copySounds 5 = .ok (.putfield 21, 3) := by decide +kernel
theorem dX10_copySounds_8 : decode cX10_copySounds 8 = .ok (.aload_n 1, 1) := by decide +kernel
theorem dX10_copySounds_9 : decode cX10_copySounds 9 = .ok (.getfield 9, 3) := by decide +kernel
theorem dX10_copySounds_12 : decode cX10_copySounds 12 = .ok (.iconst 0, 1) := by decide +kernel
theorem dX10_copySounds_13 : decode cX10_copySounds 13 = .ok (.aload_n 0, 1) := by decide +kernel
theorem dX10_copySounds_14 : decode cX10_copySounds 14 = .ok (.getfield 9, 3) := by decide +kernel
theorem dX10_copySounds_17 : decode cX10_copySounds 17 = .ok (.iconst 0, 1) := by decide +kernel
theorem dX10_copySounds_18 : decode cX10_copySounds 18 = .ok (.bipush 8, 2) := by decide +kernel
theorem dX10_copySounds_20 : decode cX10_copySounds 20 = .ok (.invokestatic 25, 3) := by decide +kernel
theorem dX10_copySounds_23 : decode cX10_copySounds 23 = .ok (.return_, 1) := by decide +kernel
theorem dX10_hasSoundsOf_0 : decode cX10_hasSoundsOf 0 = .ok (.aload_n 0, 1) := by decide +kernel
theorem dX10_hasSoundsOf_1 : decode cX10_hasSoundsOf 1 = .ok (.getfield 21, 3) := by decide +kernel
theorem dX10_hasSoundsOf_4 : decode cX10_hasSoundsOf 4 = .ok (.aload_n 1, 1) := by decide +kernel
theorem dX10_hasSoundsOf_5 : decode cX10_hasSoundsOf 5 = .ok (.getfield 21, 3) := by decide +kernel
theorem dX10_hasSoundsOf_8 : decode cX10_hasSoundsOf 8 = .ok (.if_icmp .eq 5, 3) := by decide +kernel
theorem dX10_hasSoundsOf_11 : decode cX10_hasSoundsOf 11 = .ok (.iconst 0, 1) := by decide +kernel
theorem dX10_hasSoundsOf_12 : decode cX10_hasSoundsOf 12 = .ok (.ireturn, 1) := by decide +kernel
theorem dX10_hasSoundsOf_13 : decode cX10_hasSoundsOf 13 = .ok (.iconst 0, 1) := by decide +kernel
theorem dX10_hasSoundsOf_14 : decode cX10_hasSoundsOf 14 = .ok (.istore_n 2, 1) := by decide +kernel
theorem dX10_hasSoundsOf_15 : decode cX10_hasSoundsOf 15 = .ok (.iload_n 2, 1) := by decide +kernel
theorem dX10_hasSoundsOf_16 : decode cX10_hasSoundsOf 16 = .ok (.aload_n 0, 1) := by decide +kernel
theorem dX10_hasSoundsOf_17 : decode cX10_hasSoundsOf 17 = .ok (.getfield 21, 3) := by decide +kernel
theorem dX10_hasSoundsOf_20 : decode cX10_hasSoundsOf 20 = .ok (.if_icmp .ge 26, 3) := by decide +kernel
theorem dX10_hasSoundsOf_23 : decode cX10_hasSoundsOf 23 = .ok (.aload_n 0, 1) := by decide +kernel
theorem dX10_hasSoundsOf_24 : decode cX10_hasSoundsOf 24 = .ok (.getfield 9, 3) := by decide +kernel
theorem dX10_hasSoundsOf_27 : decode cX10_hasSoundsOf 27 = .ok (.iload_n 2, 1) := by decide +kernel
theorem dX10_hasSoundsOf_28 : decode cX10_hasSoundsOf 28 = .ok (.iaload, 1) := by decide +kernel
theorem dX10_hasSoundsOf_29 : decode cX10_hasSoundsOf 29 = .ok (.aload_n 1, 1) := by decide +kernel
theorem dX10_hasSoundsOf_30 : decode cX10_hasSoundsOf 30 = .ok (.getfield 9, 3) := by decide +kernel
theorem dX10_hasSoundsOf_33 : decode cX10_hasSoundsOf 33 = .ok (.iload_n 2, 1) := by decide +kernel
theorem dX10_hasSoundsOf_34 : decode cX10_hasSoundsOf 34 = .ok (.iaload, 1) := by decide +kernel
theorem dX10_hasSoundsOf_35 : decode cX10_hasSoundsOf 35 = .ok (.if_icmp .eq 5, 3) := by decide +kernel
theorem dX10_hasSoundsOf_38 : decode cX10_hasSoundsOf 38 = .ok (.iconst 0, 1) := by decide +kernel
theorem dX10_hasSoundsOf_39 : decode cX10_hasSoundsOf 39 = .ok (.ireturn, 1) := by decide +kernel
theorem dX10_hasSoundsOf_40 : decode cX10_hasSoundsOf 40 = .ok (.iinc 2 1, 3) := by decide +kernel
theorem dX10_hasSoundsOf_43 : decode cX10_hasSoundsOf 43 = .ok (.goto (-28), 3) := by decide +kernel
theorem dX10_hasSoundsOf_46 : decode cX10_hasSoundsOf 46 = .ok (.iconst 1, 1) := by decide +kernel
theorem dX10_hasSoundsOf_47 : decode cX10_hasSoundsOf 47 = .ok (.ireturn, 1) := by decide +kernel
theorem dX11_init_0 : decode cX11_init 0 = .ok (.aload_n 0, 1) := by decide +kernel
theorem dX11_init_1 : decode cX11_init 1 = .ok (.invokespecial 3, 3) := by decide +kernel
theorem dX11_init_4 : decode cX11_init 4 = .ok (.aload_n 0, 1) := by decide +kernel
theorem dX11_init_5 : decode cX11_init 5 = .ok (.bipush 80, 2) := by decide +kernel
theorem dX11_init_7 : decode cX11_init 7 = .ok (.newarray .int, 2) := by decide +kernel
theorem dX11_init_9 : decode cX11_init 9 = .ok (.putfield 9, 3) := by decide +kernel
theorem dX11_init_12 : decode cX11_init 12 = .ok (.aload_n 0, 1) := by decide +kernel
theorem dX11_init_13 : decode cX11_init 13 = .ok (.bipush 60, 2) := by decide +kernel
theorem dX11_init_15 : decode cX11_init 15 = .ok (.anewarray 13, 3) := by decide +kernel
theorem dX11_init_18 : decode cX11_init 18 = .ok (.putfield 15, 3) := by decide +kernel
theorem dX11_init_21 : decode cX11_init 21 = .ok (.aload_n 0, 1) := by decide +kernel
theorem dX11_init_22 : decode cX11_init 22 = .ok (.bipush 12, 2) := by decide +kernel
theorem dX11_init_24 : decode cX11_init 24 = .ok (.newarray .int, 2) := by decide +kernel
theorem dX11_init_26 : decode cX11_init 26 = .ok (.putfield 19, 3) := by decide +kernel
theorem dX11_init_29 : decode cX11_init 29 = .ok (.aload_n 0, 1) := by decide +kernel
theorem dX11_init_30 : decode cX11_init 30 = .ok (.bipush 12, 2) := by decide +kernel
theorem dX11_init_32 : decode cX11_init 32 = .ok (.anewarray 22, 3) := by decide +kernel
theorem dX11_init_35 : decode cX11_init 35 = .ok (.putfield 24, 3) := by decide +kernel
theorem dX11_init_38 : decode cX11_init 38 = .ok (.aload_n 0, 1) := by decide +kernel
theorem dX11_init_39 : decode cX11_init 39 = .ok (.bipush 80, 2) := by decide +kernel
theorem dX11_init_41 : decode cX11_init 41 = .ok (.anewarray 28, 3) := by decide +kernel
theorem dX11_init_44 : decode cX11_init 44 = .ok (.putfield 30, 3) := by decide +kernel
theorem dX11_init_47 : decode cX11_init 47 = .ok (.aload_n 0, 1) := by decide +kernel
theorem dX11_init_48 : decode cX11_init 48 = .ok (.bipush 12, 2) := by decide +kernel
theorem dX11_init_50 : decode cX11_init 50 = .ok (.putfield 34, 3) := by decide +kernel
theorem dX11_init_53 : decode cX11_init 53 = .ok (.aload_n 0, 1) := by decide +kernel
theorem dX11_init_54 : decode cX11_init 54 = .ok (.bipush 120, 2) := by decide +kernel
theorem dX11_init_56 : decode cX11_init 56 = .ok (.newarray .int, 2) := by decide +kernel
theorem dX11_init_58 : decode cX11_init 58 = .ok (.putfield 38, 3) := by decide +kernel
theorem dX11_init_61 : decode cX11_init 61 = .ok (.aload_n 0, 1) := by decide +kernel
theorem dX11_init_62 : decode cX11_init 62 = .ok (.new 41, 3) := by decide +kernel
theorem dX11_init_65 : decode cX11_init 65 = .ok (.dup, 1) := by decide +kernel
theorem dX11_init_66 : decode cX11_init 66 = .ok (.invokespecial 43, 3) := by decide +kernel
theorem dX11_init_69 : decode cX11_init 69 = .ok (.putfield 44, 3) := by decide +kernel
theorem dX11_init_72 : decode cX11_init 72 = .ok (.aload_n 0, 1) := by decide +kernel
theorem dX11_init_73 : decode cX11_init 73 = .ok (.new 48, 3) := by decide +kernel
theorem dX11_init_76 : decode cX11_init 76 = .ok (.dup, 1) := by decide +kernel
theorem dX11_init_77 : decode cX11_init 77 = .ok (.invokespecial 50, 3) := by decide +kernel
theorem dX11_init_80 : decode cX11_init 80 = .ok (.putfield 51, 3) := by decide +kernel
theorem dX11_init_83 : decode cX11_init 83 = .ok (.aload_n 0, 1) := by decide +kernel
theorem dX11_init_84 : decode cX11_init 84 = .ok (.new 13, 3) := by decide +kernel
theorem dX11_init_87 : decode cX11_init 87 = .ok (.dup, 1) := by decide +kernel
theorem dX11_init_88 : decode cX11_init 88 = .ok (.invokespecial 55, 3) := by decide +kernel
theorem dX11_init_91 : decode cX11_init 91 = .ok (.putfield 56, 3) := by decide +kernel
theorem dX11_init_94 : decode cX11_init 94 = .ok (.aload_n 0, 1) := by decide +kernel
theorem dX11_init_95 : decode cX11_init 95 = .ok (.new 13, 3) := by decide +kernel
theorem dX11_init_98 : decode cX11_init 98 = .ok (.dup, 1) := by decide +kernel
theorem dX11_init_99 : decode cX11_init 99 = .ok (.invokespecial 55, 3) := by decide +kernel
theorem dX11_init_102 : decode cX11_init 102 = .ok (.putfield 60, 3) := by decide +kernel
theorem dX11_init_105 : decode cX11_init 105 = .ok (.iconst 0, 1) := by decide +kernel
theorem dX11_init_106 : decode cX11_init 106 = .ok (.istore_n 1, 1) := by decide +kernel
theorem dX11_init_107 : decode cX11_init 107 = .ok (.iload_n 1, 1) := by decide +kernel
theorem dX11_init_108 : decode cX11_init 108 = .ok (.bipush 60, 2) := by decide +kernel
theorem dX11_init_110 : decode cX11_init 110 = .ok (.if_icmp .ge 22, 3) := by decide +kernel
theorem dX11_init_113 : decode cX11_init 113 = .ok (.aload_n 0, 1) := by decide +kernel
theorem dX11_init_114 : decode cX11_init 114 = .ok (.getfield 15, 3) := by decide +kernel
theorem dX11_init_117 : decode cX11_init 117 = .ok (.iload_n 1, 1) := by decide +kernel
theorem dX11_init_118 : decode cX11_init 118 = .ok (.new 13, 3) := by decide +kernel
theorem dX11_init_121 : decode cX11_init 121 = .ok (.dup, 1) := by decide +kernel
theorem dX11_init_122 : decode cX11_init 122 = .ok (.invokespecial 55, 3) := by decide +kernel
theorem dX11_init_125 : decode cX11_init 125 = .ok (.aastore, 1) := by decide +kernel
theorem dX11_init_126 : decode cX11_init 126 = .ok (.iinc 1 1, 3) := by decide +kernel
theorem dX11_init_129 : decode cX11_init 129 = .ok (.goto (-22), 3) := by decide +kernel
theorem dX11_init_132 : decode cX11_init 132 = .ok (.iconst 0, 1) := by decide +kernel
theorem dX11_init_133 : decode cX11_init 133 = .ok (.istore_n 1, 1) := by decide +kernel
theorem dX11_init_134 : decode cX11_init 134 = .ok (.iload_n 1, 1) := by decide +kernel
theorem dX11_init_135 : decode cX11_init 135 = .ok (.bipush 12, 2) := by decide +kernel
theorem dX11_init_137 : decode cX11_init 137 = .ok (.if_icmp .ge 22, 3) := by decide +kernel
theorem dX11_init_140 : decode cX11_init 140 = .ok (.aload_n 0, 1) := by decide +kernel
theorem dX11_init_141 : decode cX11_init 141 = .ok (.getfield 24, 3) := by decide +kernel
theorem dX11_init_144 : decode cX11_init 144 = .ok (.iload_n 1, 1) := by decide +kernel
theorem dX11_init_145 : decode cX11_init 145 = .ok (.new 22, 3) := by decide +kernel
theorem dX11_init_148 : decode cX11_init 148 = .ok (.dup, 1) := by decide +kernel
theorem dX11_init_149 : decode cX11_init 149 = .ok (.invokespecial 63, 3) := by decide +kernel
theorem dX11_init_152 : decode cX11_init 152 = .ok (.aastore, 1) := by decide +kernel
theorem dX11_init_153 : decode cX11_init 153 = .ok (.iinc 1 1, 3) := by decide +kernel
theorem dX11_init_156 : decode cX11_init 156 = .ok (.goto (-22), 3) := by decide +kernel
theorem dX11_init_159 : decode cX11_init 159 = .ok (.return_, 1) := by decide +kernel
theorem dX11_tongue_0 : decode cX11_tongue 0 = .ok (.aload_n 0, 1) := by decide +kernel
theorem dX11_tongue_1 : decode cX11_tongue 1 = .ok (.getfield 64, 3) := by decide +kernel
theorem dX11_tongue_4 : decode cX11_tongue 4 = .ok (.bipush 6, 2) := by decide +kernel
theorem dX11_tongue_6 : decode cX11_tongue 6 = .ok (.if_icmp .lt 6, 3) := by decide +kernel
theorem dX11_tongue_9 : decode cX11_tongue 9 = .ok (.bipush (-4), 2) := by decide +kernel
theorem dX11_tongue_11 : decode cX11_tongue 11 = .ok (.ireturn, 1) := by decide +kernel
theorem dX11_tongue_12 : decode cX11_tongue 12 = .ok (.aload_n 0, 1) := by decide +kernel
theorem dX11_tongue_13 : decode cX11_tongue 13 = .ok (.bipush (-5), 2) := by decide +kernel
theorem dX11_tongue_15 : decode cX11_tongue 15 = .ok (.bipush (-5), 2) := by decide +kernel
theorem dX11_tongue_17 : decode cX11_tongue 17 = .ok (.invokevirtual 67, 3) := by decide +kernel
theorem dX11_tongue_20 : decode cX11_tongue 20 = .ok (.ireturn, 1) := by decide +kernel
theorem dX11_years_0 : decode cX11_years 0 = .ok (.iload_n 1, 1) := by decide +kernel
theorem dX11_years_1 : decode cX11_years 1 = .ok (.iconst 1, 1) := by decide +kernel
theorem dX11_years_2 : decode cX11_years 2 = .ok (.if_icmp .lt 22, 3) := by decide +kernel
theorem dX11_years_5 : decode cX11_years 5 = .ok (.iload_n 1, 1) := by decide +kernel
theorem dX11_years_6 : decode cX11_years 6 = .ok (.sipush 500, 3) := by decide +kernel
theorem dX11_years_9 : decode cX11_years 9 = .ok (.if_icmp .gt 15, 3) := by decide +kernel
theorem dX11_years_12 : decode cX11_years 12 = .ok (.aload_n 0, 1) := by decide +kernel
theorem dX11_years_13 : decode cX11_years 13 = .ok (.getfield 71, 3) := by decide +kernel
theorem dX11_years_16 : decode cX11_years 16 = .ok (.iload_n 1, 1) := by decide +kernel
theorem dX11_years_17 : decode cX11_years 17 = .ok (.iadd, 1) := by decide +kernel
theorem dX11_years_18 : decode cX11_years 18 = .ok (.sipush 9999, 3) := by decide +kernel
theorem dX11_years_21 : decode cX11_years 21 = .ok (.if_icmp .le 6, 3) := by decide +kernel
theorem dX11_years_24 : decode cX11_years 24 = .ok (.bipush (-2), 2) := by decide +kernel
theorem dX11_years_26 : decode cX11_years 26 = .ok (.ireturn, 1) := by decide +kernel
theorem dX11_years_27 : decode cX11_years 27 = .ok (.aload_n 0, 1) := by decide +kernel
theorem dX11_years_28 : decode cX11_years 28 = .ok (.dup, 1) := by decide +kernel
theorem dX11_years_29 : decode cX11_years 29 = .ok (.getfield 71, 3) := by decide +kernel
theorem dX11_years_32 : decode cX11_years 32 = .ok (.iload_n 1, 1) := by decide +kernel
theorem dX11_years_33 : decode cX11_years 33 = .ok (.iadd, 1) := by decide +kernel
theorem dX11_years_34 : decode cX11_years 34 = .ok (.putfield 71, 3) := by decide +kernel
theorem dX11_years_37 : decode cX11_years 37 = .ok (.aload_n 0, 1) := by decide +kernel
theorem dX11_years_38 : decode cX11_years 38 = .ok (.getfield 71, 3) := by decide +kernel
theorem dX11_years_41 : decode cX11_years 41 = .ok (.ireturn, 1) := by decide +kernel
theorem dX11_feed_0 : decode cX11_feed 0 = .ok (.iload_n 3, 1) := by decide +kernel
theorem dX11_feed_1 : decode cX11_feed 1 = .ok (.iconst 1, 1) := by decide +kernel
theorem dX11_feed_2 : decode cX11_feed 2 = .ok (.if_icmp .lt 9, 3) := by decide +kernel
theorem dX11_feed_5 : decode cX11_feed 5 = .ok (.iload_n 3, 1) := by decide +kernel
theorem dX11_feed_6 : decode cX11_feed 6 = .ok (.bipush 8, 2) := by decide +kernel
theorem dX11_feed_8 : decode cX11_feed 8 = .ok (.if_icmp .le 6, 3) := by decide +kernel
theorem dX11_feed_11 : decode cX11_feed 11 = .ok (.bipush (-2), 2) := by decide +kernel
theorem dX11_feed_13 : decode cX11_feed 13 = .ok (.ireturn, 1) := by decide +kernel
theorem dX11_feed_14 : decode cX11_feed 14 = .ok (.aload_n 0, 1) := by decide +kernel
theorem dX11_feed_15 : decode cX11_feed 15 = .ok (.getfield 74, 3) := by decide +kernel
theorem dX11_feed_18 : decode cX11_feed 18 = .ok (.iload_n 3, 1) := by decide +kernel
theorem dX11_feed_19 : decode cX11_feed 19 = .ok (.iadd, 1) := by decide +kernel
theorem dX11_feed_20 : decode cX11_feed 20 = .ok (.bipush 80, 2) := by decide +kernel
theorem dX11_feed_22 : decode cX11_feed 22 = .ok (.if_icmp .le 6, 3) := by decide +kernel
theorem dX11_feed_25 : decode cX11_feed 25 = .ok (.bipush (-4), 2) := by decide +kernel
theorem dX11_feed_27 : decode cX11_feed 27 = .ok (.ireturn, 1) := by decide +kernel
theorem dX11_feed_28 : decode cX11_feed 28 = .ok (.iload_n 3, 1) := by decide +kernel
theorem dX11_feed_29 : decode cX11_feed 29 = .ok (.iconst 1, 1) := by decide +kernel
theorem dX11_feed_30 : decode cX11_feed 30 = .ok (.isub, 1) := by decide +kernel
theorem dX11_feed_31 : decode cX11_feed 31 = .ok (.istore 4, 2) := by decide +kernel
theorem dX11_feed_33 : decode cX11_feed 33 = .ok (.iload 4, 2) := by decide +kernel
theorem dX11_feed_35 : decode cX11_feed 35 = .ok (.ifCond .lt 40, 3) := by decide +kernel
theorem dX11_feed_38 : decode cX11_feed 38 = .ok (.aload_n 0, 1) := by decide +kernel
theorem dX11_feed_39 : decode cX11_feed 39 = .ok (.getfield 9, 3) := by decide +kernel
theorem dX11_feed_42 : decode cX11_feed 42 = .ok (.aload_n 0, 1) := by decide +kernel
theorem dX11_feed_43 : decode cX11_feed 43 = .ok (.getfield 74, 3) := by decide +kernel
theorem dX11_feed_46 : decode cX11_feed 46 = .ok (.lload_n 1, 1) := by decide +kernel
theorem dX11_feed_47 : decode cX11_feed 47 = .ok (.bipush 8, 2) := by decide +kernel
theorem dX11_feed_49 : decode cX11_feed 49 = .ok (.iload 4, 2) := by decide +kernel
theorem dX11_feed_51 : decode cX11_feed 51 = .ok (.imul, 1) := by decide +kernel
theorem dX11_feed_52 : decode cX11_feed 52 = .ok (.lushr, 1) := by decide +kernel
theorem dX11_feed_53 : decode cX11_feed 53 = .ok (.l2i, 1) := by decide +kernel
theorem dX11_feed_54 : decode cX11_feed 54 = .ok (.sipush 255, 3) := by decide +kernel
theorem dX11_feed_57 : decode cX11_feed 57 = .ok (.iand, 1) := by decide +kernel
theorem dX11_feed_58 : decode cX11_feed 58 = .ok (.iastore, 1) := by decide +kernel
theorem dX11_feed_59 : decode cX11_feed 59 = .ok (.aload_n 0, 1) := by decide +kernel
theorem dX11_feed_60 : decode cX11_feed 60 = .ok (.dup, 1) := by decide +kernel
theorem dX11_feed_61 : decode cX11_feed 61 = .ok (.getfield 74, 3) := by decide +kernel
theorem dX11_feed_64 : decode cX11_feed 64 = .ok (.iconst 1, 1) := by decide +kernel
theorem dX11_feed_65 : decode cX11_feed 65 = .ok (.iadd, 1) := by decide +kernel
theorem dX11_feed_66 : decode cX11_feed 66 = .ok (.putfield 74, 3) := by decide +kernel
theorem dX11_feed_69 : decode cX11_feed 69 = .ok (.iinc 4 (-1), 3) := by decide +kernel
theorem dX11_feed_72 : decode cX11_feed 72 = .ok (.goto (-39), 3) := by decide +kernel
theorem dX11_feed_75 : decode cX11_feed 75 = .ok (.aload_n 0, 1) := by decide +kernel
theorem dX11_feed_76 : decode cX11_feed 76 = .ok (.getfield 74, 3) := by decide +kernel
theorem dX11_feed_79 : decode cX11_feed 79 = .ok (.ireturn, 1) := by decide +kernel
theorem dX11_law_0 : decode cX11_law 0 = .ok (.aload_n 0, 1) := by decide +kernel
theorem dX11_law_1 : decode cX11_law 1 = .ok (.getfield 77, 3) := by decide +kernel
theorem dX11_law_4 : decode cX11_law 4 = .ok (.bipush 12, 2) := by decide +kernel
theorem dX11_law_6 : decode cX11_law 6 = .ok (.if_icmp .lt 6, 3) := by decide +kernel
theorem dX11_law_9 : decode cX11_law 9 = .ok (.bipush (-4), 2) := by decide +kernel
theorem dX11_law_11 : decode cX11_law 11 = .ok (.ireturn, 1) := by decide +kernel
theorem dX11_law_12 : decode cX11_law 12 = .ok (.aload_n 0, 1) := by decide +kernel
theorem dX11_law_13 : decode cX11_law 13 = .ok (.getfield 74, 3) := by decide +kernel
theorem dX11_law_16 : decode cX11_law 16 = .ok (.istore_n 1, 1) := by decide +kernel
theorem dX11_law_17 : decode cX11_law 17 = .ok (.aload_n 0, 1) := by decide +kernel
theorem dX11_law_18 : decode cX11_law 18 = .ok (.iconst 0, 1) := by decide +kernel
theorem dX11_law_19 : decode cX11_law 19 = .ok (.putfield 74, 3) := by decide +kernel
theorem dX11_law_22 : decode cX11_law 22 = .ok (.aload_n 0, 1) := by decide +kernel
theorem dX11_law_23 : decode cX11_law 23 = .ok (.getfield 24, 3) := by decide +kernel
theorem dX11_law_26 : decode cX11_law 26 = .ok (.aload_n 0, 1) := by decide +kernel
theorem dX11_law_27 : decode cX11_law 27 = .ok (.getfield 77, 3) := by decide +kernel
theorem dX11_law_30 : decode cX11_law 30 = .ok (.aaload, 1) := by decide +kernel
theorem dX11_law_31 : decode cX11_law 31 = .ok (.aload_n 0, 1) := by decide +kernel
theorem dX11_law_32 : decode cX11_law 32 = .ok (.getfield 9, 3) := by decide +kernel
theorem dX11_law_35 : decode cX11_law 35 = .ok (.iload_n 1, 1) := by decide +kernel
theorem dX11_law_36 : decode cX11_law 36 = .ok (.invokevirtual 80, 3) := by decide +kernel
theorem dX11_law_39 : decode cX11_law 39 = .ok (.istore_n 2, 1) := by decide +kernel
theorem dX11_law_40 : decode cX11_law 40 = .ok (.iload_n 2, 1) := by decide +kernel
theorem dX11_law_41 : decode cX11_law 41 = .ok (.ifCond .lt 8, 3) := by decide +kernel
theorem dX11_law_44 : decode cX11_law 44 = .ok (.bipush (-10), 2) := by decide +kernel
theorem dX11_law_46 : decode cX11_law 46 = .ok (.iload_n 2, 1) := by decide +kernel
theorem dX11_law_47 : decode cX11_law 47 = .ok (.isub, 1) := by decide +kernel
theorem dX11_law_48 : decode cX11_law 48 = .ok (.ireturn, 1) := by decide +kernel
theorem dX11_law_49 : decode cX11_law 49 = .ok (.aload_n 0, 1) := by decide +kernel
theorem dX11_law_50 : decode cX11_law 50 = .ok (.dup, 1) := by decide +kernel
theorem dX11_law_51 : decode cX11_law 51 = .ok (.getfield 77, 3) := by decide +kernel
theorem dX11_law_54 : decode cX11_law 54 = .ok (.iconst 1, 1) := by decide +kernel
theorem dX11_law_55 : decode cX11_law 55 = .ok (.iadd, 1) := by decide +kernel
theorem dX11_law_56 : decode cX11_law 56 = .ok (.putfield 77, 3) := by decide +kernel
theorem dX11_law_59 : decode cX11_law 59 = .ok (.aload_n 0, 1) := by decide +kernel
theorem dX11_law_60 : decode cX11_law 60 = .ok (.getfield 77, 3) := by decide +kernel
theorem dX11_law_63 : decode cX11_law 63 = .ok (.iconst 1, 1) := by decide +kernel
theorem dX11_law_64 : decode cX11_law 64 = .ok (.isub, 1) := by decide +kernel
theorem dX11_law_65 : decode cX11_law 65 = .ok (.ireturn, 1) := by decide +kernel
theorem dX11_coin_0 : decode cX11_coin 0 = .ok (.aload_n 0, 1) := by decide +kernel
theorem dX11_coin_1 : decode cX11_coin 1 = .ok (.iload_n 1, 1) := by decide +kernel
theorem dX11_coin_2 : decode cX11_coin 2 = .ok (.invokevirtual 84, 3) := by decide +kernel
theorem dX11_coin_5 : decode cX11_coin 5 = .ok (.ifCond .eq 10, 3) := by decide +kernel
theorem dX11_coin_8 : decode cX11_coin 8 = .ok (.iload_n 2, 1) := by decide +kernel
theorem dX11_coin_9 : decode cX11_coin 9 = .ok (.invokestatic 88, 3) := by decide +kernel
theorem dX11_coin_12 : decode cX11_coin 12 = .ok (.ifCond .ne 5, 3) := by decide +kernel
theorem dX11_coin_15 : decode cX11_coin 15 = .ok (.iconst (-1), 1) := by decide +kernel
theorem dX11_coin_16 : decode cX11_coin 16 = .ok (.ireturn, 1) := by decide +kernel
theorem dX11_coin_17 : decode cX11_coin 17 = .ok (.aload_n 0, 1) := by decide +kernel
theorem dX11_coin_18 : decode cX11_coin 18 = .ok (.getfield 91, 3) := by decide +kernel
theorem dX11_coin_21 : decode cX11_coin 21 = .ok (.bipush 80, 2) := by decide +kernel
theorem dX11_coin_23 : decode cX11_coin 23 = .ok (.if_icmp .lt 6, 3) := by decide +kernel
theorem dX11_coin_26 : decode cX11_coin 26 = .ok (.bipush (-4), 2) := by decide +kernel
theorem dX11_coin_28 : decode cX11_coin 28 = .ok (.ireturn, 1) := by decide +kernel
theorem dX11_coin_29 : decode cX11_coin 29 = .ok (.aload_n 0, 1) := by decide +kernel
theorem dX11_coin_30 : decode cX11_coin 30 = .ok (.getfield 74, 3) := by decide +kernel
theorem dX11_coin_33 : decode cX11_coin 33 = .ok (.istore_n 3, 1) := by decide +kernel
theorem dX11_coin_34 : decode cX11_coin 34 = .ok (.aload_n 0, 1) := by decide +kernel
theorem dX11_coin_35 : decode cX11_coin 35 = .ok (.iconst 0, 1) := by decide +kernel
theorem dX11_coin_36 : decode cX11_coin 36 = .ok (.putfield 74, 3) := by decide +kernel
theorem dX11_coin_39 : decode cX11_coin 39 = .ok (.aload_n 0, 1) := by decide +kernel
theorem dX11_coin_40 : decode cX11_coin 40 = .ok (.iload_n 3, 1) := by decide +kernel
theorem dX11_coin_41 : decode cX11_coin 41 = .ok (.invokevirtual 94, 3) := by decide +kernel
theorem dX11_coin_44 : decode cX11_coin 44 = .ok (.istore 4, 2) := by decide +kernel
theorem dX11_coin_46 : decode cX11_coin 46 = .ok (.iload 4, 2) := by decide +kernel
theorem dX11_coin_48 : decode cX11_coin 48 = .ok (.ifCond .lt 9, 3) := by decide +kernel
theorem dX11_coin_51 : decode cX11_coin 51 = .ok (.bipush (-10), 2) := by decide +kernel
theorem dX11_coin_53 : decode cX11_coin 53 = .ok (.iload 4, 2) := by decide +kernel
theorem dX11_coin_55 : decode cX11_coin 55 = .ok (.isub, 1) := by decide +kernel
theorem dX11_coin_56 : decode cX11_coin 56 = .ok (.ireturn, 1) := by decide +kernel
theorem dX11_coin_57 : decode cX11_coin 57 = .ok (.aload_n 0, 1) := by decide +kernel
theorem dX11_coin_58 : decode cX11_coin 58 = .ok (.getfield 15, 3) := by decide +kernel
theorem dX11_coin_61 : decode cX11_coin 61 = .ok (.iload_n 1, 1) := by decide +kernel
theorem dX11_coin_62 : decode cX11_coin 62 = .ok (.bipush 10, 2) := by decide +kernel
theorem dX11_coin_64 : decode cX11_coin 64 = .ok (.imul, 1) := by decide +kernel
theorem dX11_coin_65 : decode cX11_coin 65 = .ok (.iload_n 2, 1) := by decide +kernel
theorem dX11_coin_66 : decode cX11_coin 66 = .ok (.iadd, 1) := by decide +kernel
theorem dX11_coin_67 : decode cX11_coin 67 = .ok (.aaload, 1) := by decide +kernel
theorem dX11_coin_68 : decode cX11_coin 68 = .ok (.astore 5, 2) := by decide +kernel
theorem dX11_coin_70 : decode cX11_coin 70 = .ok (.aload 5, 2) := by decide +kernel
theorem dX11_coin_72 : decode cX11_coin 72 = .ok (.aload_n 0, 1) := by decide +kernel
theorem dX11_coin_73 : decode cX11_coin 73 = .ok (.getfield 9, 3) := by decide +kernel
theorem dX11_coin_76 : decode cX11_coin 76 = .ok (.iload_n 3, 1) := by decide +kernel
theorem dX11_coin_77 : decode cX11_coin 77 = .ok (.invokevirtual 98, 3) := by decide +kernel
theorem dX11_coin_80 : decode cX11_coin 80 = .ok (.aload 5, 2) := by decide +kernel
theorem dX11_coin_82 : decode cX11_coin 82 = .ok (.aload_n 0, 1) := by decide +kernel
theorem dX11_coin_83 : decode cX11_coin 83 = .ok (.getfield 102, 3) := by decide +kernel
theorem dX11_coin_86 : decode cX11_coin 86 = .ok (.putfield 105, 3) := by decide +kernel
theorem dX11_coin_89 : decode cX11_coin 89 = .ok (.aload 5, 2) := by decide +kernel
theorem dX11_coin_91 : decode cX11_coin 91 = .ok (.iconst 0, 1) := by decide +kernel
theorem dX11_coin_92 : decode cX11_coin 92 = .ok (.putfield 108, 3) := by decide +kernel
theorem dX11_coin_95 : decode cX11_coin 95 = .ok (.aload_n 0, 1) := by decide +kernel
theorem dX11_coin_96 : decode cX11_coin 96 = .ok (.dup, 1) := by decide +kernel
theorem dX11_coin_97 : decode cX11_coin 97 = .ok (.getfield 102, 3) := by decide +kernel
theorem dX11_coin_100 : decode cX11_coin 100 = .ok (.iconst 1, 1) := by decide +kernel
theorem dX11_coin_101 : decode cX11_coin 101 = .ok (.iadd, 1) := by decide +kernel
theorem dX11_coin_102 : decode cX11_coin 102 = .ok (.putfield 102, 3) := by decide +kernel
theorem dX11_coin_105 : decode cX11_coin 105 = .ok (.aload_n 0, 1) := by decide +kernel
theorem dX11_coin_106 : decode cX11_coin 106 = .ok (.new 112, 3) := by decide +kernel
theorem dX11_coin_109 : decode cX11_coin 109 = .ok (.dup, 1) := by decide +kernel
theorem dX11_coin_110 : decode cX11_coin 110 = .ok (.aload_n 0, 1) := by decide +kernel
theorem dX11_coin_111 : decode cX11_coin 111 = .ok (.getfield 91, 3) := by decide +kernel
theorem dX11_coin_114 : decode cX11_coin 114 = .ok (.aload_n 0, 1) := by decide +kernel
theorem dX11_coin_115 : decode cX11_coin 115 = .ok (.getfield 71, 3) := by decide +kernel
theorem dX11_coin_118 : decode cX11_coin 118 = .ok (.iload_n 1, 1) := by decide +kernel
theorem dX11_coin_119 : decode cX11_coin 119 = .ok (.bipush (-5), 2) := by decide +kernel
theorem dX11_coin_121 : decode cX11_coin 121 = .ok (.iload_n 2, 1) := by decide +kernel
theorem dX11_coin_122 : decode cX11_coin 122 = .ok (.invokespecial 114, 3) := by decide +kernel
theorem dX11_coin_125 : decode cX11_coin 125 = .ok (.invokevirtual 117, 3) := by decide +kernel
theorem dX11_coin_128 : decode cX11_coin 128 = .ok (.aload 5, 2) := by decide +kernel
theorem dX11_coin_130 : decode cX11_coin 130 = .ok (.getfield 105, 3) := by decide +kernel
theorem dX11_coin_133 : decode cX11_coin 133 = .ok (.ireturn, 1) := by decide +kernel
theorem dX11_sound_0 : decode cX11_sound 0 = .ok (.aload_n 0, 1) := by decide +kernel
theorem dX11_sound_1 : decode cX11_sound 1 = .ok (.iload_n 1, 1) := by decide +kernel
theorem dX11_sound_2 : decode cX11_sound 2 = .ok (.invokevirtual 84, 3) := by decide +kernel
theorem dX11_sound_5 : decode cX11_sound 5 = .ok (.ifCond .eq 11, 3) := by decide +kernel
theorem dX11_sound_8 : decode cX11_sound 8 = .ok (.aload_n 0, 1) := by decide +kernel
theorem dX11_sound_9 : decode cX11_sound 9 = .ok (.iload_n 2, 1) := by decide +kernel
theorem dX11_sound_10 : decode cX11_sound 10 = .ok (.invokevirtual 121, 3) := by decide +kernel
theorem dX11_sound_13 : decode cX11_sound 13 = .ok (.ifCond .ne 5, 3) := by decide +kernel
theorem dX11_sound_16 : decode cX11_sound 16 = .ok (.iconst (-1), 1) := by decide +kernel
theorem dX11_sound_17 : decode cX11_sound 17 = .ok (.ireturn, 1) := by decide +kernel
theorem dX11_sound_18 : decode cX11_sound 18 = .ok (.aload_n 0, 1) := by decide +kernel
theorem dX11_sound_19 : decode cX11_sound 19 = .ok (.getfield 91, 3) := by decide +kernel
theorem dX11_sound_22 : decode cX11_sound 22 = .ok (.bipush 80, 2) := by decide +kernel
theorem dX11_sound_24 : decode cX11_sound 24 = .ok (.if_icmp .lt 6, 3) := by decide +kernel
theorem dX11_sound_27 : decode cX11_sound 27 = .ok (.bipush (-4), 2) := by decide +kernel
theorem dX11_sound_29 : decode cX11_sound 29 = .ok (.ireturn, 1) := by decide +kernel
theorem dX11_sound_30 : decode cX11_sound 30 = .ok (.iconst 0, 1) := by decide +kernel
theorem dX11_sound_31 : decode cX11_sound 31 = .ok (.istore_n 3, 1) := by decide +kernel
theorem dX11_sound_32 : decode cX11_sound 32 = .ok (.iconst 0, 1) := by decide +kernel
theorem dX11_sound_33 : decode cX11_sound 33 = .ok (.istore 4, 2) := by decide +kernel
theorem dX11_sound_35 : decode cX11_sound 35 = .ok (.iload 4, 2) := by decide +kernel
theorem dX11_sound_37 : decode cX11_sound 37 = .ok (.bipush 10, 2) := by decide +kernel
theorem dX11_sound_39 : decode cX11_sound 39 = .ok (.if_icmp .ge 36, 3) := by decide +kernel
theorem dX11_sound_42 : decode cX11_sound 42 = .ok (.aload_n 0, 1) := by decide +kernel
theorem dX11_sound_43 : decode cX11_sound 43 = .ok (.getfield 24, 3) := by decide +kernel
theorem dX11_sound_46 : decode cX11_sound 46 = .ok (.iload_n 2, 1) := by decide +kernel
theorem dX11_sound_47 : decode cX11_sound 47 = .ok (.aaload, 1) := by decide +kernel
theorem dX11_sound_48 : decode cX11_sound 48 = .ok (.aload_n 0, 1) := by decide +kernel
theorem dX11_sound_49 : decode cX11_sound 49 = .ok (.getfield 15, 3) := by decide +kernel
theorem dX11_sound_52 : decode cX11_sound 52 = .ok (.iload_n 1, 1) := by decide +kernel
theorem dX11_sound_53 : decode cX11_sound 53 = .ok (.bipush 10, 2) := by decide +kernel
theorem dX11_sound_55 : decode cX11_sound 55 = .ok (.imul, 1) := by decide +kernel
theorem dX11_sound_56 : decode cX11_sound 56 = .ok (.iload 4, 2) := by decide +kernel
theorem dX11_sound_58 : decode cX11_sound 58 = .ok (.iadd, 1) := by decide +kernel
theorem dX11_sound_59 : decode cX11_sound 59 = .ok (.aaload, 1) := by decide +kernel
theorem dX11_sound_60 : decode cX11_sound 60 = .ok (.invokevirtual 124, 3) := by decide +kernel
theorem dX11_sound_63 : decode cX11_sound 63 = .ok (.ifCond .eq 6, 3) := by decide +kernel
theorem dX11_sound_66 : decode cX11_sound 66 = .ok (.iinc 3 1, 3) := by decide +kernel
theorem dX11_sound_69 : decode cX11_sound 69 = .ok (.iinc 4 1, 3) := by decide +kernel
theorem dX11_sound_72 : decode cX11_sound 72 = .ok (.goto (-37), 3) := by decide +kernel
theorem dX11_sound_75 : decode cX11_sound 75 = .ok (.aload_n 0, 1) := by decide +kernel
theorem dX11_sound_76 : decode cX11_sound 76 = .ok (.new 128, 3) := by decide +kernel
theorem dX11_sound_79 : decode cX11_sound 79 = .ok (.dup, 1) := by decide +kernel
theorem dX11_sound_80 : decode cX11_sound 80 = .ok (.aload_n 0, 1) := by decide +kernel
theorem dX11_sound_81 : decode cX11_sound 81 = .ok (.getfield 91, 3) := by decide +kernel
theorem dX11_sound_84 : decode cX11_sound 84 = .ok (.aload_n 0, 1) := by decide +kernel
theorem dX11_sound_85 : decode cX11_sound 85 = .ok (.getfield 71, 3) := by decide +kernel
theorem dX11_sound_88 : decode cX11_sound 88 = .ok (.iload_n 1, 1) := by decide +kernel
theorem dX11_sound_89 : decode cX11_sound 89 = .ok (.iload_n 2, 1) := by decide +kernel
theorem dX11_sound_90 : decode cX11_sound 90 = .ok (.bipush (-5), 2) := by decide +kernel
theorem dX11_sound_92 : decode cX11_sound 92 = .ok (.invokespecial 130, 3) := by decide +kernel
theorem dX11_sound_95 : decode cX11_sound 95 = .ok (.invokevirtual 117, 3) := by decide +kernel
theorem dX11_sound_98 : decode cX11_sound 98 = .ok (.iload_n 3, 1) := by decide +kernel
theorem dX11_sound_99 : decode cX11_sound 99 = .ok (.ireturn, 1) := by decide +kernel
theorem dX11_shorten_0 : decode cX11_shorten 0 = .ok (.aload_n 0, 1) := by decide +kernel
theorem dX11_shorten_1 : decode cX11_shorten 1 = .ok (.iload_n 1, 1) := by decide +kernel
theorem dX11_shorten_2 : decode cX11_shorten 2 = .ok (.iload_n 2, 1) := by decide +kernel
theorem dX11_shorten_3 : decode cX11_shorten 3 = .ok (.invokevirtual 131, 3) := by decide +kernel
theorem dX11_shorten_6 : decode cX11_shorten 6 = .ok (.astore_n 3, 1) := by decide +kernel
theorem dX11_shorten_7 : decode cX11_shorten 7 = .ok (.aload_n 3, 1) := by decide +kernel
theorem dX11_shorten_8 : decode cX11_shorten 8 = .ok (.ifnonnull 5, 3) := by decide +kernel
theorem dX11_shorten_11 : decode cX11_shorten 11 = .ok (.iconst (-1), 1) := by decide +kernel
theorem dX11_shorten_12 : decode cX11_shorten 12 = .ok (.ireturn, 1) := by decide +kernel
theorem dX11_shorten_13 : decode cX11_shorten 13 = .ok (.aload_n 3, 1) := by decide +kernel
theorem dX11_shorten_14 : decode cX11_shorten 14 = .ok (.getfield 135, 3) := by decide +kernel
theorem dX11_shorten_17 : decode cX11_shorten 17 = .ok (.iconst 2, 1) := by decide +kernel
theorem dX11_shorten_18 : decode cX11_shorten 18 = .ok (.if_icmp .ge 6, 3) := by decide +kernel
theorem dX11_shorten_21 : decode cX11_shorten 21 = .ok (.bipush (-3), 2) := by decide +kernel
theorem dX11_shorten_23 : decode cX11_shorten 23 = .ok (.ireturn, 1) := by decide +kernel
theorem dX11_shorten_24 : decode cX11_shorten 24 = .ok (.aload_n 0, 1) := by decide +kernel
theorem dX11_shorten_25 : decode cX11_shorten 25 = .ok (.getfield 91, 3) := by decide +kernel
theorem dX11_shorten_28 : decode cX11_shorten 28 = .ok (.bipush 80, 2) := by decide +kernel
theorem dX11_shorten_30 : decode cX11_shorten 30 = .ok (.if_icmp .lt 6, 3) := by decide +kernel
theorem dX11_shorten_33 : decode cX11_shorten 33 = .ok (.bipush (-4), 2) := by decide +kernel
theorem dX11_shorten_35 : decode cX11_shorten 35 = .ok (.ireturn, 1) := by decide +kernel
theorem dX11_shorten_36 : decode cX11_shorten 36 = .ok (.aload_n 3, 1) := by decide +kernel
theorem dX11_shorten_37 : decode cX11_shorten 37 = .ok (.dup, 1) := by decide +kernel
theorem dX11_shorten_38 : decode cX11_shorten 38 = .ok (.getfield 135, 3) := by decide +kernel
theorem dX11_shorten_41 : decode cX11_shorten 41 = .ok (.iconst 1, 1) := by decide +kernel
theorem dX11_shorten_42 : decode cX11_shorten 42 = .ok (.isub, 1) := by decide +kernel
theorem dX11_shorten_43 : decode cX11_shorten 43 = .ok (.putfield 135, 3) := by decide +kernel
theorem dX11_shorten_46 : decode cX11_shorten 46 = .ok (.aload_n 0, 1) := by decide +kernel
theorem dX11_shorten_47 : decode cX11_shorten 47 = .ok (.new 138, 3) := by decide +kernel
theorem dX11_shorten_50 : decode cX11_shorten 50 = .ok (.dup, 1) := by decide +kernel
theorem dX11_shorten_51 : decode cX11_shorten 51 = .ok (.aload_n 0, 1) := by decide +kernel
theorem dX11_shorten_52 : decode cX11_shorten 52 = .ok (.getfield 91, 3) := by decide +kernel
theorem dX11_shorten_55 : decode cX11_shorten 55 = .ok (.aload_n 0, 1) := by decide +kernel
theorem dX11_shorten_56 : decode cX11_shorten 56 = .ok (.getfield 71, 3) := by decide +kernel
theorem dX11_shorten_59 : decode cX11_shorten 59 = .ok (.iload_n 1, 1) := by decide +kernel
theorem dX11_shorten_60 : decode cX11_shorten 60 = .ok (.bipush (-5), 2) := by decide +kernel
theorem dX11_shorten_62 : decode cX11_shorten 62 = .ok (.iload_n 2, 1) := by decide +kernel
theorem dX11_shorten_63 : decode cX11_shorten 63 = .ok (.invokespecial 140, 3) := by decide +kernel
theorem dX11_shorten_66 : decode cX11_shorten 66 = .ok (.invokevirtual 117, 3) := by decide +kernel
theorem dX11_shorten_69 : decode cX11_shorten 69 = .ok (.aload_n 3, 1) := by decide +kernel
theorem dX11_shorten_70 : decode cX11_shorten 70 = .ok (.getfield 135, 3) := by decide +kernel
theorem dX11_shorten_73 : decode cX11_shorten 73 = .ok (.ireturn, 1) := by decide +kernel
theorem dX11_loan_0 : decode cX11_loan 0 = .ok (.aload_n 0, 1) := by decide +kernel
theorem dX11_loan_1 : decode cX11_loan 1 = .ok (.iload_n 2, 1) := by decide +kernel
theorem dX11_loan_2 : decode cX11_loan 2 = .ok (.iload_n 1, 1) := by decide +kernel
theorem dX11_loan_3 : decode cX11_loan 3 = .ok (.invokevirtual 131, 3) := by decide +kernel
theorem dX11_loan_6 : decode cX11_loan 6 = .ok (.astore 4, 2) := by decide +kernel
theorem dX11_loan_8 : decode cX11_loan 8 = .ok (.aload 4, 2) := by decide +kernel
theorem dX11_loan_10 : decode cX11_loan 10 = .ok (.ifnull 11, 3) := by decide +kernel
theorem dX11_loan_13 : decode cX11_loan 13 = .ok (.aload_n 0, 1) := by decide +kernel
theorem dX11_loan_14 : decode cX11_loan 14 = .ok (.iload_n 3, 1) := by decide +kernel
theorem dX11_loan_15 : decode cX11_loan 15 = .ok (.invokevirtual 84, 3) := by decide +kernel
theorem dX11_loan_18 : decode cX11_loan 18 = .ok (.ifCond .ne 5, 3) := by decide +kernel
theorem dX11_loan_21 : decode cX11_loan 21 = .ok (.iconst (-1), 1) := by decide +kernel
theorem dX11_loan_22 : decode cX11_loan 22 = .ok (.ireturn, 1) := by decide +kernel
theorem dX11_loan_23 : decode cX11_loan 23 = .ok (.iload_n 2, 1) := by decide +kernel
theorem dX11_loan_24 : decode cX11_loan 24 = .ok (.iload_n 3, 1) := by decide +kernel
theorem dX11_loan_25 : decode cX11_loan 25 = .ok (.if_icmp .ne 6, 3) := by decide +kernel
theorem dX11_loan_28 : decode cX11_loan 28 = .ok (.bipush (-2), 2) := by decide +kernel
theorem dX11_loan_30 : decode cX11_loan 30 = .ok (.ireturn, 1) := by decide +kernel
theorem dX11_loan_31 : decode cX11_loan 31 = .ok (.aload_n 0, 1) := by decide +kernel
theorem dX11_loan_32 : decode cX11_loan 32 = .ok (.getfield 91, 3) := by decide +kernel
theorem dX11_loan_35 : decode cX11_loan 35 = .ok (.bipush 80, 2) := by decide +kernel
theorem dX11_loan_37 : decode cX11_loan 37 = .ok (.if_icmp .lt 6, 3) := by decide +kernel
theorem dX11_loan_40 : decode cX11_loan 40 = .ok (.bipush (-4), 2) := by decide +kernel
theorem dX11_loan_42 : decode cX11_loan 42 = .ok (.ireturn, 1) := by decide +kernel
theorem dX11_loan_43 : decode cX11_loan 43 = .ok (.aload_n 0, 1) := by decide +kernel
theorem dX11_loan_44 : decode cX11_loan 44 = .ok (.getfield 15, 3) := by decide +kernel
theorem dX11_loan_47 : decode cX11_loan 47 = .ok (.iload_n 3, 1) := by decide +kernel
theorem dX11_loan_48 : decode cX11_loan 48 = .ok (.bipush 10, 2) := by decide +kernel
theorem dX11_loan_50 : decode cX11_loan 50 = .ok (.imul, 1) := by decide +kernel
theorem dX11_loan_51 : decode cX11_loan 51 = .ok (.iload_n 1, 1) := by decide +kernel
theorem dX11_loan_52 : decode cX11_loan 52 = .ok (.iadd, 1) := by decide +kernel
theorem dX11_loan_53 : decode cX11_loan 53 = .ok (.aaload, 1) := by decide +kernel
theorem dX11_loan_54 : decode cX11_loan 54 = .ok (.astore 5, 2) := by decide +kernel
theorem dX11_loan_56 : decode cX11_loan 56 = .ok (.aload 5, 2) := by decide +kernel
theorem dX11_loan_58 : decode cX11_loan 58 = .ok (.aload 4, 2) := by decide +kernel
theorem dX11_loan_60 : decode cX11_loan 60 = .ok (.invokevirtual 141, 3) := by decide +kernel
theorem dX11_loan_63 : decode cX11_loan 63 = .ok (.aload 5, 2) := by decide +kernel
theorem dX11_loan_65 : decode cX11_loan 65 = .ok (.aload 4, 2) := by decide +kernel
theorem dX11_loan_67 : decode cX11_loan 67 = .ok (.getfield 105, 3) := by decide +kernel
theorem dX11_loan_70 : decode cX11_loan 70 = .ok (.putfield 105, 3) := by decide +kernel
theorem dX11_loan_73 : decode cX11_loan 73 = .ok (.aload 5, 2) := by decide +kernel
theorem dX11_loan_75 : decode cX11_loan 75 = .ok (.iconst 1, 1) := by decide +kernel
theorem dX11_loan_76 : decode cX11_loan 76 = .ok (.putfield 108, 3) := by decide +kernel
theorem dX11_loan_79 : decode cX11_loan 79 = .ok (.aload_n 0, 1) := by decide +kernel
theorem dX11_loan_80 : decode cX11_loan 80 = .ok (.new 145, 3) := by decide +kernel
theorem dX11_loan_83 : decode cX11_loan 83 = .ok (.dup, 1) := by decide +kernel
theorem dX11_loan_84 : decode cX11_loan 84 = .ok (.aload_n 0, 1) := by decide +kernel
theorem dX11_loan_85 : decode cX11_loan 85 = .ok (.getfield 91, 3) := by decide +kernel
theorem dX11_loan_88 : decode cX11_loan 88 = .ok (.aload_n 0, 1) := by decide +kernel
theorem dX11_loan_89 : decode cX11_loan 89 = .ok (.getfield 71, 3) := by decide +kernel
theorem dX11_loan_92 : decode cX11_loan 92 = .ok (.iload_n 3, 1) := by decide +kernel
theorem dX11_loan_93 : decode cX11_loan 93 = .ok (.bipush (-5), 2) := by decide +kernel
theorem dX11_loan_95 : decode cX11_loan 95 = .ok (.iload_n 1, 1) := by decide +kernel
theorem dX11_loan_96 : decode cX11_loan 96 = .ok (.invokespecial 147, 3) := by decide +kernel
theorem dX11_loan_99 : decode cX11_loan 99 = .ok (.invokevirtual 117, 3) := by decide +kernel
theorem dX11_loan_102 : decode cX11_loan 102 = .ok (.aload 5, 2) := by decide +kernel
theorem dX11_loan_104 : decode cX11_loan 104 = .ok (.getfield 105, 3) := by decide +kernel
theorem dX11_loan_107 : decode cX11_loan 107 = .ok (.ireturn, 1) := by decide +kernel
theorem dX11_forget_0 : decode cX11_forget 0 = .ok (.aload_n 0, 1) := by decide +kernel
theorem dX11_forget_1 : decode cX11_forget 1 = .ok (.iload_n 1, 1) := by decide +kernel
theorem dX11_forget_2 : decode cX11_forget 2 = .ok (.iload_n 2, 1) := by decide +kernel
theorem dX11_forget_3 : decode cX11_forget 3 = .ok (.invokevirtual 131, 3) := by decide +kernel
theorem dX11_forget_6 : decode cX11_forget 6 = .ok (.astore_n 3, 1) := by decide +kernel
theorem dX11_forget_7 : decode cX11_forget 7 = .ok (.aload_n 3, 1) := by decide +kernel
theorem dX11_forget_8 : decode cX11_forget 8 = .ok (.ifnonnull 5, 3) := by decide +kernel
theorem dX11_forget_11 : decode cX11_forget 11 = .ok (.iconst (-1), 1) := by decide +kernel
theorem dX11_forget_12 : decode cX11_forget 12 = .ok (.ireturn, 1) := by decide +kernel
theorem dX11_forget_13 : decode cX11_forget 13 = .ok (.aload_n 0, 1) := by decide +kernel
theorem dX11_forget_14 : decode cX11_forget 14 = .ok (.getfield 91, 3) := by decide +kernel
theorem dX11_forget_17 : decode cX11_forget 17 = .ok (.bipush 80, 2) := by decide +kernel
theorem dX11_forget_19 : decode cX11_forget 19 = .ok (.if_icmp .lt 6, 3) := by decide +kernel
theorem dX11_forget_22 : decode cX11_forget 22 = .ok (.bipush (-4), 2) := by decide +kernel
theorem dX11_forget_24 : decode cX11_forget 24 = .ok (.ireturn, 1) := by decide +kernel
theorem dX11_forget_25 : decode cX11_forget 25 = .ok (.aload_n 3, 1) := by decide +kernel
theorem dX11_forget_26 : decode cX11_forget 26 = .ok (.iconst 0, 1) := by decide +kernel
theorem dX11_forget_27 : decode cX11_forget 27 = .ok (.putfield 135, 3) := by decide +kernel
theorem dX11_forget_30 : decode cX11_forget 30 = .ok (.aload_n 0, 1) := by decide +kernel
theorem dX11_forget_31 : decode cX11_forget 31 = .ok (.new 148, 3) := by decide +kernel
theorem dX11_forget_34 : decode cX11_forget 34 = .ok (.dup, 1) := by decide +kernel
theorem dX11_forget_35 : decode cX11_forget 35 = .ok (.aload_n 0, 1) := by decide +kernel
theorem dX11_forget_36 : decode cX11_forget 36 = .ok (.getfield 91, 3) := by decide +kernel
theorem dX11_forget_39 : decode cX11_forget 39 = .ok (.aload_n 0, 1) := by decide +kernel
theorem dX11_forget_40 : decode cX11_forget 40 = .ok (.getfield 71, 3) := by decide +kernel
theorem dX11_forget_43 : decode cX11_forget 43 = .ok (.iload_n 1, 1) := by decide +kernel
theorem dX11_forget_44 : decode cX11_forget 44 = .ok (.bipush (-5), 2) := by decide +kernel
theorem dX11_forget_46 : decode cX11_forget 46 = .ok (.iload_n 2, 1) := by decide +kernel
theorem dX11_forget_47 : decode cX11_forget 47 = .ok (.invokespecial 150, 3) := by decide +kernel
theorem dX11_forget_50 : decode cX11_forget 50 = .ok (.invokevirtual 117, 3) := by decide +kernel
theorem dX11_forget_53 : decode cX11_forget 53 = .ok (.aload_n 3, 1) := by decide +kernel
theorem dX11_forget_54 : decode cX11_forget 54 = .ok (.getfield 105, 3) := by decide +kernel
theorem dX11_forget_57 : decode cX11_forget 57 = .ok (.ireturn, 1) := by decide +kernel
theorem dX11_split_0 : decode cX11_split 0 = .ok (.aload_n 0, 1) := by decide +kernel
theorem dX11_split_1 : decode cX11_split 1 = .ok (.iload_n 1, 1) := by decide +kernel
theorem dX11_split_2 : decode cX11_split 2 = .ok (.invokevirtual 84, 3) := by decide +kernel
theorem dX11_split_5 : decode cX11_split 5 = .ok (.ifCond .ne 5, 3) := by decide +kernel
theorem dX11_split_8 : decode cX11_split 8 = .ok (.iconst (-1), 1) := by decide +kernel
theorem dX11_split_9 : decode cX11_split 9 = .ok (.ireturn, 1) := by decide +kernel
theorem dX11_split_10 : decode cX11_split 10 = .ok (.aload_n 0, 1) := by decide +kernel
theorem dX11_split_11 : decode cX11_split 11 = .ok (.getfield 64, 3) := by decide +kernel
theorem dX11_split_14 : decode cX11_split 14 = .ok (.bipush 6, 2) := by decide +kernel
theorem dX11_split_16 : decode cX11_split 16 = .ok (.if_icmp .ge 12, 3) := by decide +kernel
theorem dX11_split_19 : decode cX11_split 19 = .ok (.aload_n 0, 1) := by decide +kernel
theorem dX11_split_20 : decode cX11_split 20 = .ok (.getfield 91, 3) := by decide +kernel
theorem dX11_split_23 : decode cX11_split 23 = .ok (.bipush 80, 2) := by decide +kernel
theorem dX11_split_25 : decode cX11_split 25 = .ok (.if_icmp .lt 6, 3) := by decide +kernel
theorem dX11_split_28 : decode cX11_split 28 = .ok (.bipush (-4), 2) := by decide +kernel
theorem dX11_split_30 : decode cX11_split 30 = .ok (.ireturn, 1) := by decide +kernel
theorem dX11_split_31 : decode cX11_split 31 = .ok (.aload_n 0, 1) := by decide +kernel
theorem dX11_split_32 : decode cX11_split 32 = .ok (.iload_n 1, 1) := by decide +kernel
theorem dX11_split_33 : decode cX11_split 33 = .ok (.aload_n 0, 1) := by decide +kernel
theorem dX11_split_34 : decode cX11_split 34 = .ok (.getfield 71, 3) := by decide +kernel
theorem dX11_split_37 : decode cX11_split 37 = .ok (.invokevirtual 67, 3) := by decide +kernel
theorem dX11_split_40 : decode cX11_split 40 = .ok (.istore_n 2, 1) := by decide +kernel
theorem dX11_split_41 : decode cX11_split 41 = .ok (.iconst 0, 1) := by decide +kernel
theorem dX11_split_42 : decode cX11_split 42 = .ok (.istore_n 3, 1) := by decide +kernel
theorem dX11_split_43 : decode cX11_split 43 = .ok (.iload_n 3, 1) := by decide +kernel
theorem dX11_split_44 : decode cX11_split 44 = .ok (.bipush 10, 2) := by decide +kernel
theorem dX11_split_46 : decode cX11_split 46 = .ok (.if_icmp .ge 62, 3) := by decide +kernel
theorem dX11_split_49 : decode cX11_split 49 = .ok (.aload_n 0, 1) := by decide +kernel
theorem dX11_split_50 : decode cX11_split 50 = .ok (.getfield 15, 3) := by decide +kernel
theorem dX11_split_53 : decode cX11_split 53 = .ok (.iload_n 1, 1) := by decide +kernel
theorem dX11_split_54 : decode cX11_split 54 = .ok (.bipush 10, 2) := by decide +kernel
theorem dX11_split_56 : decode cX11_split 56 = .ok (.imul, 1) := by decide +kernel
theorem dX11_split_57 : decode cX11_split 57 = .ok (.iload_n 3, 1) := by decide +kernel
theorem dX11_split_58 : decode cX11_split 58 = .ok (.iadd, 1) := by decide +kernel
theorem dX11_split_59 : decode cX11_split 59 = .ok (.aaload, 1) := by decide +kernel
theorem dX11_split_60 : decode cX11_split 60 = .ok (.astore 4, 2) := by decide +kernel
theorem dX11_split_62 : decode cX11_split 62 = .ok (.aload_n 0, 1) := by decide +kernel
theorem dX11_split_63 : decode cX11_split 63 = .ok (.getfield 15, 3) := by decide +kernel
theorem dX11_split_66 : decode cX11_split 66 = .ok (.iload_n 2, 1) := by decide +kernel
theorem dX11_split_67 : decode cX11_split 67 = .ok (.bipush 10, 2) := by decide +kernel
theorem dX11_split_69 : decode cX11_split 69 = .ok (.imul, 1) := by decide +kernel
theorem dX11_split_70 : decode cX11_split 70 = .ok (.iload_n 3, 1) := by decide +kernel
theorem dX11_split_71 : decode cX11_split 71 = .ok (.iadd, 1) := by decide +kernel
theorem dX11_split_72 : decode cX11_split 72 = .ok (.aaload, 1) := by decide +kernel
theorem dX11_split_73 : decode cX11_split 73 = .ok (.astore 5, 2) := by decide +kernel
theorem dX11_split_75 : decode cX11_split 75 = .ok (.aload 5, 2) := by decide +kernel
theorem dX11_split_77 : decode cX11_split 77 = .ok (.aload 4, 2) := by decide +kernel
theorem dX11_split_79 : decode cX11_split 79 = .ok (.invokevirtual 141, 3) := by decide +kernel
theorem dX11_split_82 : decode cX11_split 82 = .ok (.aload 5, 2) := by decide +kernel
theorem dX11_split_84 : decode cX11_split 84 = .ok (.aload 4, 2) := by decide +kernel
theorem dX11_split_86 : decode cX11_split 86 = .ok (.getfield 105, 3) := by decide +kernel
theorem dX11_split_89 : decode cX11_split 89 = .ok (.putfield 105, 3) := by decide +kernel
theorem dX11_split_92 : decode cX11_split 92 = .ok (.aload 5, 2) := by decide +kernel
theorem dX11_split_94 : decode cX11_split 94 = .ok (.aload 4, 2) := by decide +kernel
theorem dX11_split_96 : decode cX11_split 96 = .ok (.getfield 108, 3) := by decide +kernel
theorem dX11_split_99 : decode cX11_split 99 = .ok (.putfield 108, 3) := by decide +kernel
theorem dX11_split_102 : decode cX11_split 102 = .ok (.iinc 3 1, 3) := by decide +kernel
theorem dX11_split_105 : decode cX11_split 105 = .ok (.goto (-62), 3) := by decide +kernel
theorem dX11_split_108 : decode cX11_split 108 = .ok (.aload_n 0, 1) := by decide +kernel
theorem dX11_split_109 : decode cX11_split 109 = .ok (.new 151, 3) := by decide +kernel
theorem dX11_split_112 : decode cX11_split 112 = .ok (.dup, 1) := by decide +kernel
theorem dX11_split_113 : decode cX11_split 113 = .ok (.aload_n 0, 1) := by decide +kernel
theorem dX11_split_114 : decode cX11_split 114 = .ok (.getfield 91, 3) := by decide +kernel
theorem dX11_split_117 : decode cX11_split 117 = .ok (.aload_n 0, 1) := by decide +kernel
theorem dX11_split_118 : decode cX11_split 118 = .ok (.getfield 71, 3) := by decide +kernel
theorem dX11_split_121 : decode cX11_split 121 = .ok (.iload_n 2, 1) := by decide +kernel
theorem dX11_split_122 : decode cX11_split 122 = .ok (.bipush (-5), 2) := by decide +kernel
theorem dX11_split_124 : decode cX11_split 124 = .ok (.bipush (-5), 2) := by decide +kernel
theorem dX11_split_126 : decode cX11_split 126 = .ok (.invokespecial 153, 3) := by decide +kernel
theorem dX11_split_129 : decode cX11_split 129 = .ok (.invokevirtual 117, 3) := by decide +kernel
theorem dX11_split_132 : decode cX11_split 132 = .ok (.iload_n 2, 1) := by decide +kernel
theorem dX11_split_133 : decode cX11_split 133 = .ok (.ireturn, 1) := by decide +kernel
theorem dX11_word_0 : decode cX11_word 0 = .ok (.aload_n 0, 1) := by decide +kernel
theorem dX11_word_1 : decode cX11_word 1 = .ok (.iload_n 1, 1) := by decide +kernel
theorem dX11_word_2 : decode cX11_word 2 = .ok (.iload_n 2, 1) := by decide +kernel
theorem dX11_word_3 : decode cX11_word 3 = .ok (.invokevirtual 131, 3) := by decide +kernel
theorem dX11_word_6 : decode cX11_word 6 = .ok (.astore 4, 2) := by decide +kernel
theorem dX11_word_8 : decode cX11_word 8 = .ok (.aload 4, 2) := by decide +kernel
theorem dX11_word_10 : decode cX11_word 10 = .ok (.ifnull 17, 3) := by decide +kernel
theorem dX11_word_13 : decode cX11_word 13 = .ok (.iload_n 3, 1) := by decide +kernel
theorem dX11_word_14 : decode cX11_word 14 = .ok (.iconst (-1), 1) := by decide +kernel
theorem dX11_word_15 : decode cX11_word 15 = .ok (.if_icmp .lt 12, 3) := by decide +kernel
theorem dX11_word_18 : decode cX11_word 18 = .ok (.iload_n 3, 1) := by decide +kernel
theorem dX11_word_19 : decode cX11_word 19 = .ok (.aload 4, 2) := by decide +kernel
theorem dX11_word_21 : decode cX11_word 21 = .ok (.getfield 135, 3) := by decide +kernel
theorem dX11_word_24 : decode cX11_word 24 = .ok (.if_icmp .lt 5, 3) := by decide +kernel
theorem dX11_word_27 : decode cX11_word 27 = .ok (.iconst (-1), 1) := by decide +kernel
theorem dX11_word_28 : decode cX11_word 28 = .ok (.ireturn, 1) := by decide +kernel
theorem dX11_word_29 : decode cX11_word 29 = .ok (.iload_n 3, 1) := by decide +kernel
theorem dX11_word_30 : decode cX11_word 30 = .ok (.ifCond .ge 11, 3) := by decide +kernel
theorem dX11_word_33 : decode cX11_word 33 = .ok (.aload 4, 2) := by decide +kernel
theorem dX11_word_35 : decode cX11_word 35 = .ok (.getfield 135, 3) := by decide +kernel
theorem dX11_word_38 : decode cX11_word 38 = .ok (.goto 10, 3) := by decide +kernel
theorem dX11_word_41 : decode cX11_word 41 = .ok (.aload 4, 2) := by decide +kernel
theorem dX11_word_43 : decode cX11_word 43 = .ok (.getfield 154, 3) := by decide +kernel
theorem dX11_word_46 : decode cX11_word 46 = .ok (.iload_n 3, 1) := by decide +kernel
theorem dX11_word_47 : decode cX11_word 47 = .ok (.iaload, 1) := by decide +kernel
theorem dX11_word_48 : decode cX11_word 48 = .ok (.ireturn, 1) := by decide +kernel
theorem dX11_open_0 : decode cX11_open 0 = .ok (.aload_n 0, 1) := by decide +kernel
theorem dX11_open_1 : decode cX11_open 1 = .ok (.getfield 157, 3) := by decide +kernel
theorem dX11_open_4 : decode cX11_open 4 = .ok (.ifCond .eq 6, 3) := by decide +kernel
theorem dX11_open_7 : decode cX11_open 7 = .ok (.bipush (-3), 2) := by decide +kernel
theorem dX11_open_9 : decode cX11_open 9 = .ok (.ireturn, 1) := by decide +kernel
theorem dX11_open_10 : decode cX11_open 10 = .ok (.aload_n 0, 1) := by decide +kernel
theorem dX11_open_11 : decode cX11_open 11 = .ok (.iconst 1, 1) := by decide +kernel
theorem dX11_open_12 : decode cX11_open 12 = .ok (.putfield 157, 3) := by decide +kernel
theorem dX11_open_15 : decode cX11_open 15 = .ok (.aload_n 0, 1) := by decide +kernel
theorem dX11_open_16 : decode cX11_open 16 = .ok (.getfield 160, 3) := by decide +kernel
theorem dX11_open_19 : decode cX11_open 19 = .ok (.ireturn, 1) := by decide +kernel
theorem dX11_truth_0 : decode cX11_truth 0 = .ok (.aload_n 0, 1) := by decide +kernel
theorem dX11_truth_1 : decode cX11_truth 1 = .ok (.iload_n 1, 1) := by decide +kernel
theorem dX11_truth_2 : decode cX11_truth 2 = .ok (.iload_n 2, 1) := by decide +kernel
theorem dX11_truth_3 : decode cX11_truth 3 = .ok (.invokevirtual 131, 3) := by decide +kernel
theorem dX11_truth_6 : decode cX11_truth 6 = .ok (.astore 4, 2) := by decide +kernel
theorem dX11_truth_8 : decode cX11_truth 8 = .ok (.aload 4, 2) := by decide +kernel
theorem dX11_truth_10 : decode cX11_truth 10 = .ok (.ifnull 12, 3) := by decide +kernel
theorem dX11_truth_13 : decode cX11_truth 13 = .ok (.iload_n 3, 1) := by decide +kernel
theorem dX11_truth_14 : decode cX11_truth 14 = .ok (.ifCond .lt 8, 3) := by decide +kernel
theorem dX11_truth_17 : decode cX11_truth 17 = .ok (.iload_n 3, 1) := by decide +kernel
theorem dX11_truth_18 : decode cX11_truth 18 = .ok (.iconst 1, 1) := by decide +kernel
theorem dX11_truth_19 : decode cX11_truth 19 = .ok (.if_icmp .le 5, 3) := by decide +kernel
theorem dX11_truth_22 : decode cX11_truth 22 = .ok (.iconst (-1), 1) := by decide +kernel
theorem dX11_truth_23 : decode cX11_truth 23 = .ok (.ireturn, 1) := by decide +kernel
theorem dX11_truth_24 : decode cX11_truth 24 = .ok (.aload_n 0, 1) := by decide +kernel
theorem dX11_truth_25 : decode cX11_truth 25 = .ok (.getfield 157, 3) := by decide +kernel
theorem dX11_truth_28 : decode cX11_truth 28 = .ok (.ifCond .ne 6, 3) := by decide +kernel
theorem dX11_truth_31 : decode cX11_truth 31 = .ok (.bipush (-3), 2) := by decide +kernel
theorem dX11_truth_33 : decode cX11_truth 33 = .ok (.ireturn, 1) := by decide +kernel
theorem dX11_truth_34 : decode cX11_truth 34 = .ok (.iload_n 3, 1) := by decide +kernel
theorem dX11_truth_35 : decode cX11_truth 35 = .ok (.ifCond .ne 11, 3) := by decide +kernel
theorem dX11_truth_38 : decode cX11_truth 38 = .ok (.aload 4, 2) := by decide +kernel
theorem dX11_truth_40 : decode cX11_truth 40 = .ok (.getfield 105, 3) := by decide +kernel
theorem dX11_truth_43 : decode cX11_truth 43 = .ok (.goto 11, 3) := by decide +kernel
theorem dX11_truth_46 : decode cX11_truth 46 = .ok (.aload 4, 2) := by decide +kernel
theorem dX11_truth_48 : decode cX11_truth 48 = .ok (.getfield 108, 3) := by decide +kernel
theorem dX11_truth_51 : decode cX11_truth 51 = .ok (.invokestatic 163, 3) := by decide +kernel
theorem dX11_truth_54 : decode cX11_truth 54 = .ok (.ireturn, 1) := by decide +kernel
theorem dX11_from_0 : decode cX11_from 0 = .ok (.aload_n 0, 1) := by decide +kernel
theorem dX11_from_1 : decode cX11_from 1 = .ok (.iload_n 1, 1) := by decide +kernel
theorem dX11_from_2 : decode cX11_from 2 = .ok (.invokevirtual 84, 3) := by decide +kernel
theorem dX11_from_5 : decode cX11_from 5 = .ok (.ifCond .eq 12, 3) := by decide +kernel
theorem dX11_from_8 : decode cX11_from 8 = .ok (.iload_n 2, 1) := by decide +kernel
theorem dX11_from_9 : decode cX11_from 9 = .ok (.ifCond .lt 8, 3) := by decide +kernel
theorem dX11_from_12 : decode cX11_from 12 = .ok (.iload_n 2, 1) := by decide +kernel
theorem dX11_from_13 : decode cX11_from 13 = .ok (.iconst 1, 1) := by decide +kernel
theorem dX11_from_14 : decode cX11_from 14 = .ok (.if_icmp .le 5, 3) := by decide +kernel
theorem dX11_from_17 : decode cX11_from 17 = .ok (.iconst (-1), 1) := by decide +kernel
theorem dX11_from_18 : decode cX11_from 18 = .ok (.ireturn, 1) := by decide +kernel
theorem dX11_from_19 : decode cX11_from 19 = .ok (.aload_n 0, 1) := by decide +kernel
theorem dX11_from_20 : decode cX11_from 20 = .ok (.getfield 157, 3) := by decide +kernel
theorem dX11_from_23 : decode cX11_from 23 = .ok (.ifCond .ne 6, 3) := by decide +kernel
theorem dX11_from_26 : decode cX11_from 26 = .ok (.bipush (-3), 2) := by decide +kernel
theorem dX11_from_28 : decode cX11_from 28 = .ok (.ireturn, 1) := by decide +kernel
theorem dX11_from_29 : decode cX11_from 29 = .ok (.aload_n 0, 1) := by decide +kernel
theorem dX11_from_30 : decode cX11_from 30 = .ok (.getfield 19, 3) := by decide +kernel
theorem dX11_from_33 : decode cX11_from 33 = .ok (.iconst 2, 1) := by decide +kernel
theorem dX11_from_34 : decode cX11_from 34 = .ok (.iload_n 1, 1) := by decide +kernel
theorem dX11_from_35 : decode cX11_from 35 = .ok (.imul, 1) := by decide +kernel
theorem dX11_from_36 : decode cX11_from 36 = .ok (.iload_n 2, 1) := by decide +kernel
theorem dX11_from_37 : decode cX11_from 37 = .ok (.iadd, 1) := by decide +kernel
theorem dX11_from_38 : decode cX11_from 38 = .ok (.iaload, 1) := by decide +kernel
theorem dX11_from_39 : decode cX11_from 39 = .ok (.ireturn, 1) := by decide +kernel
theorem dX11_event_0 : decode cX11_event 0 = .ok (.aload_n 0, 1) := by decide +kernel
theorem dX11_event_1 : decode cX11_event 1 = .ok (.iload_n 1, 1) := by decide +kernel
theorem dX11_event_2 : decode cX11_event 2 = .ok (.invokevirtual 167, 3) := by decide +kernel
theorem dX11_event_5 : decode cX11_event 5 = .ok (.astore_n 3, 1) := by decide +kernel
theorem dX11_event_6 : decode cX11_event 6 = .ok (.aload_n 3, 1) := by decide +kernel
theorem dX11_event_7 : decode cX11_event 7 = .ok (.ifnull 12, 3) := by decide +kernel
theorem dX11_event_10 : decode cX11_event 10 = .ok (.iload_n 2, 1) := by decide +kernel
theorem dX11_event_11 : decode cX11_event 11 = .ok (.ifCond .lt 8, 3) := by decide +kernel
theorem dX11_event_14 : decode cX11_event 14 = .ok (.iload_n 2, 1) := by decide +kernel
theorem dX11_event_15 : decode cX11_event 15 = .ok (.iconst 4, 1) := by decide +kernel
theorem dX11_event_16 : decode cX11_event 16 = .ok (.if_icmp .le 5, 3) := by decide +kernel
theorem dX11_event_19 : decode cX11_event 19 = .ok (.iconst (-1), 1) := by decide +kernel
theorem dX11_event_20 : decode cX11_event 20 = .ok (.ireturn, 1) := by decide +kernel
theorem dX11_event_21 : decode cX11_event 21 = .ok (.aload_n 0, 1) := by decide +kernel
theorem dX11_event_22 : decode cX11_event 22 = .ok (.getfield 157, 3) := by decide +kernel
theorem dX11_event_25 : decode cX11_event 25 = .ok (.ifCond .ne 6, 3) := by decide +kernel
theorem dX11_event_28 : decode cX11_event 28 = .ok (.bipush (-3), 2) := by decide +kernel
theorem dX11_event_30 : decode cX11_event 30 = .ok (.ireturn, 1) := by decide +kernel
theorem dX11_event_31 : decode cX11_event 31 = .ok (.iload_n 2, 1) := by decide +kernel
theorem dX11_event_32 : decode cX11_event 32 = .ok (.tableswitch 52 0 3 #[32, 37, 42, 47], 32) := by decide +kernel
theorem dX11_event_64 : decode cX11_event 64 = .ok (.aload_n 3, 1) := by decide +kernel
theorem dX11_event_65 : decode cX11_event 65 = .ok (.invokevirtual 171, 3) := by decide +kernel
theorem dX11_event_68 : decode cX11_event 68 = .ok (.ireturn, 1) := by decide +kernel
theorem dX11_event_69 : decode cX11_event 69 = .ok (.aload_n 3, 1) := by decide +kernel
theorem dX11_event_70 : decode cX11_event 70 = .ok (.getfield 175, 3) := by decide +kernel
theorem dX11_event_73 : decode cX11_event 73 = .ok (.ireturn, 1) := by decide +kernel
theorem dX11_event_74 : decode cX11_event 74 = .ok (.aload_n 3, 1) := by decide +kernel
theorem dX11_event_75 : decode cX11_event 75 = .ok (.getfield 178, 3) := by decide +kernel
theorem dX11_event_78 : decode cX11_event 78 = .ok (.ireturn, 1) := by decide +kernel
theorem dX11_event_79 : decode cX11_event 79 = .ok (.aload_n 3, 1) := by decide +kernel
theorem dX11_event_80 : decode cX11_event 80 = .ok (.getfield 181, 3) := by decide +kernel
theorem dX11_event_83 : decode cX11_event 83 = .ok (.ireturn, 1) := by decide +kernel
theorem dX11_event_84 : decode cX11_event 84 = .ok (.aload_n 3, 1) := by decide +kernel
theorem dX11_event_85 : decode cX11_event 85 = .ok (.getfield 184, 3) := by decide +kernel
theorem dX11_event_88 : decode cX11_event 88 = .ok (.ireturn, 1) := by decide +kernel
theorem dX11_limit_0 : decode cX11_limit 0 = .ok (.iload_n 1, 1) := by decide +kernel
theorem dX11_limit_1 : decode cX11_limit 1 = .ok (.ifCond .lt 9, 3) := by decide +kernel
theorem dX11_limit_4 : decode cX11_limit 4 = .ok (.iload_n 1, 1) := by decide +kernel
theorem dX11_limit_5 : decode cX11_limit 5 = .ok (.bipush 60, 2) := by decide +kernel
theorem dX11_limit_7 : decode cX11_limit 7 = .ok (.if_icmp .le 6, 3) := by decide +kernel
theorem dX11_limit_10 : decode cX11_limit 10 = .ok (.bipush (-2), 2) := by decide +kernel
theorem dX11_limit_12 : decode cX11_limit 12 = .ok (.ireturn, 1) := by decide +kernel
theorem dX11_limit_13 : decode cX11_limit 13 = .ok (.aload_n 0, 1) := by decide +kernel
theorem dX11_limit_14 : decode cX11_limit 14 = .ok (.getfield 34, 3) := by decide +kernel
theorem dX11_limit_17 : decode cX11_limit 17 = .ok (.istore_n 2, 1) := by decide +kernel
theorem dX11_limit_18 : decode cX11_limit 18 = .ok (.aload_n 0, 1) := by decide +kernel
theorem dX11_limit_19 : decode cX11_limit 19 = .ok (.iload_n 1, 1) := by decide +kernel
theorem dX11_limit_20 : decode cX11_limit 20 = .ok (.putfield 34, 3) := by decide +kernel
theorem dX11_limit_23 : decode cX11_limit 23 = .ok (.iload_n 2, 1) := by decide +kernel
theorem dX11_limit_24 : decode cX11_limit 24 = .ok (.ireturn, 1) := by decide +kernel
theorem dX11_hole_0 : decode cX11_hole 0 = .ok (.aload_n 0, 1) := by decide +kernel
theorem dX11_hole_1 : decode cX11_hole 1 = .ok (.iload_n 1, 1) := by decide +kernel
theorem dX11_hole_2 : decode cX11_hole 2 = .ok (.invokevirtual 84, 3) := by decide +kernel
theorem dX11_hole_5 : decode cX11_hole 5 = .ok (.ifCond .eq 10, 3) := by decide +kernel
theorem dX11_hole_8 : decode cX11_hole 8 = .ok (.iload_n 2, 1) := by decide +kernel
theorem dX11_hole_9 : decode cX11_hole 9 = .ok (.invokestatic 88, 3) := by decide +kernel
theorem dX11_hole_12 : decode cX11_hole 12 = .ok (.ifCond .ne 5, 3) := by decide +kernel
theorem dX11_hole_15 : decode cX11_hole 15 = .ok (.iconst (-1), 1) := by decide +kernel
theorem dX11_hole_16 : decode cX11_hole 16 = .ok (.ireturn, 1) := by decide +kernel
theorem dX11_hole_17 : decode cX11_hole 17 = .ok (.aload_n 0, 1) := by decide +kernel
theorem dX11_hole_18 : decode cX11_hole 18 = .ok (.getfield 15, 3) := by decide +kernel
theorem dX11_hole_21 : decode cX11_hole 21 = .ok (.iload_n 1, 1) := by decide +kernel
theorem dX11_hole_22 : decode cX11_hole 22 = .ok (.bipush 10, 2) := by decide +kernel
theorem dX11_hole_24 : decode cX11_hole 24 = .ok (.imul, 1) := by decide +kernel
theorem dX11_hole_25 : decode cX11_hole 25 = .ok (.iload_n 2, 1) := by decide +kernel
theorem dX11_hole_26 : decode cX11_hole 26 = .ok (.iadd, 1) := by decide +kernel
theorem dX11_hole_27 : decode cX11_hole 27 = .ok (.aaload, 1) := by decide +kernel
theorem dX11_hole_28 : decode cX11_hole 28 = .ok (.astore 4, 2) := by decide +kernel
theorem dX11_hole_30 : decode cX11_hole 30 = .ok (.aload 4, 2) := by decide +kernel
theorem dX11_hole_32 : decode cX11_hole 32 = .ok (.getfield 187, 3) := by decide +kernel
theorem dX11_hole_35 : decode cX11_hole 35 = .ok (.istore 5, 2) := by decide +kernel
theorem dX11_hole_37 : decode cX11_hole 37 = .ok (.aload 4, 2) := by decide +kernel
theorem dX11_hole_39 : decode cX11_hole 39 = .ok (.iload_n 3, 1) := by decide +kernel
theorem dX11_hole_40 : decode cX11_hole 40 = .ok (.putfield 187, 3) := by decide +kernel
theorem dX11_hole_43 : decode cX11_hole 43 = .ok (.iload 5, 2) := by decide +kernel
theorem dX11_hole_45 : decode cX11_hole 45 = .ok (.invokestatic 163, 3) := by decide +kernel
theorem dX11_hole_48 : decode cX11_hole 48 = .ok (.ireturn, 1) := by decide +kernel
theorem dX11_cost_0 : decode cX11_cost 0 = .ok (.aload_n 0, 1) := by decide +kernel
theorem dX11_cost_1 : decode cX11_cost 1 = .ok (.iload_n 2, 1) := by decide +kernel
theorem dX11_cost_2 : decode cX11_cost 2 = .ok (.iload_n 1, 1) := by decide +kernel
theorem dX11_cost_3 : decode cX11_cost 3 = .ok (.invokevirtual 190, 3) := by decide +kernel
theorem dX11_cost_6 : decode cX11_cost 6 = .ok (.astore 4, 2) := by decide +kernel
theorem dX11_cost_8 : decode cX11_cost 8 = .ok (.aload_n 0, 1) := by decide +kernel
theorem dX11_cost_9 : decode cX11_cost 9 = .ok (.iload_n 3, 1) := by decide +kernel
theorem dX11_cost_10 : decode cX11_cost 10 = .ok (.iload_n 1, 1) := by decide +kernel
theorem dX11_cost_11 : decode cX11_cost 11 = .ok (.invokevirtual 190, 3) := by decide +kernel
theorem dX11_cost_14 : decode cX11_cost 14 = .ok (.astore 5, 2) := by decide +kernel
theorem dX11_cost_16 : decode cX11_cost 16 = .ok (.aload 4, 2) := by decide +kernel
theorem dX11_cost_18 : decode cX11_cost 18 = .ok (.ifnull 8, 3) := by decide +kernel
theorem dX11_cost_21 : decode cX11_cost 21 = .ok (.aload 5, 2) := by decide +kernel
theorem dX11_cost_23 : decode cX11_cost 23 = .ok (.ifnonnull 5, 3) := by decide +kernel
theorem dX11_cost_26 : decode cX11_cost 26 = .ok (.iconst (-1), 1) := by decide +kernel
theorem dX11_cost_27 : decode cX11_cost 27 = .ok (.ireturn, 1) := by decide +kernel
theorem dX11_cost_28 : decode cX11_cost 28 = .ok (.aload_n 0, 1) := by decide +kernel
theorem dX11_cost_29 : decode cX11_cost 29 = .ok (.getfield 44, 3) := by decide +kernel
theorem dX11_cost_32 : decode cX11_cost 32 = .ok (.aload 4, 2) := by decide +kernel
theorem dX11_cost_34 : decode cX11_cost 34 = .ok (.aload 5, 2) := by decide +kernel
theorem dX11_cost_36 : decode cX11_cost 36 = .ok (.invokevirtual 193, 3) := by decide +kernel
theorem dX11_cost_39 : decode cX11_cost 39 = .ok (.ireturn, 1) := by decide +kernel
theorem dX11_way_0 : decode cX11_way 0 = .ok (.aload_n 0, 1) := by decide +kernel
theorem dX11_way_1 : decode cX11_way 1 = .ok (.iload_n 2, 1) := by decide +kernel
theorem dX11_way_2 : decode cX11_way 2 = .ok (.iload_n 1, 1) := by decide +kernel
theorem dX11_way_3 : decode cX11_way 3 = .ok (.invokevirtual 190, 3) := by decide +kernel
theorem dX11_way_6 : decode cX11_way 6 = .ok (.astore 5, 2) := by decide +kernel
theorem dX11_way_8 : decode cX11_way 8 = .ok (.aload_n 0, 1) := by decide +kernel
theorem dX11_way_9 : decode cX11_way 9 = .ok (.iload_n 3, 1) := by decide +kernel
theorem dX11_way_10 : decode cX11_way 10 = .ok (.iload_n 1, 1) := by decide +kernel
theorem dX11_way_11 : decode cX11_way 11 = .ok (.invokevirtual 190, 3) := by decide +kernel
theorem dX11_way_14 : decode cX11_way 14 = .ok (.astore 6, 2) := by decide +kernel
theorem dX11_way_16 : decode cX11_way 16 = .ok (.aload 5, 2) := by decide +kernel
theorem dX11_way_18 : decode cX11_way 18 = .ok (.ifnull 14, 3) := by decide +kernel
theorem dX11_way_21 : decode cX11_way 21 = .ok (.aload 6, 2) := by decide +kernel
theorem dX11_way_23 : decode cX11_way 23 = .ok (.ifnull 9, 3) := by decide +kernel
theorem dX11_way_26 : decode cX11_way 26 = .ok (.iload 4, 2) := by decide +kernel
theorem dX11_way_28 : decode cX11_way 28 = .ok (.iconst (-1), 1) := by decide +kernel
theorem dX11_way_29 : decode cX11_way 29 = .ok (.if_icmp .ge 5, 3) := by decide +kernel
theorem dX11_way_32 : decode cX11_way 32 = .ok (.iconst (-1), 1) := by decide +kernel
theorem dX11_way_33 : decode cX11_way 33 = .ok (.ireturn, 1) := by decide +kernel
theorem dX11_way_34 : decode cX11_way 34 = .ok (.aload_n 0, 1) := by decide +kernel
theorem dX11_way_35 : decode cX11_way 35 = .ok (.getfield 44, 3) := by decide +kernel
theorem dX11_way_38 : decode cX11_way 38 = .ok (.aload 5, 2) := by decide +kernel
theorem dX11_way_40 : decode cX11_way 40 = .ok (.aload 6, 2) := by decide +kernel
theorem dX11_way_42 : decode cX11_way 42 = .ok (.invokevirtual 197, 3) := by decide +kernel
theorem dX11_way_45 : decode cX11_way 45 = .ok (.iload 4, 2) := by decide +kernel
theorem dX11_way_47 : decode cX11_way 47 = .ok (.aload_n 0, 1) := by decide +kernel
theorem dX11_way_48 : decode cX11_way 48 = .ok (.getfield 44, 3) := by decide +kernel
theorem dX11_way_51 : decode cX11_way 51 = .ok (.getfield 201, 3) := by decide +kernel
theorem dX11_way_54 : decode cX11_way 54 = .ok (.if_icmp .lt 5, 3) := by decide +kernel
theorem dX11_way_57 : decode cX11_way 57 = .ok (.iconst (-1), 1) := by decide +kernel
theorem dX11_way_58 : decode cX11_way 58 = .ok (.ireturn, 1) := by decide +kernel
theorem dX11_way_59 : decode cX11_way 59 = .ok (.iload 4, 2) := by decide +kernel
theorem dX11_way_61 : decode cX11_way 61 = .ok (.ifCond .ge 13, 3) := by decide +kernel
theorem dX11_way_64 : decode cX11_way 64 = .ok (.aload_n 0, 1) := by decide +kernel
theorem dX11_way_65 : decode cX11_way 65 = .ok (.getfield 44, 3) := by decide +kernel
theorem dX11_way_68 : decode cX11_way 68 = .ok (.getfield 201, 3) := by decide +kernel
theorem dX11_way_71 : decode cX11_way 71 = .ok (.goto 13, 3) := by decide +kernel
theorem dX11_way_74 : decode cX11_way 74 = .ok (.aload_n 0, 1) := by decide +kernel
theorem dX11_way_75 : decode cX11_way 75 = .ok (.getfield 44, 3) := by decide +kernel
theorem dX11_way_78 : decode cX11_way 78 = .ok (.getfield 204, 3) := by decide +kernel
theorem dX11_way_81 : decode cX11_way 81 = .ok (.iload 4, 2) := by decide +kernel
theorem dX11_way_83 : decode cX11_way 83 = .ok (.iaload, 1) := by decide +kernel
theorem dX11_way_84 : decode cX11_way 84 = .ok (.ireturn, 1) := by decide +kernel
theorem dX11_kin_0 : decode cX11_kin 0 = .ok (.aload_n 0, 1) := by decide +kernel
theorem dX11_kin_1 : decode cX11_kin 1 = .ok (.iload_n 2, 1) := by decide +kernel
theorem dX11_kin_2 : decode cX11_kin 2 = .ok (.iload_n 1, 1) := by decide +kernel
theorem dX11_kin_3 : decode cX11_kin 3 = .ok (.invokevirtual 190, 3) := by decide +kernel
theorem dX11_kin_6 : decode cX11_kin 6 = .ok (.astore 4, 2) := by decide +kernel
theorem dX11_kin_8 : decode cX11_kin 8 = .ok (.aload_n 0, 1) := by decide +kernel
theorem dX11_kin_9 : decode cX11_kin 9 = .ok (.iload_n 3, 1) := by decide +kernel
theorem dX11_kin_10 : decode cX11_kin 10 = .ok (.iload_n 1, 1) := by decide +kernel
theorem dX11_kin_11 : decode cX11_kin 11 = .ok (.invokevirtual 190, 3) := by decide +kernel
theorem dX11_kin_14 : decode cX11_kin 14 = .ok (.astore 5, 2) := by decide +kernel
theorem dX11_kin_16 : decode cX11_kin 16 = .ok (.aload 4, 2) := by decide +kernel
theorem dX11_kin_18 : decode cX11_kin 18 = .ok (.ifnull 8, 3) := by decide +kernel
theorem dX11_kin_21 : decode cX11_kin 21 = .ok (.aload 5, 2) := by decide +kernel
theorem dX11_kin_23 : decode cX11_kin 23 = .ok (.ifnonnull 5, 3) := by decide +kernel
theorem dX11_kin_26 : decode cX11_kin 26 = .ok (.iconst (-1), 1) := by decide +kernel
theorem dX11_kin_27 : decode cX11_kin 27 = .ok (.ireturn, 1) := by decide +kernel
theorem dX11_kin_28 : decode cX11_kin 28 = .ok (.iload_n 2, 1) := by decide +kernel
theorem dX11_kin_29 : decode cX11_kin 29 = .ok (.iload_n 3, 1) := by decide +kernel
theorem dX11_kin_30 : decode cX11_kin 30 = .ok (.if_icmp .ne 6, 3) := by decide +kernel
theorem dX11_kin_33 : decode cX11_kin 33 = .ok (.bipush (-2), 2) := by decide +kernel
theorem dX11_kin_35 : decode cX11_kin 35 = .ok (.ireturn, 1) := by decide +kernel
theorem dX11_kin_36 : decode cX11_kin 36 = .ok (.aload_n 0, 1) := by decide +kernel
theorem dX11_kin_37 : decode cX11_kin 37 = .ok (.aload 4, 2) := by decide +kernel
theorem dX11_kin_39 : decode cX11_kin 39 = .ok (.aload 5, 2) := by decide +kernel
theorem dX11_kin_41 : decode cX11_kin 41 = .ok (.invokevirtual 207, 3) := by decide +kernel
theorem dX11_kin_44 : decode cX11_kin 44 = .ok (.invokestatic 163, 3) := by decide +kernel
theorem dX11_kin_47 : decode cX11_kin 47 = .ok (.ireturn, 1) := by decide +kernel
theorem dX11_set_0 : decode cX11_set 0 = .ok (.aload_n 0, 1) := by decide +kernel
theorem dX11_set_1 : decode cX11_set 1 = .ok (.iload_n 2, 1) := by decide +kernel
theorem dX11_set_2 : decode cX11_set 2 = .ok (.iload_n 1, 1) := by decide +kernel
theorem dX11_set_3 : decode cX11_set 3 = .ok (.invokevirtual 190, 3) := by decide +kernel
theorem dX11_set_6 : decode cX11_set 6 = .ok (.ifnonnull 5, 3) := by decide +kernel
theorem dX11_set_9 : decode cX11_set 9 = .ok (.iconst (-1), 1) := by decide +kernel
theorem dX11_set_10 : decode cX11_set 10 = .ok (.ireturn, 1) := by decide +kernel
theorem dX11_set_11 : decode cX11_set 11 = .ok (.aload_n 0, 1) := by decide +kernel
theorem dX11_set_12 : decode cX11_set 12 = .ok (.iload_n 1, 1) := by decide +kernel
theorem dX11_set_13 : decode cX11_set 13 = .ok (.iload_n 2, 1) := by decide +kernel
theorem dX11_set_14 : decode cX11_set 14 = .ok (.invokevirtual 211, 3) := by decide +kernel
theorem dX11_set_17 : decode cX11_set 17 = .ok (.ireturn, 1) := by decide +kernel
theorem dX11_odds_0 : decode cX11_odds 0 = .ok (.aload_n 0, 1) := by decide +kernel
theorem dX11_odds_1 : decode cX11_odds 1 = .ok (.iload_n 2, 1) := by decide +kernel
theorem dX11_odds_2 : decode cX11_odds 2 = .ok (.iload_n 1, 1) := by decide +kernel
theorem dX11_odds_3 : decode cX11_odds 3 = .ok (.invokevirtual 190, 3) := by decide +kernel
theorem dX11_odds_6 : decode cX11_odds 6 = .ok (.astore 5, 2) := by decide +kernel
theorem dX11_odds_8 : decode cX11_odds 8 = .ok (.aload 5, 2) := by decide +kernel
theorem dX11_odds_10 : decode cX11_odds 10 = .ok (.ifnull 22, 3) := by decide +kernel
theorem dX11_odds_13 : decode cX11_odds 13 = .ok (.aload_n 0, 1) := by decide +kernel
theorem dX11_odds_14 : decode cX11_odds 14 = .ok (.iload_n 3, 1) := by decide +kernel
theorem dX11_odds_15 : decode cX11_odds 15 = .ok (.invokevirtual 84, 3) := by decide +kernel
theorem dX11_odds_18 : decode cX11_odds 18 = .ok (.ifCond .eq 14, 3) := by decide +kernel
theorem dX11_odds_21 : decode cX11_odds 21 = .ok (.iload 4, 2) := by decide +kernel
theorem dX11_odds_23 : decode cX11_odds 23 = .ok (.ifCond .lt 9, 3) := by decide +kernel
theorem dX11_odds_26 : decode cX11_odds 26 = .ok (.iload 4, 2) := by decide +kernel
theorem dX11_odds_28 : decode cX11_odds 28 = .ok (.iconst 1, 1) := by decide +kernel
theorem dX11_odds_29 : decode cX11_odds 29 = .ok (.if_icmp .le 5, 3) := by decide +kernel
theorem dX11_odds_32 : decode cX11_odds 32 = .ok (.iconst (-1), 1) := by decide +kernel
theorem dX11_odds_33 : decode cX11_odds 33 = .ok (.ireturn, 1) := by decide +kernel
theorem dX11_odds_34 : decode cX11_odds 34 = .ok (.iconst 0, 1) := by decide +kernel
theorem dX11_odds_35 : decode cX11_odds 35 = .ok (.istore 6, 2) := by decide +kernel
theorem dX11_odds_37 : decode cX11_odds 37 = .ok (.iconst 0, 1) := by decide +kernel
theorem dX11_odds_38 : decode cX11_odds 38 = .ok (.istore 7, 2) := by decide +kernel
theorem dX11_odds_40 : decode cX11_odds 40 = .ok (.iconst 0, 1) := by decide +kernel
theorem dX11_odds_41 : decode cX11_odds 41 = .ok (.istore 8, 2) := by decide +kernel
theorem dX11_odds_43 : decode cX11_odds 43 = .ok (.iload 8, 2) := by decide +kernel
theorem dX11_odds_45 : decode cX11_odds 45 = .ok (.bipush 10, 2) := by decide +kernel
theorem dX11_odds_47 : decode cX11_odds 47 = .ok (.if_icmp .ge 48, 3) := by decide +kernel
theorem dX11_odds_50 : decode cX11_odds 50 = .ok (.aload_n 0, 1) := by decide +kernel
theorem dX11_odds_51 : decode cX11_odds 51 = .ok (.iload_n 3, 1) := by decide +kernel
theorem dX11_odds_52 : decode cX11_odds 52 = .ok (.iload 8, 2) := by decide +kernel
theorem dX11_odds_54 : decode cX11_odds 54 = .ok (.invokevirtual 190, 3) := by decide +kernel
theorem dX11_odds_57 : decode cX11_odds 57 = .ok (.astore 9, 2) := by decide +kernel
theorem dX11_odds_59 : decode cX11_odds 59 = .ok (.iload 8, 2) := by decide +kernel
theorem dX11_odds_61 : decode cX11_odds 61 = .ok (.iload_n 1, 1) := by decide +kernel
theorem dX11_odds_62 : decode cX11_odds 62 = .ok (.if_icmp .eq 27, 3) := by decide +kernel
theorem dX11_odds_65 : decode cX11_odds 65 = .ok (.aload 9, 2) := by decide +kernel
theorem dX11_odds_67 : decode cX11_odds 67 = .ok (.ifnull 22, 3) := by decide +kernel
theorem dX11_odds_70 : decode cX11_odds 70 = .ok (.iinc 7 1, 3) := by decide +kernel
theorem dX11_odds_73 : decode cX11_odds 73 = .ok (.iload 6, 2) := by decide +kernel
theorem dX11_odds_75 : decode cX11_odds 75 = .ok (.aload_n 0, 1) := by decide +kernel
theorem dX11_odds_76 : decode cX11_odds 76 = .ok (.aload 5, 2) := by decide +kernel
theorem dX11_odds_78 : decode cX11_odds 78 = .ok (.aload 9, 2) := by decide +kernel
theorem dX11_odds_80 : decode cX11_odds 80 = .ok (.invokevirtual 207, 3) := by decide +kernel
theorem dX11_odds_83 : decode cX11_odds 83 = .ok (.invokestatic 163, 3) := by decide +kernel
theorem dX11_odds_86 : decode cX11_odds 86 = .ok (.iadd, 1) := by decide +kernel
theorem dX11_odds_87 : decode cX11_odds 87 = .ok (.istore 6, 2) := by decide +kernel
theorem dX11_odds_89 : decode cX11_odds 89 = .ok (.iinc 8 1, 3) := by decide +kernel
theorem dX11_odds_92 : decode cX11_odds 92 = .ok (.goto (-49), 3) := by decide +kernel
theorem dX11_odds_95 : decode cX11_odds 95 = .ok (.iload 4, 2) := by decide +kernel
theorem dX11_odds_97 : decode cX11_odds 97 = .ok (.ifCond .ne 8, 3) := by decide +kernel
theorem dX11_odds_100 : decode cX11_odds 100 = .ok (.iload 6, 2) := by decide +kernel
theorem dX11_odds_102 : decode cX11_odds 102 = .ok (.goto 5, 3) := by decide +kernel
theorem dX11_odds_105 : decode cX11_odds 105 = .ok (.iload 7, 2) := by decide +kernel
theorem dX11_odds_107 : decode cX11_odds 107 = .ok (.ireturn, 1) := by decide +kernel
theorem dX11_matches_0 : decode cX11_matches 0 = .ok (.aload_n 0, 1) := by decide +kernel
theorem dX11_matches_1 : decode cX11_matches 1 = .ok (.iload_n 1, 1) := by decide +kernel
theorem dX11_matches_2 : decode cX11_matches 2 = .ok (.invokevirtual 84, 3) := by decide +kernel
theorem dX11_matches_5 : decode cX11_matches 5 = .ok (.ifCond .eq 11, 3) := by decide +kernel
theorem dX11_matches_8 : decode cX11_matches 8 = .ok (.aload_n 0, 1) := by decide +kernel
theorem dX11_matches_9 : decode cX11_matches 9 = .ok (.iload_n 2, 1) := by decide +kernel
theorem dX11_matches_10 : decode cX11_matches 10 = .ok (.invokevirtual 84, 3) := by decide +kernel
theorem dX11_matches_13 : decode cX11_matches 13 = .ok (.ifCond .ne 5, 3) := by decide +kernel
theorem dX11_matches_16 : decode cX11_matches 16 = .ok (.iconst (-1), 1) := by decide +kernel
theorem dX11_matches_17 : decode cX11_matches 17 = .ok (.ireturn, 1) := by decide +kernel
theorem dX11_matches_18 : decode cX11_matches 18 = .ok (.iload_n 1, 1) := by decide +kernel
theorem dX11_matches_19 : decode cX11_matches 19 = .ok (.iload_n 2, 1) := by decide +kernel
theorem dX11_matches_20 : decode cX11_matches 20 = .ok (.if_icmp .eq 25, 3) := by decide +kernel
theorem dX11_matches_23 : decode cX11_matches 23 = .ok (.iload_n 3, 1) := by decide +kernel
theorem dX11_matches_24 : decode cX11_matches 24 = .ok (.invokestatic 214, 3) := by decide +kernel
theorem dX11_matches_27 : decode cX11_matches 27 = .ok (.ifCond .eq 18, 3) := by decide +kernel
theorem dX11_matches_30 : decode cX11_matches 30 = .ok (.iload 4, 2) := by decide +kernel
theorem dX11_matches_32 : decode cX11_matches 32 = .ok (.invokestatic 214, 3) := by decide +kernel
theorem dX11_matches_35 : decode cX11_matches 35 = .ok (.ifCond .eq 10, 3) := by decide +kernel
theorem dX11_matches_38 : decode cX11_matches 38 = .ok (.iload_n 3, 1) := by decide +kernel
theorem dX11_matches_39 : decode cX11_matches 39 = .ok (.iload 4, 2) := by decide +kernel
theorem dX11_matches_41 : decode cX11_matches 41 = .ok (.iadd, 1) := by decide +kernel
theorem dX11_matches_42 : decode cX11_matches 42 = .ok (.ifCond .ne 6, 3) := by decide +kernel
theorem dX11_matches_45 : decode cX11_matches 45 = .ok (.bipush (-2), 2) := by decide +kernel
theorem dX11_matches_47 : decode cX11_matches 47 = .ok (.ireturn, 1) := by decide +kernel
theorem dX11_matches_48 : decode cX11_matches 48 = .ok (.iconst 0, 1) := by decide +kernel
theorem dX11_matches_49 : decode cX11_matches 49 = .ok (.istore 5, 2) := by decide +kernel
theorem dX11_matches_51 : decode cX11_matches 51 = .ok (.iconst 0, 1) := by decide +kernel
theorem dX11_matches_52 : decode cX11_matches 52 = .ok (.istore 6, 2) := by decide +kernel
theorem dX11_matches_54 : decode cX11_matches 54 = .ok (.iload 6, 2) := by decide +kernel
theorem dX11_matches_56 : decode cX11_matches 56 = .ok (.bipush 10, 2) := by decide +kernel
theorem dX11_matches_58 : decode cX11_matches 58 = .ok (.if_icmp .ge 81, 3) := by decide +kernel
theorem dX11_matches_61 : decode cX11_matches 61 = .ok (.aload_n 0, 1) := by decide +kernel
theorem dX11_matches_62 : decode cX11_matches 62 = .ok (.iload_n 1, 1) := by decide +kernel
theorem dX11_matches_63 : decode cX11_matches 63 = .ok (.iload 6, 2) := by decide +kernel
theorem dX11_matches_65 : decode cX11_matches 65 = .ok (.invokevirtual 190, 3) := by decide +kernel
theorem dX11_matches_68 : decode cX11_matches 68 = .ok (.astore 7, 2) := by decide +kernel
theorem dX11_matches_70 : decode cX11_matches 70 = .ok (.aload_n 0, 1) := by decide +kernel
theorem dX11_matches_71 : decode cX11_matches 71 = .ok (.iload_n 2, 1) := by decide +kernel
theorem dX11_matches_72 : decode cX11_matches 72 = .ok (.iload 6, 2) := by decide +kernel
theorem dX11_matches_74 : decode cX11_matches 74 = .ok (.invokevirtual 190, 3) := by decide +kernel
theorem dX11_matches_77 : decode cX11_matches 77 = .ok (.astore 8, 2) := by decide +kernel
theorem dX11_matches_79 : decode cX11_matches 79 = .ok (.aload 7, 2) := by decide +kernel
theorem dX11_matches_81 : decode cX11_matches 81 = .ok (.ifnull 52, 3) := by decide +kernel
theorem dX11_matches_84 : decode cX11_matches 84 = .ok (.aload 8, 2) := by decide +kernel
theorem dX11_matches_86 : decode cX11_matches 86 = .ok (.ifnull 47, 3) := by decide +kernel
theorem dX11_matches_89 : decode cX11_matches 89 = .ok (.aload_n 0, 1) := by decide +kernel
theorem dX11_matches_90 : decode cX11_matches 90 = .ok (.aload 7, 2) := by decide +kernel
theorem dX11_matches_92 : decode cX11_matches 92 = .ok (.aload 8, 2) := by decide +kernel
theorem dX11_matches_94 : decode cX11_matches 94 = .ok (.invokevirtual 207, 3) := by decide +kernel
theorem dX11_matches_97 : decode cX11_matches 97 = .ok (.ifCond .eq 36, 3) := by decide +kernel
theorem dX11_matches_100 : decode cX11_matches 100 = .ok (.aload_n 0, 1) := by decide +kernel
theorem dX11_matches_101 : decode cX11_matches 101 = .ok (.getfield 44, 3) := by decide +kernel
theorem dX11_matches_104 : decode cX11_matches 104 = .ok (.aload 7, 2) := by decide +kernel
theorem dX11_matches_106 : decode cX11_matches 106 = .ok (.aload 8, 2) := by decide +kernel
theorem dX11_matches_108 : decode cX11_matches 108 = .ok (.invokevirtual 197, 3) := by decide +kernel
theorem dX11_matches_111 : decode cX11_matches 111 = .ok (.iload 5, 2) := by decide +kernel
theorem dX11_matches_113 : decode cX11_matches 113 = .ok (.aload_n 0, 1) := by decide +kernel
theorem dX11_matches_114 : decode cX11_matches 114 = .ok (.getfield 44, 3) := by decide +kernel
theorem dX11_matches_117 : decode cX11_matches 117 = .ok (.bipush 100, 2) := by decide +kernel
theorem dX11_matches_119 : decode cX11_matches 119 = .ok (.iload_n 3, 1) := by decide +kernel
theorem dX11_matches_120 : decode cX11_matches 120 = .ok (.imul, 1) := by decide +kernel
theorem dX11_matches_121 : decode cX11_matches 121 = .ok (.iload 4, 2) := by decide +kernel
theorem dX11_matches_123 : decode cX11_matches 123 = .ok (.iadd, 1) := by decide +kernel
theorem dX11_matches_124 : decode cX11_matches 124 = .ok (.invokevirtual 217, 3) := by decide +kernel
theorem dX11_matches_127 : decode cX11_matches 127 = .ok (.invokestatic 163, 3) := by decide +kernel
theorem dX11_matches_130 : decode cX11_matches 130 = .ok (.iadd, 1) := by decide +kernel
theorem dX11_matches_131 : decode cX11_matches 131 = .ok (.istore 5, 2) := by decide +kernel
theorem dX11_matches_133 : decode cX11_matches 133 = .ok (.iinc 6 1, 3) := by decide +kernel
theorem dX11_matches_136 : decode cX11_matches 136 = .ok (.goto (-82), 3) := by decide +kernel
theorem dX11_matches_139 : decode cX11_matches 139 = .ok (.iload 5, 2) := by decide +kernel
theorem dX11_matches_141 : decode cX11_matches 141 = .ok (.ireturn, 1) := by decide +kernel
theorem dX11_far_0 : decode cX11_far 0 = .ok (.aload_n 0, 1) := by decide +kernel
theorem dX11_far_1 : decode cX11_far 1 = .ok (.iload_n 1, 1) := by decide +kernel
theorem dX11_far_2 : decode cX11_far 2 = .ok (.invokevirtual 84, 3) := by decide +kernel
theorem dX11_far_5 : decode cX11_far 5 = .ok (.ifCond .eq 20, 3) := by decide +kernel
theorem dX11_far_8 : decode cX11_far 8 = .ok (.aload_n 0, 1) := by decide +kernel
theorem dX11_far_9 : decode cX11_far 9 = .ok (.iload_n 2, 1) := by decide +kernel
theorem dX11_far_10 : decode cX11_far 10 = .ok (.invokevirtual 84, 3) := by decide +kernel
theorem dX11_far_13 : decode cX11_far 13 = .ok (.ifCond .eq 12, 3) := by decide +kernel
theorem dX11_far_16 : decode cX11_far 16 = .ok (.iload_n 3, 1) := by decide +kernel
theorem dX11_far_17 : decode cX11_far 17 = .ok (.ifCond .lt 8, 3) := by decide +kernel
theorem dX11_far_20 : decode cX11_far 20 = .ok (.iload_n 3, 1) := by decide +kernel
theorem dX11_far_21 : decode cX11_far 21 = .ok (.iconst 1, 1) := by decide +kernel
theorem dX11_far_22 : decode cX11_far 22 = .ok (.if_icmp .le 5, 3) := by decide +kernel
theorem dX11_far_25 : decode cX11_far 25 = .ok (.iconst (-1), 1) := by decide +kernel
theorem dX11_far_26 : decode cX11_far 26 = .ok (.ireturn, 1) := by decide +kernel
theorem dX11_far_27 : decode cX11_far 27 = .ok (.iload_n 1, 1) := by decide +kernel
theorem dX11_far_28 : decode cX11_far 28 = .ok (.iload_n 2, 1) := by decide +kernel
theorem dX11_far_29 : decode cX11_far 29 = .ok (.if_icmp .ne 6, 3) := by decide +kernel
theorem dX11_far_32 : decode cX11_far 32 = .ok (.bipush (-2), 2) := by decide +kernel
theorem dX11_far_34 : decode cX11_far 34 = .ok (.ireturn, 1) := by decide +kernel
theorem dX11_far_35 : decode cX11_far 35 = .ok (.aload_n 0, 1) := by decide +kernel
theorem dX11_far_36 : decode cX11_far 36 = .ok (.iload_n 1, 1) := by decide +kernel
theorem dX11_far_37 : decode cX11_far 37 = .ok (.iload_n 2, 1) := by decide +kernel
theorem dX11_far_38 : decode cX11_far 38 = .ok (.invokevirtual 220, 3) := by decide +kernel
theorem dX11_far_41 : decode cX11_far 41 = .ok (.istore 4, 2) := by decide +kernel
theorem dX11_far_43 : decode cX11_far 43 = .ok (.iload_n 3, 1) := by decide +kernel
theorem dX11_far_44 : decode cX11_far 44 = .ok (.ifCond .ne 14, 3) := by decide +kernel
theorem dX11_far_47 : decode cX11_far 47 = .ok (.aload_n 0, 1) := by decide +kernel
theorem dX11_far_48 : decode cX11_far 48 = .ok (.iload_n 1, 1) := by decide +kernel
theorem dX11_far_49 : decode cX11_far 49 = .ok (.iload_n 2, 1) := by decide +kernel
theorem dX11_far_50 : decode cX11_far 50 = .ok (.iload 4, 2) := by decide +kernel
theorem dX11_far_52 : decode cX11_far 52 = .ok (.invokevirtual 223, 3) := by decide +kernel
theorem dX11_far_55 : decode cX11_far 55 = .ok (.goto 8, 3) := by decide +kernel
theorem dX11_far_58 : decode cX11_far 58 = .ok (.iload 4, 2) := by decide +kernel
theorem dX11_far_60 : decode cX11_far 60 = .ok (.invokestatic 227, 3) := by decide +kernel
theorem dX11_far_63 : decode cX11_far 63 = .ok (.ireturn, 1) := by decide +kernel
theorem dX11_borrowed_0 : decode cX11_borrowed 0 = .ok (.aload_n 0, 1) := by decide +kernel
theorem dX11_borrowed_1 : decode cX11_borrowed 1 = .ok (.iload_n 2, 1) := by decide +kernel
theorem dX11_borrowed_2 : decode cX11_borrowed 2 = .ok (.iload_n 1, 1) := by decide +kernel
theorem dX11_borrowed_3 : decode cX11_borrowed 3 = .ok (.invokevirtual 190, 3) := by decide +kernel
theorem dX11_borrowed_6 : decode cX11_borrowed 6 = .ok (.astore 4, 2) := by decide +kernel
theorem dX11_borrowed_8 : decode cX11_borrowed 8 = .ok (.aload_n 0, 1) := by decide +kernel
theorem dX11_borrowed_9 : decode cX11_borrowed 9 = .ok (.iload_n 3, 1) := by decide +kernel
theorem dX11_borrowed_10 : decode cX11_borrowed 10 = .ok (.iload_n 1, 1) := by decide +kernel
theorem dX11_borrowed_11 : decode cX11_borrowed 11 = .ok (.invokevirtual 190, 3) := by decide +kernel
theorem dX11_borrowed_14 : decode cX11_borrowed 14 = .ok (.astore 5, 2) := by decide +kernel
theorem dX11_borrowed_16 : decode cX11_borrowed 16 = .ok (.aload 4, 2) := by decide +kernel
theorem dX11_borrowed_18 : decode cX11_borrowed 18 = .ok (.ifnull 8, 3) := by decide +kernel
theorem dX11_borrowed_21 : decode cX11_borrowed 21 = .ok (.aload 5, 2) := by decide +kernel
theorem dX11_borrowed_23 : decode cX11_borrowed 23 = .ok (.ifnonnull 5, 3) := by decide +kernel
theorem dX11_borrowed_26 : decode cX11_borrowed 26 = .ok (.iconst (-1), 1) := by decide +kernel
theorem dX11_borrowed_27 : decode cX11_borrowed 27 = .ok (.ireturn, 1) := by decide +kernel
theorem dX11_borrowed_28 : decode cX11_borrowed 28 = .ok (.iload_n 2, 1) := by decide +kernel
theorem dX11_borrowed_29 : decode cX11_borrowed 29 = .ok (.iload_n 3, 1) := by decide +kernel
theorem dX11_borrowed_30 : decode cX11_borrowed 30 = .ok (.if_icmp .ne 6, 3) := by decide +kernel
theorem dX11_borrowed_33 : decode cX11_borrowed 33 = .ok (.bipush (-2), 2) := by decide +kernel
theorem dX11_borrowed_35 : decode cX11_borrowed 35 = .ok (.ireturn, 1) := by decide +kernel
theorem dX11_borrowed_36 : decode cX11_borrowed 36 = .ok (.aload_n 0, 1) := by decide +kernel
theorem dX11_borrowed_37 : decode cX11_borrowed 37 = .ok (.getfield 44, 3) := by decide +kernel
theorem dX11_borrowed_40 : decode cX11_borrowed 40 = .ok (.aload 4, 2) := by decide +kernel
theorem dX11_borrowed_42 : decode cX11_borrowed 42 = .ok (.aload 5, 2) := by decide +kernel
theorem dX11_borrowed_44 : decode cX11_borrowed 44 = .ok (.invokevirtual 193, 3) := by decide +kernel
theorem dX11_borrowed_47 : decode cX11_borrowed 47 = .ok (.ifCond .eq 5, 3) := by decide +kernel
theorem dX11_borrowed_50 : decode cX11_borrowed 50 = .ok (.iconst 0, 1) := by decide +kernel
theorem dX11_borrowed_51 : decode cX11_borrowed 51 = .ok (.ireturn, 1) := by decide +kernel
theorem dX11_borrowed_52 : decode cX11_borrowed 52 = .ok (.aload_n 0, 1) := by decide +kernel
theorem dX11_borrowed_53 : decode cX11_borrowed 53 = .ok (.iload_n 2, 1) := by decide +kernel
theorem dX11_borrowed_54 : decode cX11_borrowed 54 = .ok (.iload_n 3, 1) := by decide +kernel
theorem dX11_borrowed_55 : decode cX11_borrowed 55 = .ok (.invokevirtual 220, 3) := by decide +kernel
theorem dX11_borrowed_58 : decode cX11_borrowed 58 = .ok (.iconst 1, 1) := by decide +kernel
theorem dX11_borrowed_59 : decode cX11_borrowed 59 = .ok (.iload_n 1, 1) := by decide +kernel
theorem dX11_borrowed_60 : decode cX11_borrowed 60 = .ok (.ishl, 1) := by decide +kernel
theorem dX11_borrowed_61 : decode cX11_borrowed 61 = .ok (.iconst (-1), 1) := by decide +kernel
theorem dX11_borrowed_62 : decode cX11_borrowed 62 = .ok (.ixor, 1) := by decide +kernel
theorem dX11_borrowed_63 : decode cX11_borrowed 63 = .ok (.iand, 1) := by decide +kernel
theorem dX11_borrowed_64 : decode cX11_borrowed 64 = .ok (.istore 6, 2) := by decide +kernel
theorem dX11_borrowed_66 : decode cX11_borrowed 66 = .ok (.iload 6, 2) := by decide +kernel
theorem dX11_borrowed_68 : decode cX11_borrowed 68 = .ok (.invokestatic 227, 3) := by decide +kernel
theorem dX11_borrowed_71 : decode cX11_borrowed 71 = .ok (.istore 7, 2) := by decide +kernel
theorem dX11_borrowed_73 : decode cX11_borrowed 73 = .ok (.iload 7, 2) := by decide +kernel
theorem dX11_borrowed_75 : decode cX11_borrowed 75 = .ok (.iconst 2, 1) := by decide +kernel
theorem dX11_borrowed_76 : decode cX11_borrowed 76 = .ok (.if_icmp .lt 22, 3) := by decide +kernel
theorem dX11_borrowed_79 : decode cX11_borrowed 79 = .ok (.aload_n 0, 1) := by decide +kernel
theorem dX11_borrowed_80 : decode cX11_borrowed 80 = .ok (.iload_n 2, 1) := by decide +kernel
theorem dX11_borrowed_81 : decode cX11_borrowed 81 = .ok (.iload_n 3, 1) := by decide +kernel
theorem dX11_borrowed_82 : decode cX11_borrowed 82 = .ok (.iload 6, 2) := by decide +kernel
theorem dX11_borrowed_84 : decode cX11_borrowed 84 = .ok (.invokevirtual 223, 3) := by decide +kernel
theorem dX11_borrowed_87 : decode cX11_borrowed 87 = .ok (.iconst 2, 1) := by decide +kernel
theorem dX11_borrowed_88 : decode cX11_borrowed 88 = .ok (.iload 7, 2) := by decide +kernel
theorem dX11_borrowed_90 : decode cX11_borrowed 90 = .ok (.imul, 1) := by decide +kernel
theorem dX11_borrowed_91 : decode cX11_borrowed 91 = .ok (.if_icmp .le 7, 3) := by decide +kernel
theorem dX11_borrowed_94 : decode cX11_borrowed 94 = .ok (.iconst 1, 1) := by decide +kernel
theorem dX11_borrowed_95 : decode cX11_borrowed 95 = .ok (.goto 4, 3) := by decide +kernel
theorem dX11_borrowed_98 : decode cX11_borrowed 98 = .ok (.iconst 0, 1) := by decide +kernel
theorem dX11_borrowed_99 : decode cX11_borrowed 99 = .ok (.invokestatic 163, 3) := by decide +kernel
theorem dX11_borrowed_102 : decode cX11_borrowed 102 = .ok (.ireturn, 1) := by decide +kernel
theorem dX11_old_0 : decode cX11_old 0 = .ok (.iload_n 1, 1) := by decide +kernel
theorem dX11_old_1 : decode cX11_old 1 = .ok (.invokestatic 88, 3) := by decide +kernel
theorem dX11_old_4 : decode cX11_old 4 = .ok (.ifCond .eq 12, 3) := by decide +kernel
theorem dX11_old_7 : decode cX11_old 7 = .ok (.iload_n 2, 1) := by decide +kernel
theorem dX11_old_8 : decode cX11_old 8 = .ok (.ifCond .lt 8, 3) := by decide +kernel
theorem dX11_old_11 : decode cX11_old 11 = .ok (.iload_n 2, 1) := by decide +kernel
theorem dX11_old_12 : decode cX11_old 12 = .ok (.iconst 2, 1) := by decide +kernel
theorem dX11_old_13 : decode cX11_old 13 = .ok (.if_icmp .le 5, 3) := by decide +kernel
theorem dX11_old_16 : decode cX11_old 16 = .ok (.iconst (-1), 1) := by decide +kernel
theorem dX11_old_17 : decode cX11_old 17 = .ok (.ireturn, 1) := by decide +kernel
theorem dX11_old_18 : decode cX11_old 18 = .ok (.bipush (-5), 2) := by decide +kernel
theorem dX11_old_20 : decode cX11_old 20 = .ok (.istore_n 3, 1) := by decide +kernel
theorem dX11_old_21 : decode cX11_old 21 = .ok (.iconst 0, 1) := by decide +kernel
theorem dX11_old_22 : decode cX11_old 22 = .ok (.istore 4, 2) := by decide +kernel
theorem dX11_old_24 : decode cX11_old 24 = .ok (.iconst 0, 1) := by decide +kernel
theorem dX11_old_25 : decode cX11_old 25 = .ok (.istore 5, 2) := by decide +kernel
theorem dX11_old_27 : decode cX11_old 27 = .ok (.iconst 0, 1) := by decide +kernel
theorem dX11_old_28 : decode cX11_old 28 = .ok (.istore 6, 2) := by decide +kernel
theorem dX11_old_30 : decode cX11_old 30 = .ok (.iload 6, 2) := by decide +kernel
theorem dX11_old_32 : decode cX11_old 32 = .ok (.aload_n 0, 1) := by decide +kernel
theorem dX11_old_33 : decode cX11_old 33 = .ok (.getfield 64, 3) := by decide +kernel
theorem dX11_old_36 : decode cX11_old 36 = .ok (.if_icmp .ge 69, 3) := by decide +kernel
theorem dX11_old_39 : decode cX11_old 39 = .ok (.aload_n 0, 1) := by decide +kernel
theorem dX11_old_40 : decode cX11_old 40 = .ok (.iload 6, 2) := by decide +kernel
theorem dX11_old_42 : decode cX11_old 42 = .ok (.iload_n 1, 1) := by decide +kernel
theorem dX11_old_43 : decode cX11_old 43 = .ok (.invokevirtual 190, 3) := by decide +kernel
theorem dX11_old_46 : decode cX11_old 46 = .ok (.ifnull 53, 3) := by decide +kernel
theorem dX11_old_49 : decode cX11_old 49 = .ok (.aload_n 0, 1) := by decide +kernel
theorem dX11_old_50 : decode cX11_old 50 = .ok (.iload 6, 2) := by decide +kernel
theorem dX11_old_52 : decode cX11_old 52 = .ok (.iload_n 1, 1) := by decide +kernel
theorem dX11_old_53 : decode cX11_old 53 = .ok (.invokevirtual 232, 3) := by decide +kernel
theorem dX11_old_56 : decode cX11_old 56 = .ok (.istore 7, 2) := by decide +kernel
theorem dX11_old_58 : decode cX11_old 58 = .ok (.iload_n 3, 1) := by decide +kernel
theorem dX11_old_59 : decode cX11_old 59 = .ok (.ifCond .lt 10, 3) := by decide +kernel
theorem dX11_old_62 : decode cX11_old 62 = .ok (.iload 7, 2) := by decide +kernel
theorem dX11_old_64 : decode cX11_old 64 = .ok (.iload 4, 2) := by decide +kernel
theorem dX11_old_66 : decode cX11_old 66 = .ok (.if_icmp .ge 13, 3) := by decide +kernel
theorem dX11_old_69 : decode cX11_old 69 = .ok (.iload 6, 2) := by decide +kernel
theorem dX11_old_71 : decode cX11_old 71 = .ok (.istore_n 3, 1) := by decide +kernel
theorem dX11_old_72 : decode cX11_old 72 = .ok (.iload 7, 2) := by decide +kernel
theorem dX11_old_74 : decode cX11_old 74 = .ok (.istore 4, 2) := by decide +kernel
theorem dX11_old_76 : decode cX11_old 76 = .ok (.iconst 0, 1) := by decide +kernel
theorem dX11_old_77 : decode cX11_old 77 = .ok (.istore 5, 2) := by decide +kernel
theorem dX11_old_79 : decode cX11_old 79 = .ok (.iload 5, 2) := by decide +kernel
theorem dX11_old_81 : decode cX11_old 81 = .ok (.iload 7, 2) := by decide +kernel
theorem dX11_old_83 : decode cX11_old 83 = .ok (.iload 4, 2) := by decide +kernel
theorem dX11_old_85 : decode cX11_old 85 = .ok (.if_icmp .ne 7, 3) := by decide +kernel
theorem dX11_old_88 : decode cX11_old 88 = .ok (.iconst 1, 1) := by decide +kernel
theorem dX11_old_89 : decode cX11_old 89 = .ok (.goto 4, 3) := by decide +kernel
theorem dX11_old_92 : decode cX11_old 92 = .ok (.iconst 0, 1) := by decide +kernel
theorem dX11_old_93 : decode cX11_old 93 = .ok (.invokestatic 163, 3) := by decide +kernel
theorem dX11_old_96 : decode cX11_old 96 = .ok (.iadd, 1) := by decide +kernel
theorem dX11_old_97 : decode cX11_old 97 = .ok (.istore 5, 2) := by decide +kernel
theorem dX11_old_99 : decode cX11_old 99 = .ok (.iinc 6 1, 3) := by decide +kernel
theorem dX11_old_102 : decode cX11_old 102 = .ok (.goto (-72), 3) := by decide +kernel
theorem dX11_old_105 : decode cX11_old 105 = .ok (.iload_n 3, 1) := by decide +kernel
theorem dX11_old_106 : decode cX11_old 106 = .ok (.ifCond .ge 6, 3) := by decide +kernel
theorem dX11_old_109 : decode cX11_old 109 = .ok (.bipush (-5), 2) := by decide +kernel
theorem dX11_old_111 : decode cX11_old 111 = .ok (.ireturn, 1) := by decide +kernel
theorem dX11_old_112 : decode cX11_old 112 = .ok (.iload_n 2, 1) := by decide +kernel
theorem dX11_old_113 : decode cX11_old 113 = .ok (.ifCond .ne 7, 3) := by decide +kernel
theorem dX11_old_116 : decode cX11_old 116 = .ok (.iload_n 3, 1) := by decide +kernel
theorem dX11_old_117 : decode cX11_old 117 = .ok (.goto 15, 3) := by decide +kernel
theorem dX11_old_120 : decode cX11_old 120 = .ok (.iload_n 2, 1) := by decide +kernel
theorem dX11_old_121 : decode cX11_old 121 = .ok (.iconst 1, 1) := by decide +kernel
theorem dX11_old_122 : decode cX11_old 122 = .ok (.if_icmp .ne 8, 3) := by decide +kernel
theorem dX11_old_125 : decode cX11_old 125 = .ok (.iload 4, 2) := by decide +kernel
theorem dX11_old_127 : decode cX11_old 127 = .ok (.goto 5, 3) := by decide +kernel
theorem dX11_old_130 : decode cX11_old 130 = .ok (.iload 5, 2) := by decide +kernel
theorem dX11_old_132 : decode cX11_old 132 = .ok (.ireturn, 1) := by decide +kernel
theorem dX11_best_0 : decode cX11_best 0 = .ok (.aload_n 0, 1) := by decide +kernel
theorem dX11_best_1 : decode cX11_best 1 = .ok (.iload_n 1, 1) := by decide +kernel
theorem dX11_best_2 : decode cX11_best 2 = .ok (.invokevirtual 84, 3) := by decide +kernel
theorem dX11_best_5 : decode cX11_best 5 = .ok (.ifCond .eq 18, 3) := by decide +kernel
theorem dX11_best_8 : decode cX11_best 8 = .ok (.aload_n 0, 1) := by decide +kernel
theorem dX11_best_9 : decode cX11_best 9 = .ok (.iload_n 2, 1) := by decide +kernel
theorem dX11_best_10 : decode cX11_best 10 = .ok (.invokevirtual 84, 3) := by decide +kernel
theorem dX11_best_13 : decode cX11_best 13 = .ok (.ifCond .eq 10, 3) := by decide +kernel
theorem dX11_best_16 : decode cX11_best 16 = .ok (.iload 4, 2) := by decide +kernel
theorem dX11_best_18 : decode cX11_best 18 = .ok (.bipush (-2), 2) := by decide +kernel
theorem dX11_best_20 : decode cX11_best 20 = .ok (.if_icmp .ge 5, 3) := by decide +kernel
theorem dX11_best_23 : decode cX11_best 23 = .ok (.iconst (-1), 1) := by decide +kernel
theorem dX11_best_24 : decode cX11_best 24 = .ok (.ireturn, 1) := by decide +kernel
theorem dX11_best_25 : decode cX11_best 25 = .ok (.iload_n 3, 1) := by decide +kernel
theorem dX11_best_26 : decode cX11_best 26 = .ok (.invokestatic 227, 3) := by decide +kernel
theorem dX11_best_29 : decode cX11_best 29 = .ok (.istore 5, 2) := by decide +kernel
theorem dX11_best_31 : decode cX11_best 31 = .ok (.iload_n 1, 1) := by decide +kernel
theorem dX11_best_32 : decode cX11_best 32 = .ok (.iload_n 2, 1) := by decide +kernel
theorem dX11_best_33 : decode cX11_best 33 = .ok (.if_icmp .eq 24, 3) := by decide +kernel
theorem dX11_best_36 : decode cX11_best 36 = .ok (.iload_n 3, 1) := by decide +kernel
theorem dX11_best_37 : decode cX11_best 37 = .ok (.aload_n 0, 1) := by decide +kernel
theorem dX11_best_38 : decode cX11_best 38 = .ok (.getfield 77, 3) := by decide +kernel
theorem dX11_best_41 : decode cX11_best 41 = .ok (.iushr, 1) := by decide +kernel
theorem dX11_best_42 : decode cX11_best 42 = .ok (.ifCond .ne 15, 3) := by decide +kernel
theorem dX11_best_45 : decode cX11_best 45 = .ok (.iload 5, 2) := by decide +kernel
theorem dX11_best_47 : decode cX11_best 47 = .ok (.iconst 1, 1) := by decide +kernel
theorem dX11_best_48 : decode cX11_best 48 = .ok (.if_icmp .lt 9, 3) := by decide +kernel
theorem dX11_best_51 : decode cX11_best 51 = .ok (.iload 5, 2) := by decide +kernel
theorem dX11_best_53 : decode cX11_best 53 = .ok (.iconst 4, 1) := by decide +kernel
theorem dX11_best_54 : decode cX11_best 54 = .ok (.if_icmp .le 6, 3) := by decide +kernel
theorem dX11_best_57 : decode cX11_best 57 = .ok (.bipush (-2), 2) := by decide +kernel
theorem dX11_best_59 : decode cX11_best 59 = .ok (.ireturn, 1) := by decide +kernel
theorem dX11_best_60 : decode cX11_best 60 = .ok (.iload 4, 2) := by decide +kernel
theorem dX11_best_62 : decode cX11_best 62 = .ok (.iload 5, 2) := by decide +kernel
theorem dX11_best_64 : decode cX11_best 64 = .ok (.if_icmp .lt 5, 3) := by decide +kernel
theorem dX11_best_67 : decode cX11_best 67 = .ok (.iconst (-1), 1) := by decide +kernel
theorem dX11_best_68 : decode cX11_best 68 = .ok (.ireturn, 1) := by decide +kernel
theorem dX11_best_69 : decode cX11_best 69 = .ok (.iload_n 3, 1) := by decide +kernel
theorem dX11_best_70 : decode cX11_best 70 = .ok (.invokestatic 235, 3) := by decide +kernel
theorem dX11_best_73 : decode cX11_best 73 = .ok (.astore 6, 2) := by decide +kernel
theorem dX11_best_75 : decode cX11_best 75 = .ok (.iconst 4, 1) := by decide +kernel
theorem dX11_best_76 : decode cX11_best 76 = .ok (.newarray .int, 2) := by decide +kernel
theorem dX11_best_78 : decode cX11_best 78 = .ok (.astore 7, 2) := by decide +kernel
theorem dX11_best_80 : decode cX11_best 80 = .ok (.iconst 0, 1) := by decide +kernel
theorem dX11_best_81 : decode cX11_best 81 = .ok (.istore 8, 2) := by decide +kernel
theorem dX11_best_83 : decode cX11_best 83 = .ok (.iconst (-1), 1) := by decide +kernel
theorem dX11_best_84 : decode cX11_best 84 = .ok (.istore 9, 2) := by decide +kernel
theorem dX11_best_86 : decode cX11_best 86 = .ok (.iconst 1, 1) := by decide +kernel
theorem dX11_best_87 : decode cX11_best 87 = .ok (.istore 10, 2) := by decide +kernel
theorem dX11_best_89 : decode cX11_best 89 = .ok (.iconst 0, 1) := by decide +kernel
theorem dX11_best_90 : decode cX11_best 90 = .ok (.istore 11, 2) := by decide +kernel
theorem dX11_best_92 : decode cX11_best 92 = .ok (.iload 11, 2) := by decide +kernel
theorem dX11_best_94 : decode cX11_best 94 = .ok (.bipush 24, 2) := by decide +kernel
theorem dX11_best_96 : decode cX11_best 96 = .ok (.if_icmp .ge 67, 3) := by decide +kernel
theorem dX11_best_99 : decode cX11_best 99 = .ok (.iload 10, 2) := by decide +kernel
theorem dX11_best_101 : decode cX11_best 101 = .ok (.ifCond .eq 62, 3) := by decide +kernel
theorem dX11_best_104 : decode cX11_best 104 = .ok (.aload_n 0, 1) := by decide +kernel
theorem dX11_best_105 : decode cX11_best 105 = .ok (.iload_n 1, 1) := by decide +kernel
theorem dX11_best_106 : decode cX11_best 106 = .ok (.iload_n 2, 1) := by decide +kernel
theorem dX11_best_107 : decode cX11_best 107 = .ok (.aload 6, 2) := by decide +kernel
theorem dX11_best_109 : decode cX11_best 109 = .ok (.iload 5, 2) := by decide +kernel
theorem dX11_best_111 : decode cX11_best 111 = .ok (.invokevirtual 239, 3) := by decide +kernel
theorem dX11_best_114 : decode cX11_best 114 = .ok (.istore 12, 2) := by decide +kernel
theorem dX11_best_116 : decode cX11_best 116 = .ok (.iload 12, 2) := by decide +kernel
theorem dX11_best_118 : decode cX11_best 118 = .ok (.invokestatic 227, 3) := by decide +kernel
theorem dX11_best_121 : decode cX11_best 121 = .ok (.iload 9, 2) := by decide +kernel
theorem dX11_best_123 : decode cX11_best 123 = .ok (.if_icmp .le 25, 3) := by decide +kernel
theorem dX11_best_126 : decode cX11_best 126 = .ok (.iload 12, 2) := by decide +kernel
theorem dX11_best_128 : decode cX11_best 128 = .ok (.invokestatic 227, 3) := by decide +kernel
theorem dX11_best_131 : decode cX11_best 131 = .ok (.istore 9, 2) := by decide +kernel
theorem dX11_best_133 : decode cX11_best 133 = .ok (.iload 12, 2) := by decide +kernel
theorem dX11_best_135 : decode cX11_best 135 = .ok (.istore 8, 2) := by decide +kernel
theorem dX11_best_137 : decode cX11_best 137 = .ok (.aload 6, 2) := by decide +kernel
theorem dX11_best_139 : decode cX11_best 139 = .ok (.iconst 0, 1) := by decide +kernel
theorem dX11_best_140 : decode cX11_best 140 = .ok (.aload 7, 2) := by decide +kernel
theorem dX11_best_142 : decode cX11_best 142 = .ok (.iconst 0, 1) := by decide +kernel
theorem dX11_best_143 : decode cX11_best 143 = .ok (.iload 5, 2) := by decide +kernel
theorem dX11_best_145 : decode cX11_best 145 = .ok (.invokestatic 243, 3) := by decide +kernel
theorem dX11_best_148 : decode cX11_best 148 = .ok (.aload 6, 2) := by decide +kernel
theorem dX11_best_150 : decode cX11_best 150 = .ok (.iload 5, 2) := by decide +kernel
theorem dX11_best_152 : decode cX11_best 152 = .ok (.invokestatic 249, 3) := by decide +kernel
theorem dX11_best_155 : decode cX11_best 155 = .ok (.istore 10, 2) := by decide +kernel
theorem dX11_best_157 : decode cX11_best 157 = .ok (.iinc 11 1, 3) := by decide +kernel
theorem dX11_best_160 : decode cX11_best 160 = .ok (.goto (-68), 3) := by decide +kernel
theorem dX11_best_163 : decode cX11_best 163 = .ok (.iload 4, 2) := by decide +kernel
theorem dX11_best_165 : decode cX11_best 165 = .ok (.bipush (-2), 2) := by decide +kernel
theorem dX11_best_167 : decode cX11_best 167 = .ok (.if_icmp .ne 15, 3) := by decide +kernel
theorem dX11_best_170 : decode cX11_best 170 = .ok (.aload_n 0, 1) := by decide +kernel
theorem dX11_best_171 : decode cX11_best 171 = .ok (.iload_n 1, 1) := by decide +kernel
theorem dX11_best_172 : decode cX11_best 172 = .ok (.iload_n 2, 1) := by decide +kernel
theorem dX11_best_173 : decode cX11_best 173 = .ok (.invokevirtual 220, 3) := by decide +kernel
theorem dX11_best_176 : decode cX11_best 176 = .ok (.iload 8, 2) := by decide +kernel
theorem dX11_best_178 : decode cX11_best 178 = .ok (.iconst (-1), 1) := by decide +kernel
theorem dX11_best_179 : decode cX11_best 179 = .ok (.ixor, 1) := by decide +kernel
theorem dX11_best_180 : decode cX11_best 180 = .ok (.iand, 1) := by decide +kernel
theorem dX11_best_181 : decode cX11_best 181 = .ok (.ireturn, 1) := by decide +kernel
theorem dX11_best_182 : decode cX11_best 182 = .ok (.iload 4, 2) := by decide +kernel
theorem dX11_best_184 : decode cX11_best 184 = .ok (.iconst (-1), 1) := by decide +kernel
theorem dX11_best_185 : decode cX11_best 185 = .ok (.if_icmp .ne 8, 3) := by decide +kernel
theorem dX11_best_188 : decode cX11_best 188 = .ok (.iload 9, 2) := by decide +kernel
theorem dX11_best_190 : decode cX11_best 190 = .ok (.goto 8, 3) := by decide +kernel
theorem dX11_best_193 : decode cX11_best 193 = .ok (.aload 7, 2) := by decide +kernel
theorem dX11_best_195 : decode cX11_best 195 = .ok (.iload 4, 2) := by decide +kernel
theorem dX11_best_197 : decode cX11_best 197 = .ok (.iaload, 1) := by decide +kernel
theorem dX11_best_198 : decode cX11_best 198 = .ok (.ireturn, 1) := by decide +kernel
theorem dX11_feeds_0 : decode cX11_feeds 0 = .ok (.aload_n 0, 1) := by decide +kernel
theorem dX11_feeds_1 : decode cX11_feeds 1 = .ok (.iload_n 1, 1) := by decide +kernel
theorem dX11_feeds_2 : decode cX11_feeds 2 = .ok (.invokevirtual 84, 3) := by decide +kernel
theorem dX11_feeds_5 : decode cX11_feeds 5 = .ok (.ifCond .eq 19, 3) := by decide +kernel
theorem dX11_feeds_8 : decode cX11_feeds 8 = .ok (.aload_n 0, 1) := by decide +kernel
theorem dX11_feeds_9 : decode cX11_feeds 9 = .ok (.iload_n 2, 1) := by decide +kernel
theorem dX11_feeds_10 : decode cX11_feeds 10 = .ok (.invokevirtual 121, 3) := by decide +kernel
theorem dX11_feeds_13 : decode cX11_feeds 13 = .ok (.ifCond .eq 11, 3) := by decide +kernel
theorem dX11_feeds_16 : decode cX11_feeds 16 = .ok (.aload_n 0, 1) := by decide +kernel
theorem dX11_feeds_17 : decode cX11_feeds 17 = .ok (.iload_n 3, 1) := by decide +kernel
theorem dX11_feeds_18 : decode cX11_feeds 18 = .ok (.invokevirtual 121, 3) := by decide +kernel
theorem dX11_feeds_21 : decode cX11_feeds 21 = .ok (.ifCond .ne 5, 3) := by decide +kernel
theorem dX11_feeds_24 : decode cX11_feeds 24 = .ok (.iconst (-1), 1) := by decide +kernel
theorem dX11_feeds_25 : decode cX11_feeds 25 = .ok (.ireturn, 1) := by decide +kernel
theorem dX11_feeds_26 : decode cX11_feeds 26 = .ok (.iload_n 2, 1) := by decide +kernel
theorem dX11_feeds_27 : decode cX11_feeds 27 = .ok (.iload_n 3, 1) := by decide +kernel
theorem dX11_feeds_28 : decode cX11_feeds 28 = .ok (.if_icmp .ne 6, 3) := by decide +kernel
theorem dX11_feeds_31 : decode cX11_feeds 31 = .ok (.bipush (-2), 2) := by decide +kernel
theorem dX11_feeds_33 : decode cX11_feeds 33 = .ok (.ireturn, 1) := by decide +kernel
theorem dX11_feeds_34 : decode cX11_feeds 34 = .ok (.iconst 0, 1) := by decide +kernel
theorem dX11_feeds_35 : decode cX11_feeds 35 = .ok (.istore 4, 2) := by decide +kernel
theorem dX11_feeds_37 : decode cX11_feeds 37 = .ok (.iload 4, 2) := by decide +kernel
theorem dX11_feeds_39 : decode cX11_feeds 39 = .ok (.bipush 10, 2) := by decide +kernel
theorem dX11_feeds_41 : decode cX11_feeds 41 = .ok (.if_icmp .ge 46, 3) := by decide +kernel
theorem dX11_feeds_44 : decode cX11_feeds 44 = .ok (.aload_n 0, 1) := by decide +kernel
theorem dX11_feeds_45 : decode cX11_feeds 45 = .ok (.iload_n 1, 1) := by decide +kernel
theorem dX11_feeds_46 : decode cX11_feeds 46 = .ok (.iload 4, 2) := by decide +kernel
theorem dX11_feeds_48 : decode cX11_feeds 48 = .ok (.invokevirtual 190, 3) := by decide +kernel
theorem dX11_feeds_51 : decode cX11_feeds 51 = .ok (.astore 5, 2) := by decide +kernel
theorem dX11_feeds_53 : decode cX11_feeds 53 = .ok (.aload 5, 2) := by decide +kernel
theorem dX11_feeds_55 : decode cX11_feeds 55 = .ok (.ifnull 26, 3) := by decide +kernel
theorem dX11_feeds_58 : decode cX11_feeds 58 = .ok (.aload_n 0, 1) := by decide +kernel
theorem dX11_feeds_59 : decode cX11_feeds 59 = .ok (.aload 5, 2) := by decide +kernel
theorem dX11_feeds_61 : decode cX11_feeds 61 = .ok (.aload_n 0, 1) := by decide +kernel
theorem dX11_feeds_62 : decode cX11_feeds 62 = .ok (.getfield 24, 3) := by decide +kernel
theorem dX11_feeds_65 : decode cX11_feeds 65 = .ok (.iload_n 2, 1) := by decide +kernel
theorem dX11_feeds_66 : decode cX11_feeds 66 = .ok (.aaload, 1) := by decide +kernel
theorem dX11_feeds_67 : decode cX11_feeds 67 = .ok (.aload_n 0, 1) := by decide +kernel
theorem dX11_feeds_68 : decode cX11_feeds 68 = .ok (.getfield 24, 3) := by decide +kernel
theorem dX11_feeds_71 : decode cX11_feeds 71 = .ok (.iload_n 3, 1) := by decide +kernel
theorem dX11_feeds_72 : decode cX11_feeds 72 = .ok (.aaload, 1) := by decide +kernel
theorem dX11_feeds_73 : decode cX11_feeds 73 = .ok (.invokevirtual 253, 3) := by decide +kernel
theorem dX11_feeds_76 : decode cX11_feeds 76 = .ok (.ifCond .eq 5, 3) := by decide +kernel
theorem dX11_feeds_79 : decode cX11_feeds 79 = .ok (.iconst 1, 1) := by decide +kernel
theorem dX11_feeds_80 : decode cX11_feeds 80 = .ok (.ireturn, 1) := by decide +kernel
theorem dX11_feeds_81 : decode cX11_feeds 81 = .ok (.iinc 4 1, 3) := by decide +kernel
theorem dX11_feeds_84 : decode cX11_feeds 84 = .ok (.goto (-47), 3) := by decide +kernel
theorem dX11_feeds_87 : decode cX11_feeds 87 = .ok (.iconst 0, 1) := by decide +kernel
theorem dX11_feeds_88 : decode cX11_feeds 88 = .ok (.ireturn, 1) := by decide +kernel
theorem dX11_steps_0 : decode cX11_steps 0 = .ok (.aload_n 0, 1) := by decide +kernel
theorem dX11_steps_1 : decode cX11_steps 1 = .ok (.iload_n 1, 1) := by decide +kernel
theorem dX11_steps_2 : decode cX11_steps 2 = .ok (.invokevirtual 257, 3) := by decide +kernel
theorem dX11_steps_5 : decode cX11_steps 5 = .ok (.ifCond .eq 15, 3) := by decide +kernel
theorem dX11_steps_8 : decode cX11_steps 8 = .ok (.iload_n 2, 1) := by decide +kernel
theorem dX11_steps_9 : decode cX11_steps 9 = .ok (.ifCond .lt 11, 3) := by decide +kernel
theorem dX11_steps_12 : decode cX11_steps 12 = .ok (.iload_n 2, 1) := by decide +kernel
theorem dX11_steps_13 : decode cX11_steps 13 = .ok (.iload_n 1, 1) := by decide +kernel
theorem dX11_steps_14 : decode cX11_steps 14 = .ok (.invokestatic 260, 3) := by decide +kernel
theorem dX11_steps_17 : decode cX11_steps 17 = .ok (.if_icmp .lt 6, 3) := by decide +kernel
theorem dX11_steps_20 : decode cX11_steps 20 = .ok (.bipush (-2), 2) := by decide +kernel
theorem dX11_steps_22 : decode cX11_steps 22 = .ok (.ireturn, 1) := by decide +kernel
theorem dX11_steps_23 : decode cX11_steps 23 = .ok (.aload_n 0, 1) := by decide +kernel
theorem dX11_steps_24 : decode cX11_steps 24 = .ok (.invokevirtual 263, 3) := by decide +kernel
theorem dX11_steps_27 : decode cX11_steps 27 = .ok (.aload_n 0, 1) := by decide +kernel
theorem dX11_steps_28 : decode cX11_steps 28 = .ok (.iload_n 1, 1) := by decide +kernel
theorem dX11_steps_29 : decode cX11_steps 29 = .ok (.iload_n 2, 1) := by decide +kernel
theorem dX11_steps_30 : decode cX11_steps 30 = .ok (.invokevirtual 266, 3) := by decide +kernel
theorem dX11_steps_33 : decode cX11_steps 33 = .ok (.ireturn, 1) := by decide +kernel
theorem dX11_tree_0 : decode cX11_tree 0 = .ok (.aload_n 0, 1) := by decide +kernel
theorem dX11_tree_1 : decode cX11_tree 1 = .ok (.iload_n 1, 1) := by decide +kernel
theorem dX11_tree_2 : decode cX11_tree 2 = .ok (.invokevirtual 257, 3) := by decide +kernel
theorem dX11_tree_5 : decode cX11_tree 5 = .ok (.ifCond .ne 6, 3) := by decide +kernel
theorem dX11_tree_8 : decode cX11_tree 8 = .ok (.bipush (-2), 2) := by decide +kernel
theorem dX11_tree_10 : decode cX11_tree 10 = .ok (.ireturn, 1) := by decide +kernel
theorem dX11_tree_11 : decode cX11_tree 11 = .ok (.iload_n 2, 1) := by decide +kernel
theorem dX11_tree_12 : decode cX11_tree 12 = .ok (.ifCond .lt 8, 3) := by decide +kernel
theorem dX11_tree_15 : decode cX11_tree 15 = .ok (.iload_n 2, 1) := by decide +kernel
theorem dX11_tree_16 : decode cX11_tree 16 = .ok (.iconst 2, 1) := by decide +kernel
theorem dX11_tree_17 : decode cX11_tree 17 = .ok (.if_icmp .le 5, 3) := by decide +kernel
theorem dX11_tree_20 : decode cX11_tree 20 = .ok (.iconst (-1), 1) := by decide +kernel
theorem dX11_tree_21 : decode cX11_tree 21 = .ok (.ireturn, 1) := by decide +kernel
theorem dX11_tree_22 : decode cX11_tree 22 = .ok (.aload_n 0, 1) := by decide +kernel
theorem dX11_tree_23 : decode cX11_tree 23 = .ok (.invokevirtual 263, 3) := by decide +kernel
theorem dX11_tree_26 : decode cX11_tree 26 = .ok (.iload_n 1, 1) := by decide +kernel
theorem dX11_tree_27 : decode cX11_tree 27 = .ok (.invokestatic 260, 3) := by decide +kernel
theorem dX11_tree_30 : decode cX11_tree 30 = .ok (.istore_n 3, 1) := by decide +kernel
theorem dX11_tree_31 : decode cX11_tree 31 = .ok (.iconst 0, 1) := by decide +kernel
theorem dX11_tree_32 : decode cX11_tree 32 = .ok (.istore 4, 2) := by decide +kernel
theorem dX11_tree_34 : decode cX11_tree 34 = .ok (.iconst 0, 1) := by decide +kernel
theorem dX11_tree_35 : decode cX11_tree 35 = .ok (.istore 5, 2) := by decide +kernel
theorem dX11_tree_37 : decode cX11_tree 37 = .ok (.iconst 0, 1) := by decide +kernel
theorem dX11_tree_38 : decode cX11_tree 38 = .ok (.istore 6, 2) := by decide +kernel
theorem dX11_tree_40 : decode cX11_tree 40 = .ok (.iconst 0, 1) := by decide +kernel
theorem dX11_tree_41 : decode cX11_tree 41 = .ok (.istore 7, 2) := by decide +kernel
theorem dX11_tree_43 : decode cX11_tree 43 = .ok (.iload 7, 2) := by decide +kernel
theorem dX11_tree_45 : decode cX11_tree 45 = .ok (.iload_n 3, 1) := by decide +kernel
theorem dX11_tree_46 : decode cX11_tree 46 = .ok (.if_icmp .ge 61, 3) := by decide +kernel
theorem dX11_tree_49 : decode cX11_tree 49 = .ok (.aload_n 0, 1) := by decide +kernel
theorem dX11_tree_50 : decode cX11_tree 50 = .ok (.iload_n 1, 1) := by decide +kernel
theorem dX11_tree_51 : decode cX11_tree 51 = .ok (.iload 7, 2) := by decide +kernel
theorem dX11_tree_53 : decode cX11_tree 53 = .ok (.invokevirtual 266, 3) := by decide +kernel
theorem dX11_tree_56 : decode cX11_tree 56 = .ok (.istore 8, 2) := by decide +kernel
theorem dX11_tree_58 : decode cX11_tree 58 = .ok (.iload 7, 2) := by decide +kernel
theorem dX11_tree_60 : decode cX11_tree 60 = .ok (.ifCond .eq 10, 3) := by decide +kernel
theorem dX11_tree_63 : decode cX11_tree 63 = .ok (.iload 8, 2) := by decide +kernel
theorem dX11_tree_65 : decode cX11_tree 65 = .ok (.iload 5, 2) := by decide +kernel
theorem dX11_tree_67 : decode cX11_tree 67 = .ok (.if_icmp .ge 14, 3) := by decide +kernel
theorem dX11_tree_70 : decode cX11_tree 70 = .ok (.iload 7, 2) := by decide +kernel
theorem dX11_tree_72 : decode cX11_tree 72 = .ok (.istore 4, 2) := by decide +kernel
theorem dX11_tree_74 : decode cX11_tree 74 = .ok (.iload 8, 2) := by decide +kernel
theorem dX11_tree_76 : decode cX11_tree 76 = .ok (.istore 5, 2) := by decide +kernel
theorem dX11_tree_78 : decode cX11_tree 78 = .ok (.iconst 0, 1) := by decide +kernel
theorem dX11_tree_79 : decode cX11_tree 79 = .ok (.istore 6, 2) := by decide +kernel
theorem dX11_tree_81 : decode cX11_tree 81 = .ok (.iload 6, 2) := by decide +kernel
theorem dX11_tree_83 : decode cX11_tree 83 = .ok (.iload 8, 2) := by decide +kernel
theorem dX11_tree_85 : decode cX11_tree 85 = .ok (.iload 5, 2) := by decide +kernel
theorem dX11_tree_87 : decode cX11_tree 87 = .ok (.if_icmp .ne 7, 3) := by decide +kernel
theorem dX11_tree_90 : decode cX11_tree 90 = .ok (.iconst 1, 1) := by decide +kernel
theorem dX11_tree_91 : decode cX11_tree 91 = .ok (.goto 4, 3) := by decide +kernel
theorem dX11_tree_94 : decode cX11_tree 94 = .ok (.iconst 0, 1) := by decide +kernel
theorem dX11_tree_95 : decode cX11_tree 95 = .ok (.invokestatic 163, 3) := by decide +kernel
theorem dX11_tree_98 : decode cX11_tree 98 = .ok (.iadd, 1) := by decide +kernel
theorem dX11_tree_99 : decode cX11_tree 99 = .ok (.istore 6, 2) := by decide +kernel
theorem dX11_tree_101 : decode cX11_tree 101 = .ok (.iinc 7 1, 3) := by decide +kernel
theorem dX11_tree_104 : decode cX11_tree 104 = .ok (.goto (-61), 3) := by decide +kernel
theorem dX11_tree_107 : decode cX11_tree 107 = .ok (.iload_n 2, 1) := by decide +kernel
theorem dX11_tree_108 : decode cX11_tree 108 = .ok (.ifCond .ne 8, 3) := by decide +kernel
theorem dX11_tree_111 : decode cX11_tree 111 = .ok (.iload 4, 2) := by decide +kernel
theorem dX11_tree_113 : decode cX11_tree 113 = .ok (.goto 15, 3) := by decide +kernel
theorem dX11_tree_116 : decode cX11_tree 116 = .ok (.iload_n 2, 1) := by decide +kernel
theorem dX11_tree_117 : decode cX11_tree 117 = .ok (.iconst 1, 1) := by decide +kernel
theorem dX11_tree_118 : decode cX11_tree 118 = .ok (.if_icmp .ne 8, 3) := by decide +kernel
theorem dX11_tree_121 : decode cX11_tree 121 = .ok (.iload 5, 2) := by decide +kernel
theorem dX11_tree_123 : decode cX11_tree 123 = .ok (.goto 5, 3) := by decide +kernel
theorem dX11_tree_126 : decode cX11_tree 126 = .ok (.iload 6, 2) := by decide +kernel
theorem dX11_tree_128 : decode cX11_tree 128 = .ok (.ireturn, 1) := by decide +kernel
theorem dX11_claim_0 : decode cX11_claim 0 = .ok (.aload_n 0, 1) := by decide +kernel
theorem dX11_claim_1 : decode cX11_claim 1 = .ok (.iload_n 2, 1) := by decide +kernel
theorem dX11_claim_2 : decode cX11_claim 2 = .ok (.iload_n 1, 1) := by decide +kernel
theorem dX11_claim_3 : decode cX11_claim 3 = .ok (.invokevirtual 190, 3) := by decide +kernel
theorem dX11_claim_6 : decode cX11_claim 6 = .ok (.astore 6, 2) := by decide +kernel
theorem dX11_claim_8 : decode cX11_claim 8 = .ok (.aload_n 0, 1) := by decide +kernel
theorem dX11_claim_9 : decode cX11_claim 9 = .ok (.iload_n 3, 1) := by decide +kernel
theorem dX11_claim_10 : decode cX11_claim 10 = .ok (.iload_n 1, 1) := by decide +kernel
theorem dX11_claim_11 : decode cX11_claim 11 = .ok (.invokevirtual 190, 3) := by decide +kernel
theorem dX11_claim_14 : decode cX11_claim 14 = .ok (.astore 7, 2) := by decide +kernel
theorem dX11_claim_16 : decode cX11_claim 16 = .ok (.aload 6, 2) := by decide +kernel
theorem dX11_claim_18 : decode cX11_claim 18 = .ok (.ifnull 8, 3) := by decide +kernel
theorem dX11_claim_21 : decode cX11_claim 21 = .ok (.aload 7, 2) := by decide +kernel
theorem dX11_claim_23 : decode cX11_claim 23 = .ok (.ifnonnull 5, 3) := by decide +kernel
theorem dX11_claim_26 : decode cX11_claim 26 = .ok (.iconst (-1), 1) := by decide +kernel
theorem dX11_claim_27 : decode cX11_claim 27 = .ok (.ireturn, 1) := by decide +kernel
theorem dX11_claim_28 : decode cX11_claim 28 = .ok (.iload_n 2, 1) := by decide +kernel
theorem dX11_claim_29 : decode cX11_claim 29 = .ok (.iload_n 3, 1) := by decide +kernel
theorem dX11_claim_30 : decode cX11_claim 30 = .ok (.if_icmp .eq 11, 3) := by decide +kernel
theorem dX11_claim_33 : decode cX11_claim 33 = .ok (.iload 5, 2) := by decide +kernel
theorem dX11_claim_35 : decode cX11_claim 35 = .ok (.invokestatic 269, 3) := by decide +kernel
theorem dX11_claim_38 : decode cX11_claim 38 = .ok (.ifCond .ne 6, 3) := by decide +kernel
theorem dX11_claim_41 : decode cX11_claim 41 = .ok (.bipush (-2), 2) := by decide +kernel
theorem dX11_claim_43 : decode cX11_claim 43 = .ok (.ireturn, 1) := by decide +kernel
theorem dX11_claim_44 : decode cX11_claim 44 = .ok (.aload_n 0, 1) := by decide +kernel
theorem dX11_claim_45 : decode cX11_claim 45 = .ok (.getfield 157, 3) := by decide +kernel
theorem dX11_claim_48 : decode cX11_claim 48 = .ok (.ifCond .eq 6, 3) := by decide +kernel
theorem dX11_claim_51 : decode cX11_claim 51 = .ok (.bipush (-3), 2) := by decide +kernel
theorem dX11_claim_53 : decode cX11_claim 53 = .ok (.ireturn, 1) := by decide +kernel
theorem dX11_claim_54 : decode cX11_claim 54 = .ok (.aload_n 0, 1) := by decide +kernel
theorem dX11_claim_55 : decode cX11_claim 55 = .ok (.getfield 160, 3) := by decide +kernel
theorem dX11_claim_58 : decode cX11_claim 58 = .ok (.bipush 60, 2) := by decide +kernel
theorem dX11_claim_60 : decode cX11_claim 60 = .ok (.if_icmp .lt 6, 3) := by decide +kernel
theorem dX11_claim_63 : decode cX11_claim 63 = .ok (.bipush (-4), 2) := by decide +kernel
theorem dX11_claim_65 : decode cX11_claim 65 = .ok (.ireturn, 1) := by decide +kernel
theorem dX11_claim_66 : decode cX11_claim 66 = .ok (.aload_n 0, 1) := by decide +kernel
theorem dX11_claim_67 : decode cX11_claim 67 = .ok (.getfield 38, 3) := by decide +kernel
theorem dX11_claim_70 : decode cX11_claim 70 = .ok (.iconst 2, 1) := by decide +kernel
theorem dX11_claim_71 : decode cX11_claim 71 = .ok (.aload_n 0, 1) := by decide +kernel
theorem dX11_claim_72 : decode cX11_claim 72 = .ok (.getfield 160, 3) := by decide +kernel
theorem dX11_claim_75 : decode cX11_claim 75 = .ok (.imul, 1) := by decide +kernel
theorem dX11_claim_76 : decode cX11_claim 76 = .ok (.iload 5, 2) := by decide +kernel
theorem dX11_claim_78 : decode cX11_claim 78 = .ok (.iastore, 1) := by decide +kernel
theorem dX11_claim_79 : decode cX11_claim 79 = .ok (.aload_n 0, 1) := by decide +kernel
theorem dX11_claim_80 : decode cX11_claim 80 = .ok (.getfield 38, 3) := by decide +kernel
theorem dX11_claim_83 : decode cX11_claim 83 = .ok (.iconst 2, 1) := by decide +kernel
theorem dX11_claim_84 : decode cX11_claim 84 = .ok (.aload_n 0, 1) := by decide +kernel
theorem dX11_claim_85 : decode cX11_claim 85 = .ok (.getfield 160, 3) := by decide +kernel
theorem dX11_claim_88 : decode cX11_claim 88 = .ok (.imul, 1) := by decide +kernel
theorem dX11_claim_89 : decode cX11_claim 89 = .ok (.iconst 1, 1) := by decide +kernel
theorem dX11_claim_90 : decode cX11_claim 90 = .ok (.iadd, 1) := by decide +kernel
theorem dX11_claim_91 : decode cX11_claim 91 = .ok (.aload 6, 2) := by decide +kernel
theorem dX11_claim_93 : decode cX11_claim 93 = .ok (.getfield 105, 3) := by decide +kernel
theorem dX11_claim_96 : decode cX11_claim 96 = .ok (.aload 7, 2) := by decide +kernel
theorem dX11_claim_98 : decode cX11_claim 98 = .ok (.getfield 105, 3) := by decide +kernel
theorem dX11_claim_101 : decode cX11_claim 101 = .ok (.if_icmp .ne 7, 3) := by decide +kernel
theorem dX11_claim_104 : decode cX11_claim 104 = .ok (.iconst 1, 1) := by decide +kernel
theorem dX11_claim_105 : decode cX11_claim 105 = .ok (.goto 4, 3) := by decide +kernel
theorem dX11_claim_108 : decode cX11_claim 108 = .ok (.iconst 0, 1) := by decide +kernel
theorem dX11_claim_109 : decode cX11_claim 109 = .ok (.iload 4, 2) := by decide +kernel
theorem dX11_claim_111 : decode cX11_claim 111 = .ok (.if_icmp .ne 7, 3) := by decide +kernel
theorem dX11_claim_114 : decode cX11_claim 114 = .ok (.iconst 1, 1) := by decide +kernel
theorem dX11_claim_115 : decode cX11_claim 115 = .ok (.goto 4, 3) := by decide +kernel
theorem dX11_claim_118 : decode cX11_claim 118 = .ok (.iconst 0, 1) := by decide +kernel
theorem dX11_claim_119 : decode cX11_claim 119 = .ok (.invokestatic 163, 3) := by decide +kernel
theorem dX11_claim_122 : decode cX11_claim 122 = .ok (.iastore, 1) := by decide +kernel
theorem dX11_claim_123 : decode cX11_claim 123 = .ok (.aload_n 0, 1) := by decide +kernel
theorem dX11_claim_124 : decode cX11_claim 124 = .ok (.dup, 1) := by decide +kernel
theorem dX11_claim_125 : decode cX11_claim 125 = .ok (.getfield 160, 3) := by decide +kernel
theorem dX11_claim_128 : decode cX11_claim 128 = .ok (.iconst 1, 1) := by decide +kernel
theorem dX11_claim_129 : decode cX11_claim 129 = .ok (.iadd, 1) := by decide +kernel
theorem dX11_claim_130 : decode cX11_claim 130 = .ok (.putfield 160, 3) := by decide +kernel
theorem dX11_claim_133 : decode cX11_claim 133 = .ok (.aload_n 0, 1) := by decide +kernel
theorem dX11_claim_134 : decode cX11_claim 134 = .ok (.getfield 160, 3) := by decide +kernel
theorem dX11_claim_137 : decode cX11_claim 137 = .ok (.iconst 1, 1) := by decide +kernel
theorem dX11_claim_138 : decode cX11_claim 138 = .ok (.isub, 1) := by decide +kernel
theorem dX11_claim_139 : decode cX11_claim 139 = .ok (.ireturn, 1) := by decide +kernel
theorem dX11_right_0 : decode cX11_right 0 = .ok (.iload_n 1, 1) := by decide +kernel
theorem dX11_right_1 : decode cX11_right 1 = .ok (.ifCond .lt 11, 3) := by decide +kernel
theorem dX11_right_4 : decode cX11_right 4 = .ok (.iload_n 1, 1) := by decide +kernel
theorem dX11_right_5 : decode cX11_right 5 = .ok (.aload_n 0, 1) := by decide +kernel
theorem dX11_right_6 : decode cX11_right 6 = .ok (.getfield 160, 3) := by decide +kernel
theorem dX11_right_9 : decode cX11_right 9 = .ok (.if_icmp .lt 5, 3) := by decide +kernel
theorem dX11_right_12 : decode cX11_right 12 = .ok (.iconst (-1), 1) := by decide +kernel
theorem dX11_right_13 : decode cX11_right 13 = .ok (.ireturn, 1) := by decide +kernel
theorem dX11_right_14 : decode cX11_right 14 = .ok (.aload_n 0, 1) := by decide +kernel
theorem dX11_right_15 : decode cX11_right 15 = .ok (.getfield 157, 3) := by decide +kernel
theorem dX11_right_18 : decode cX11_right 18 = .ok (.ifCond .ne 6, 3) := by decide +kernel
theorem dX11_right_21 : decode cX11_right 21 = .ok (.bipush (-3), 2) := by decide +kernel
theorem dX11_right_23 : decode cX11_right 23 = .ok (.ireturn, 1) := by decide +kernel
theorem dX11_right_24 : decode cX11_right 24 = .ok (.aload_n 0, 1) := by decide +kernel
theorem dX11_right_25 : decode cX11_right 25 = .ok (.getfield 38, 3) := by decide +kernel
theorem dX11_right_28 : decode cX11_right 28 = .ok (.iconst 2, 1) := by decide +kernel
theorem dX11_right_29 : decode cX11_right 29 = .ok (.iload_n 1, 1) := by decide +kernel
theorem dX11_right_30 : decode cX11_right 30 = .ok (.imul, 1) := by decide +kernel
theorem dX11_right_31 : decode cX11_right 31 = .ok (.iconst 1, 1) := by decide +kernel
theorem dX11_right_32 : decode cX11_right 32 = .ok (.iadd, 1) := by decide +kernel
theorem dX11_right_33 : decode cX11_right 33 = .ok (.iaload, 1) := by decide +kernel
theorem dX11_right_34 : decode cX11_right 34 = .ok (.ireturn, 1) := by decide +kernel
theorem dX11_sure_0 : decode cX11_sure 0 = .ok (.iload_n 2, 1) := by decide +kernel
theorem dX11_sure_1 : decode cX11_sure 1 = .ok (.ifCond .lt 8, 3) := by decide +kernel
theorem dX11_sure_4 : decode cX11_sure 4 = .ok (.iload_n 2, 1) := by decide +kernel
theorem dX11_sure_5 : decode cX11_sure 5 = .ok (.iconst 1, 1) := by decide +kernel
theorem dX11_sure_6 : decode cX11_sure 6 = .ok (.if_icmp .le 5, 3) := by decide +kernel
theorem dX11_sure_9 : decode cX11_sure 9 = .ok (.iconst (-1), 1) := by decide +kernel
theorem dX11_sure_10 : decode cX11_sure 10 = .ok (.ireturn, 1) := by decide +kernel
theorem dX11_sure_11 : decode cX11_sure 11 = .ok (.iload_n 1, 1) := by decide +kernel
theorem dX11_sure_12 : decode cX11_sure 12 = .ok (.invokestatic 269, 3) := by decide +kernel
theorem dX11_sure_15 : decode cX11_sure 15 = .ok (.ifCond .ne 6, 3) := by decide +kernel
theorem dX11_sure_18 : decode cX11_sure 18 = .ok (.bipush (-2), 2) := by decide +kernel
theorem dX11_sure_20 : decode cX11_sure 20 = .ok (.ireturn, 1) := by decide +kernel
theorem dX11_sure_21 : decode cX11_sure 21 = .ok (.iload_n 2, 1) := by decide +kernel
theorem dX11_sure_22 : decode cX11_sure 22 = .ok (.iconst 1, 1) := by decide +kernel
theorem dX11_sure_23 : decode cX11_sure 23 = .ok (.if_icmp .ne 13, 3) := by decide +kernel
theorem dX11_sure_26 : decode cX11_sure 26 = .ok (.aload_n 0, 1) := by decide +kernel
theorem dX11_sure_27 : decode cX11_sure 27 = .ok (.getfield 157, 3) := by decide +kernel
theorem dX11_sure_30 : decode cX11_sure 30 = .ok (.ifCond .ne 6, 3) := by decide +kernel
theorem dX11_sure_33 : decode cX11_sure 33 = .ok (.bipush (-3), 2) := by decide +kernel
theorem dX11_sure_35 : decode cX11_sure 35 = .ok (.ireturn, 1) := by decide +kernel
theorem dX11_sure_36 : decode cX11_sure 36 = .ok (.iconst 0, 1) := by decide +kernel
theorem dX11_sure_37 : decode cX11_sure 37 = .ok (.istore_n 3, 1) := by decide +kernel
theorem dX11_sure_38 : decode cX11_sure 38 = .ok (.iconst 0, 1) := by decide +kernel
theorem dX11_sure_39 : decode cX11_sure 39 = .ok (.istore 4, 2) := by decide +kernel
theorem dX11_sure_41 : decode cX11_sure 41 = .ok (.iload 4, 2) := by decide +kernel
theorem dX11_sure_43 : decode cX11_sure 43 = .ok (.aload_n 0, 1) := by decide +kernel
theorem dX11_sure_44 : decode cX11_sure 44 = .ok (.getfield 160, 3) := by decide +kernel
theorem dX11_sure_47 : decode cX11_sure 47 = .ok (.if_icmp .ge 44, 3) := by decide +kernel
theorem dX11_sure_50 : decode cX11_sure 50 = .ok (.aload_n 0, 1) := by decide +kernel
theorem dX11_sure_51 : decode cX11_sure 51 = .ok (.getfield 38, 3) := by decide +kernel
theorem dX11_sure_54 : decode cX11_sure 54 = .ok (.iconst 2, 1) := by decide +kernel
theorem dX11_sure_55 : decode cX11_sure 55 = .ok (.iload 4, 2) := by decide +kernel
theorem dX11_sure_57 : decode cX11_sure 57 = .ok (.imul, 1) := by decide +kernel
theorem dX11_sure_58 : decode cX11_sure 58 = .ok (.iaload, 1) := by decide +kernel
theorem dX11_sure_59 : decode cX11_sure 59 = .ok (.iload_n 1, 1) := by decide +kernel
theorem dX11_sure_60 : decode cX11_sure 60 = .ok (.if_icmp .ne 25, 3) := by decide +kernel
theorem dX11_sure_63 : decode cX11_sure 63 = .ok (.iload_n 3, 1) := by decide +kernel
theorem dX11_sure_64 : decode cX11_sure 64 = .ok (.iload_n 2, 1) := by decide +kernel
theorem dX11_sure_65 : decode cX11_sure 65 = .ok (.ifCond .ne 7, 3) := by decide +kernel
theorem dX11_sure_68 : decode cX11_sure 68 = .ok (.iconst 1, 1) := by decide +kernel
theorem dX11_sure_69 : decode cX11_sure 69 = .ok (.goto 14, 3) := by decide +kernel
theorem dX11_sure_72 : decode cX11_sure 72 = .ok (.aload_n 0, 1) := by decide +kernel
theorem dX11_sure_73 : decode cX11_sure 73 = .ok (.getfield 38, 3) := by decide +kernel
theorem dX11_sure_76 : decode cX11_sure 76 = .ok (.iconst 2, 1) := by decide +kernel
theorem dX11_sure_77 : decode cX11_sure 77 = .ok (.iload 4, 2) := by decide +kernel
theorem dX11_sure_79 : decode cX11_sure 79 = .ok (.imul, 1) := by decide +kernel
theorem dX11_sure_80 : decode cX11_sure 80 = .ok (.iconst 1, 1) := by decide +kernel
theorem dX11_sure_81 : decode cX11_sure 81 = .ok (.iadd, 1) := by decide +kernel
theorem dX11_sure_82 : decode cX11_sure 82 = .ok (.iaload, 1) := by decide +kernel
theorem dX11_sure_83 : decode cX11_sure 83 = .ok (.iadd, 1) := by decide +kernel
theorem dX11_sure_84 : decode cX11_sure 84 = .ok (.istore_n 3, 1) := by decide +kernel
theorem dX11_sure_85 : decode cX11_sure 85 = .ok (.iinc 4 1, 3) := by decide +kernel
theorem dX11_sure_88 : decode cX11_sure 88 = .ok (.goto (-47), 3) := by decide +kernel
theorem dX11_sure_91 : decode cX11_sure 91 = .ok (.iload_n 3, 1) := by decide +kernel
theorem dX11_sure_92 : decode cX11_sure 92 = .ok (.ireturn, 1) := by decide +kernel
theorem dX11_act_0 : decode cX11_act 0 = .ok (.aload_n 0, 1) := by decide +kernel
theorem dX11_act_1 : decode cX11_act 1 = .ok (.aconst_null, 1) := by decide +kernel
theorem dX11_act_2 : decode cX11_act 2 = .ok (.putfield 272, 3) := by decide +kernel
theorem dX11_act_5 : decode cX11_act 5 = .ok (.aload_n 0, 1) := by decide +kernel
theorem dX11_act_6 : decode cX11_act 6 = .ok (.iload_n 1, 1) := by decide +kernel
theorem dX11_act_7 : decode cX11_act 7 = .ok (.invokevirtual 167, 3) := by decide +kernel
theorem dX11_act_10 : decode cX11_act 10 = .ok (.astore 4, 2) := by decide +kernel
theorem dX11_act_12 : decode cX11_act 12 = .ok (.aload 4, 2) := by decide +kernel
theorem dX11_act_14 : decode cX11_act 14 = .ok (.ifnull 12, 3) := by decide +kernel
theorem dX11_act_17 : decode cX11_act 17 = .ok (.iload_n 2, 1) := by decide +kernel
theorem dX11_act_18 : decode cX11_act 18 = .ok (.ifCond .lt 8, 3) := by decide +kernel
theorem dX11_act_21 : decode cX11_act 21 = .ok (.iload_n 2, 1) := by decide +kernel
theorem dX11_act_22 : decode cX11_act 22 = .ok (.iconst 2, 1) := by decide +kernel
theorem dX11_act_23 : decode cX11_act 23 = .ok (.if_icmp .le 5, 3) := by decide +kernel
theorem dX11_act_26 : decode cX11_act 26 = .ok (.iconst 0, 1) := by decide +kernel
theorem dX11_act_27 : decode cX11_act 27 = .ok (.ireturn, 1) := by decide +kernel
theorem dX11_act_28 : decode cX11_act 28 = .ok (.aload_n 0, 1) := by decide +kernel
theorem dX11_act_29 : decode cX11_act 29 = .ok (.aload 4, 2) := by decide +kernel
theorem dX11_act_31 : decode cX11_act 31 = .ok (.putfield 272, 3) := by decide +kernel
theorem dX11_act_34 : decode cX11_act 34 = .ok (.aload 4, 2) := by decide +kernel
theorem dX11_act_36 : decode cX11_act 36 = .ok (.iconst 0, 1) := by decide +kernel
theorem dX11_act_37 : decode cX11_act 37 = .ok (.putfield 276, 3) := by decide +kernel
theorem dX11_act_40 : decode cX11_act 40 = .ok (.iload_n 2, 1) := by decide +kernel
theorem dX11_act_41 : decode cX11_act 41 = .ok (.lookupswitch 41 #[(0, 27), (1, 34)], 27) := by decide +kernel
theorem dX11_act_68 : decode cX11_act 68 = .ok (.aload 4, 2) := by decide +kernel
theorem dX11_act_70 : decode cX11_act 70 = .ok (.iload_n 3, 1) := by decide +kernel
theorem dX11_act_71 : decode cX11_act 71 = .ok (.invokevirtual 279, 3) := by decide +kernel
theorem dX11_act_74 : decode cX11_act 74 = .ok (.ireturn, 1) := by decide +kernel
theorem dX11_act_75 : decode cX11_act 75 = .ok (.aload 4, 2) := by decide +kernel
theorem dX11_act_77 : decode cX11_act 77 = .ok (.iload_n 3, 1) := by decide +kernel
theorem dX11_act_78 : decode cX11_act 78 = .ok (.invokevirtual 282, 3) := by decide +kernel
theorem dX11_act_81 : decode cX11_act 81 = .ok (.ireturn, 1) := by decide +kernel
theorem dX11_act_82 : decode cX11_act 82 = .ok (.aload 4, 2) := by decide +kernel
theorem dX11_act_84 : decode cX11_act 84 = .ok (.iload_n 3, 1) := by decide +kernel
theorem dX11_act_85 : decode cX11_act 85 = .ok (.invokevirtual 285, 3) := by decide +kernel
theorem dX11_act_88 : decode cX11_act 88 = .ok (.ireturn, 1) := by decide +kernel
theorem dX11_trace_0 : decode cX11_trace 0 = .ok (.aload_n 0, 1) := by decide +kernel
theorem dX11_trace_1 : decode cX11_trace 1 = .ok (.getfield 272, 3) := by decide +kernel
theorem dX11_trace_4 : decode cX11_trace 4 = .ok (.ifnull 24, 3) := by decide +kernel
theorem dX11_trace_7 : decode cX11_trace 7 = .ok (.iload_n 1, 1) := by decide +kernel
theorem dX11_trace_8 : decode cX11_trace 8 = .ok (.ifCond .lt 20, 3) := by decide +kernel
theorem dX11_trace_11 : decode cX11_trace 11 = .ok (.iload_n 1, 1) := by decide +kernel
theorem dX11_trace_12 : decode cX11_trace 12 = .ok (.aload_n 0, 1) := by decide +kernel
theorem dX11_trace_13 : decode cX11_trace 13 = .ok (.getfield 272, 3) := by decide +kernel
theorem dX11_trace_16 : decode cX11_trace 16 = .ok (.getfield 276, 3) := by decide +kernel
theorem dX11_trace_19 : decode cX11_trace 19 = .ok (.if_icmp .ge 9, 3) := by decide +kernel
theorem dX11_trace_22 : decode cX11_trace 22 = .ok (.iload_n 1, 1) := by decide +kernel
theorem dX11_trace_23 : decode cX11_trace 23 = .ok (.bipush 20, 2) := by decide +kernel
theorem dX11_trace_25 : decode cX11_trace 25 = .ok (.if_icmp .lt 5, 3) := by decide +kernel
theorem dX11_trace_28 : decode cX11_trace 28 = .ok (.iconst (-1), 1) := by decide +kernel
theorem dX11_trace_29 : decode cX11_trace 29 = .ok (.ireturn, 1) := by decide +kernel
theorem dX11_trace_30 : decode cX11_trace 30 = .ok (.aload_n 0, 1) := by decide +kernel
theorem dX11_trace_31 : decode cX11_trace 31 = .ok (.getfield 272, 3) := by decide +kernel
theorem dX11_trace_34 : decode cX11_trace 34 = .ok (.getfield 288, 3) := by decide +kernel
theorem dX11_trace_37 : decode cX11_trace 37 = .ok (.iload_n 1, 1) := by decide +kernel
theorem dX11_trace_38 : decode cX11_trace 38 = .ok (.iaload, 1) := by decide +kernel
theorem dX11_trace_39 : decode cX11_trace 39 = .ok (.ireturn, 1) := by decide +kernel
theorem dX11_as_0 : decode cX11_as 0 = .ok (.aload_n 0, 1) := by decide +kernel
theorem dX11_as_1 : decode cX11_as 1 = .ok (.iload_n 1, 1) := by decide +kernel
theorem dX11_as_2 : decode cX11_as 2 = .ok (.invokevirtual 167, 3) := by decide +kernel
theorem dX11_as_5 : decode cX11_as 5 = .ok (.astore_n 3, 1) := by decide +kernel
theorem dX11_as_6 : decode cX11_as 6 = .ok (.aload_n 3, 1) := by decide +kernel
theorem dX11_as_7 : decode cX11_as 7 = .ok (.ifnull 13, 3) := by decide +kernel
theorem dX11_as_10 : decode cX11_as 10 = .ok (.iload_n 2, 1) := by decide +kernel
theorem dX11_as_11 : decode cX11_as 11 = .ok (.ifCond .lt 9, 3) := by decide +kernel
theorem dX11_as_14 : decode cX11_as 14 = .ok (.iload_n 2, 1) := by decide +kernel
theorem dX11_as_15 : decode cX11_as 15 = .ok (.bipush 6, 2) := by decide +kernel
theorem dX11_as_17 : decode cX11_as 17 = .ok (.if_icmp .le 5, 3) := by decide +kernel
theorem dX11_as_20 : decode cX11_as 20 = .ok (.iconst (-1), 1) := by decide +kernel
theorem dX11_as_21 : decode cX11_as 21 = .ok (.ireturn, 1) := by decide +kernel
theorem dX11_as_22 : decode cX11_as 22 = .ok (.aload_n 3, 1) := by decide +kernel
theorem dX11_as_23 : decode cX11_as 23 = .ok (.iload_n 2, 1) := by decide +kernel
theorem dX11_as_24 : decode cX11_as 24 = .ok (.invokestatic 291, 3) := by decide +kernel
theorem dX11_as_27 : decode cX11_as 27 = .ok (.ifCond .eq 10, 3) := by decide +kernel
theorem dX11_as_30 : decode cX11_as 30 = .ok (.aload_n 3, 1) := by decide +kernel
theorem dX11_as_31 : decode cX11_as 31 = .ok (.getfield 175, 3) := by decide +kernel
theorem dX11_as_34 : decode cX11_as 34 = .ok (.goto 5, 3) := by decide +kernel
theorem dX11_as_37 : decode cX11_as 37 = .ok (.bipush (-6), 2) := by decide +kernel
theorem dX11_as_39 : decode cX11_as 39 = .ok (.ireturn, 1) := by decide +kernel
theorem dX11_count_0 : decode cX11_count 0 = .ok (.iload_n 1, 1) := by decide +kernel
theorem dX11_count_1 : decode cX11_count 1 = .ok (.tableswitch 101 0 7 #[47, 52, 57, 62, 67, 72, 77, 82], 47) := by decide +kernel
theorem dX11_count_48 : decode cX11_count 48 = .ok (.aload_n 0, 1) := by decide +kernel
theorem dX11_count_49 : decode cX11_count 49 = .ok (.getfield 64, 3) := by decide +kernel
theorem dX11_count_52 : decode cX11_count 52 = .ok (.ireturn, 1) := by decide +kernel
theorem dX11_count_53 : decode cX11_count 53 = .ok (.aload_n 0, 1) := by decide +kernel
theorem dX11_count_54 : decode cX11_count 54 = .ok (.getfield 77, 3) := by decide +kernel
theorem dX11_count_57 : decode cX11_count 57 = .ok (.ireturn, 1) := by decide +kernel
theorem dX11_count_58 : decode cX11_count 58 = .ok (.aload_n 0, 1) := by decide +kernel
theorem dX11_count_59 : decode cX11_count 59 = .ok (.getfield 91, 3) := by decide +kernel
theorem dX11_count_62 : decode cX11_count 62 = .ok (.ireturn, 1) := by decide +kernel
theorem dX11_count_63 : decode cX11_count 63 = .ok (.aload_n 0, 1) := by decide +kernel
theorem dX11_count_64 : decode cX11_count 64 = .ok (.getfield 102, 3) := by decide +kernel
theorem dX11_count_67 : decode cX11_count 67 = .ok (.ireturn, 1) := by decide +kernel
theorem dX11_count_68 : decode cX11_count 68 = .ok (.aload_n 0, 1) := by decide +kernel
theorem dX11_count_69 : decode cX11_count 69 = .ok (.getfield 160, 3) := by decide +kernel
theorem dX11_count_72 : decode cX11_count 72 = .ok (.ireturn, 1) := by decide +kernel
theorem dX11_count_73 : decode cX11_count 73 = .ok (.aload_n 0, 1) := by decide +kernel
theorem dX11_count_74 : decode cX11_count 74 = .ok (.getfield 71, 3) := by decide +kernel
theorem dX11_count_77 : decode cX11_count 77 = .ok (.ireturn, 1) := by decide +kernel
theorem dX11_count_78 : decode cX11_count 78 = .ok (.aload_n 0, 1) := by decide +kernel
theorem dX11_count_79 : decode cX11_count 79 = .ok (.getfield 74, 3) := by decide +kernel
theorem dX11_count_82 : decode cX11_count 82 = .ok (.ireturn, 1) := by decide +kernel
theorem dX11_count_83 : decode cX11_count 83 = .ok (.aload_n 0, 1) := by decide +kernel
theorem dX11_count_84 : decode cX11_count 84 = .ok (.getfield 272, 3) := by decide +kernel
theorem dX11_count_87 : decode cX11_count 87 = .ok (.ifnonnull 7, 3) := by decide +kernel
theorem dX11_count_90 : decode cX11_count 90 = .ok (.iconst 0, 1) := by decide +kernel
theorem dX11_count_91 : decode cX11_count 91 = .ok (.goto 10, 3) := by decide +kernel
theorem dX11_count_94 : decode cX11_count 94 = .ok (.aload_n 0, 1) := by decide +kernel
theorem dX11_count_95 : decode cX11_count 95 = .ok (.getfield 272, 3) := by decide +kernel
theorem dX11_count_98 : decode cX11_count 98 = .ok (.getfield 276, 3) := by decide +kernel
theorem dX11_count_101 : decode cX11_count 101 = .ok (.ireturn, 1) := by decide +kernel
theorem dX11_count_102 : decode cX11_count 102 = .ok (.iconst (-1), 1) := by decide +kernel
theorem dX11_count_103 : decode cX11_count 103 = .ok (.ireturn, 1) := by decide +kernel
theorem dX11_oneIf_0 : decode cX11_oneIf 0 = .ok (.iload_n 0, 1) := by decide +kernel
theorem dX11_oneIf_1 : decode cX11_oneIf 1 = .ok (.ifCond .eq 7, 3) := by decide +kernel
theorem dX11_oneIf_4 : decode cX11_oneIf 4 = .ok (.iconst 1, 1) := by decide +kernel
theorem dX11_oneIf_5 : decode cX11_oneIf 5 = .ok (.goto 4, 3) := by decide +kernel
theorem dX11_oneIf_8 : decode cX11_oneIf 8 = .ok (.iconst 0, 1) := by decide +kernel
theorem dX11_oneIf_9 : decode cX11_oneIf 9 = .ok (.ireturn, 1) := by decide +kernel
theorem dX11_isTongue_0 : decode cX11_isTongue 0 = .ok (.iload_n 1, 1) := by decide +kernel
theorem dX11_isTongue_1 : decode cX11_isTongue 1 = .ok (.ifCond .lt 15, 3) := by decide +kernel
theorem dX11_isTongue_4 : decode cX11_isTongue 4 = .ok (.iload_n 1, 1) := by decide +kernel
theorem dX11_isTongue_5 : decode cX11_isTongue 5 = .ok (.aload_n 0, 1) := by decide +kernel
theorem dX11_isTongue_6 : decode cX11_isTongue 6 = .ok (.getfield 64, 3) := by decide +kernel
theorem dX11_isTongue_9 : decode cX11_isTongue 9 = .ok (.if_icmp .ge 7, 3) := by decide +kernel
theorem dX11_isTongue_12 : decode cX11_isTongue 12 = .ok (.iconst 1, 1) := by decide +kernel
theorem dX11_isTongue_13 : decode cX11_isTongue 13 = .ok (.goto 4, 3) := by decide +kernel
theorem dX11_isTongue_16 : decode cX11_isTongue 16 = .ok (.iconst 0, 1) := by decide +kernel
theorem dX11_isTongue_17 : decode cX11_isTongue 17 = .ok (.ireturn, 1) := by decide +kernel
theorem dX11_isMeaning_0 : decode cX11_isMeaning 0 = .ok (.iload_n 0, 1) := by decide +kernel
theorem dX11_isMeaning_1 : decode cX11_isMeaning 1 = .ok (.ifCond .lt 13, 3) := by decide +kernel
theorem dX11_isMeaning_4 : decode cX11_isMeaning 4 = .ok (.iload_n 0, 1) := by decide +kernel
theorem dX11_isMeaning_5 : decode cX11_isMeaning 5 = .ok (.bipush 10, 2) := by decide +kernel
theorem dX11_isMeaning_7 : decode cX11_isMeaning 7 = .ok (.if_icmp .ge 7, 3) := by decide +kernel
theorem dX11_isMeaning_10 : decode cX11_isMeaning 10 = .ok (.iconst 1, 1) := by decide +kernel
theorem dX11_isMeaning_11 : decode cX11_isMeaning 11 = .ok (.goto 4, 3) := by decide +kernel
theorem dX11_isMeaning_14 : decode cX11_isMeaning 14 = .ok (.iconst 0, 1) := by decide +kernel
theorem dX11_isMeaning_15 : decode cX11_isMeaning 15 = .ok (.ireturn, 1) := by decide +kernel
theorem dX11_isLaw_0 : decode cX11_isLaw 0 = .ok (.iload_n 1, 1) := by decide +kernel
theorem dX11_isLaw_1 : decode cX11_isLaw 1 = .ok (.ifCond .lt 15, 3) := by decide +kernel
theorem dX11_isLaw_4 : decode cX11_isLaw 4 = .ok (.iload_n 1, 1) := by decide +kernel
theorem dX11_isLaw_5 : decode cX11_isLaw 5 = .ok (.aload_n 0, 1) := by decide +kernel
theorem dX11_isLaw_6 : decode cX11_isLaw 6 = .ok (.getfield 77, 3) := by decide +kernel
theorem dX11_isLaw_9 : decode cX11_isLaw 9 = .ok (.if_icmp .ge 7, 3) := by decide +kernel
theorem dX11_isLaw_12 : decode cX11_isLaw 12 = .ok (.iconst 1, 1) := by decide +kernel
theorem dX11_isLaw_13 : decode cX11_isLaw 13 = .ok (.goto 4, 3) := by decide +kernel
theorem dX11_isLaw_16 : decode cX11_isLaw 16 = .ok (.iconst 0, 1) := by decide +kernel
theorem dX11_isLaw_17 : decode cX11_isLaw 17 = .ok (.ireturn, 1) := by decide +kernel
theorem dX11_isSureness_0 : decode cX11_isSureness 0 = .ok (.iload_n 0, 1) := by decide +kernel
theorem dX11_isSureness_1 : decode cX11_isSureness 1 = .ok (.ifCond .lt 13, 3) := by decide +kernel
theorem dX11_isSureness_4 : decode cX11_isSureness 4 = .ok (.iload_n 0, 1) := by decide +kernel
theorem dX11_isSureness_5 : decode cX11_isSureness 5 = .ok (.bipush 10, 2) := by decide +kernel
theorem dX11_isSureness_7 : decode cX11_isSureness 7 = .ok (.if_icmp .gt 7, 3) := by decide +kernel
theorem dX11_isSureness_10 : decode cX11_isSureness 10 = .ok (.iconst 1, 1) := by decide +kernel
theorem dX11_isSureness_11 : decode cX11_isSureness 11 = .ok (.goto 4, 3) := by decide +kernel
theorem dX11_isSureness_14 : decode cX11_isSureness 14 = .ok (.iconst 0, 1) := by decide +kernel
theorem dX11_isSureness_15 : decode cX11_isSureness 15 = .ok (.ireturn, 1) := by decide +kernel
theorem dX11_isSoundOrNothing_0 : decode cX11_isSoundOrNothing 0 = .ok (.iload_n 0, 1) := by decide +kernel
theorem dX11_isSoundOrNothing_1 : decode cX11_isSoundOrNothing 1 = .ok (.ifCond .lt 13, 3) := by decide +kernel
theorem dX11_isSoundOrNothing_4 : decode cX11_isSoundOrNothing 4 = .ok (.iload_n 0, 1) := by decide +kernel
theorem dX11_isSoundOrNothing_5 : decode cX11_isSoundOrNothing 5 = .ok (.bipush 26, 2) := by decide +kernel
theorem dX11_isSoundOrNothing_7 : decode cX11_isSoundOrNothing 7 = .ok (.if_icmp .gt 7, 3) := by decide +kernel
theorem dX11_isSoundOrNothing_10 : decode cX11_isSoundOrNothing 10 = .ok (.iconst 1, 1) := by decide +kernel
theorem dX11_isSoundOrNothing_11 : decode cX11_isSoundOrNothing 11 = .ok (.goto 4, 3) := by decide +kernel
theorem dX11_isSoundOrNothing_14 : decode cX11_isSoundOrNothing 14 = .ok (.iconst 0, 1) := by decide +kernel
theorem dX11_isSoundOrNothing_15 : decode cX11_isSoundOrNothing 15 = .ok (.ireturn, 1) := by decide +kernel
theorem dX11_isLetterByte_0 : decode cX11_isLetterByte 0 = .ok (.iload_n 0, 1) := by decide +kernel
theorem dX11_isLetterByte_1 : decode cX11_isLetterByte 1 = .ok (.bipush 97, 2) := by decide +kernel
theorem dX11_isLetterByte_3 : decode cX11_isLetterByte 3 = .ok (.if_icmp .lt 13, 3) := by decide +kernel
theorem dX11_isLetterByte_6 : decode cX11_isLetterByte 6 = .ok (.iload_n 0, 1) := by decide +kernel
theorem dX11_isLetterByte_7 : decode cX11_isLetterByte 7 = .ok (.bipush 122, 2) := by decide +kernel
theorem dX11_isLetterByte_9 : decode cX11_isLetterByte 9 = .ok (.if_icmp .gt 7, 3) := by decide +kernel
theorem dX11_isLetterByte_12 : decode cX11_isLetterByte 12 = .ok (.iconst 1, 1) := by decide +kernel
theorem dX11_isLetterByte_13 : decode cX11_isLetterByte 13 = .ok (.goto 4, 3) := by decide +kernel
theorem dX11_isLetterByte_16 : decode cX11_isLetterByte 16 = .ok (.iconst 0, 1) := by decide +kernel
theorem dX11_isLetterByte_17 : decode cX11_isLetterByte 17 = .ok (.ireturn, 1) := by decide +kernel
theorem dX11_isVowel_0 : decode cX11_isVowel 0 = .ok (.iload_n 0, 1) := by decide +kernel
theorem dX11_isVowel_1 : decode cX11_isVowel 1 = .ok (.ifCond .eq 26, 3) := by decide +kernel
theorem dX11_isVowel_4 : decode cX11_isVowel 4 = .ok (.iload_n 0, 1) := by decide +kernel
theorem dX11_isVowel_5 : decode cX11_isVowel 5 = .ok (.iconst 4, 1) := by decide +kernel
theorem dX11_isVowel_6 : decode cX11_isVowel 6 = .ok (.if_icmp .eq 21, 3) := by decide +kernel
theorem dX11_isVowel_9 : decode cX11_isVowel 9 = .ok (.iload_n 0, 1) := by decide +kernel
theorem dX11_isVowel_10 : decode cX11_isVowel 10 = .ok (.bipush 8, 2) := by decide +kernel
theorem dX11_isVowel_12 : decode cX11_isVowel 12 = .ok (.if_icmp .eq 15, 3) := by decide +kernel
theorem dX11_isVowel_15 : decode cX11_isVowel 15 = .ok (.iload_n 0, 1) := by decide +kernel
theorem dX11_isVowel_16 : decode cX11_isVowel 16 = .ok (.bipush 14, 2) := by decide +kernel
theorem dX11_isVowel_18 : decode cX11_isVowel 18 = .ok (.if_icmp .eq 9, 3) := by decide +kernel
theorem dX11_isVowel_21 : decode cX11_isVowel 21 = .ok (.iload_n 0, 1) := by decide +kernel
theorem dX11_isVowel_22 : decode cX11_isVowel 22 = .ok (.bipush 20, 2) := by decide +kernel
theorem dX11_isVowel_24 : decode cX11_isVowel 24 = .ok (.if_icmp .ne 7, 3) := by decide +kernel
theorem dX11_isVowel_27 : decode cX11_isVowel 27 = .ok (.iconst 1, 1) := by decide +kernel
theorem dX11_isVowel_28 : decode cX11_isVowel 28 = .ok (.goto 4, 3) := by decide +kernel
theorem dX11_isVowel_31 : decode cX11_isVowel 31 = .ok (.iconst 0, 1) := by decide +kernel
theorem dX11_isVowel_32 : decode cX11_isVowel 32 = .ok (.ireturn, 1) := by decide +kernel
theorem dX11_spokenWord_0 : decode cX11_spokenWord 0 = .ok (.aload_n 0, 1) := by decide +kernel
theorem dX11_spokenWord_1 : decode cX11_spokenWord 1 = .ok (.iload_n 1, 1) := by decide +kernel
theorem dX11_spokenWord_2 : decode cX11_spokenWord 2 = .ok (.invokevirtual 84, 3) := by decide +kernel
theorem dX11_spokenWord_5 : decode cX11_spokenWord 5 = .ok (.ifCond .eq 10, 3) := by decide +kernel
theorem dX11_spokenWord_8 : decode cX11_spokenWord 8 = .ok (.iload_n 2, 1) := by decide +kernel
theorem dX11_spokenWord_9 : decode cX11_spokenWord 9 = .ok (.invokestatic 88, 3) := by decide +kernel
theorem dX11_spokenWord_12 : decode cX11_spokenWord 12 = .ok (.ifCond .ne 5, 3) := by decide +kernel
theorem dX11_spokenWord_15 : decode cX11_spokenWord 15 = .ok (.aconst_null, 1) := by decide +kernel
theorem dX11_spokenWord_16 : decode cX11_spokenWord 16 = .ok (.areturn, 1) := by decide +kernel
theorem dX11_spokenWord_17 : decode cX11_spokenWord 17 = .ok (.aload_n 0, 1) := by decide +kernel
theorem dX11_spokenWord_18 : decode cX11_spokenWord 18 = .ok (.getfield 15, 3) := by decide +kernel
theorem dX11_spokenWord_21 : decode cX11_spokenWord 21 = .ok (.iload_n 1, 1) := by decide +kernel
theorem dX11_spokenWord_22 : decode cX11_spokenWord 22 = .ok (.bipush 10, 2) := by decide +kernel
theorem dX11_spokenWord_24 : decode cX11_spokenWord 24 = .ok (.imul, 1) := by decide +kernel
theorem dX11_spokenWord_25 : decode cX11_spokenWord 25 = .ok (.iload_n 2, 1) := by decide +kernel
theorem dX11_spokenWord_26 : decode cX11_spokenWord 26 = .ok (.iadd, 1) := by decide +kernel
theorem dX11_spokenWord_27 : decode cX11_spokenWord 27 = .ok (.aaload, 1) := by decide +kernel
theorem dX11_spokenWord_28 : decode cX11_spokenWord 28 = .ok (.astore_n 3, 1) := by decide +kernel
theorem dX11_spokenWord_29 : decode cX11_spokenWord 29 = .ok (.aload_n 3, 1) := by decide +kernel
theorem dX11_spokenWord_30 : decode cX11_spokenWord 30 = .ok (.getfield 135, 3) := by decide +kernel
theorem dX11_spokenWord_33 : decode cX11_spokenWord 33 = .ok (.ifCond .le 7, 3) := by decide +kernel
theorem dX11_spokenWord_36 : decode cX11_spokenWord 36 = .ok (.aload_n 3, 1) := by decide +kernel
theorem dX11_spokenWord_37 : decode cX11_spokenWord 37 = .ok (.goto 4, 3) := by decide +kernel
theorem dX11_spokenWord_40 : decode cX11_spokenWord 40 = .ok (.aconst_null, 1) := by decide +kernel
theorem dX11_spokenWord_41 : decode cX11_spokenWord 41 = .ok (.areturn, 1) := by decide +kernel
theorem dX11_listedWord_0 : decode cX11_listedWord 0 = .ok (.aload_n 0, 1) := by decide +kernel
theorem dX11_listedWord_1 : decode cX11_listedWord 1 = .ok (.iload_n 1, 1) := by decide +kernel
theorem dX11_listedWord_2 : decode cX11_listedWord 2 = .ok (.iload_n 2, 1) := by decide +kernel
theorem dX11_listedWord_3 : decode cX11_listedWord 3 = .ok (.invokevirtual 131, 3) := by decide +kernel
theorem dX11_listedWord_6 : decode cX11_listedWord 6 = .ok (.astore_n 3, 1) := by decide +kernel
theorem dX11_listedWord_7 : decode cX11_listedWord 7 = .ok (.aload_n 3, 1) := by decide +kernel
theorem dX11_listedWord_8 : decode cX11_listedWord 8 = .ok (.ifnull 10, 3) := by decide +kernel
theorem dX11_listedWord_11 : decode cX11_listedWord 11 = .ok (.aload_n 3, 1) := by decide +kernel
theorem dX11_listedWord_12 : decode cX11_listedWord 12 = .ok (.getfield 187, 3) := by decide +kernel
theorem dX11_listedWord_15 : decode cX11_listedWord 15 = .ok (.ifCond .eq 7, 3) := by decide +kernel
theorem dX11_listedWord_18 : decode cX11_listedWord 18 = .ok (.aconst_null, 1) := by decide +kernel
theorem dX11_listedWord_19 : decode cX11_listedWord 19 = .ok (.goto 4, 3) := by decide +kernel
theorem dX11_listedWord_22 : decode cX11_listedWord 22 = .ok (.aload_n 3, 1) := by decide +kernel
theorem dX11_listedWord_23 : decode cX11_listedWord 23 = .ok (.areturn, 1) := by decide +kernel
theorem dX11_eventAt_0 : decode cX11_eventAt 0 = .ok (.iload_n 1, 1) := by decide +kernel
theorem dX11_eventAt_1 : decode cX11_eventAt 1 = .ok (.ifCond .lt 20, 3) := by decide +kernel
theorem dX11_eventAt_4 : decode cX11_eventAt 4 = .ok (.iload_n 1, 1) := by decide +kernel
theorem dX11_eventAt_5 : decode cX11_eventAt 5 = .ok (.aload_n 0, 1) := by decide +kernel
theorem dX11_eventAt_6 : decode cX11_eventAt 6 = .ok (.getfield 91, 3) := by decide +kernel
theorem dX11_eventAt_9 : decode cX11_eventAt 9 = .ok (.if_icmp .ge 12, 3) := by decide +kernel
theorem dX11_eventAt_12 : decode cX11_eventAt 12 = .ok (.aload_n 0, 1) := by decide +kernel
theorem dX11_eventAt_13 : decode cX11_eventAt 13 = .ok (.getfield 30, 3) := by decide +kernel
theorem dX11_eventAt_16 : decode cX11_eventAt 16 = .ok (.iload_n 1, 1) := by decide +kernel
theorem dX11_eventAt_17 : decode cX11_eventAt 17 = .ok (.aaload, 1) := by decide +kernel
theorem dX11_eventAt_18 : decode cX11_eventAt 18 = .ok (.goto 4, 3) := by decide +kernel
theorem dX11_eventAt_21 : decode cX11_eventAt 21 = .ok (.aconst_null, 1) := by decide +kernel
theorem dX11_eventAt_22 : decode cX11_eventAt 22 = .ok (.areturn, 1) := by decide +kernel
theorem dX11_isOfKind_0 : decode cX11_isOfKind 0 = .ok (.iload_n 1, 1) := by decide +kernel
theorem dX11_isOfKind_1 : decode cX11_isOfKind 1 = .ok (.tableswitch 75 0 6 #[43, 45, 50, 55, 60, 65, 70], 43) := by decide +kernel
theorem dX11_isOfKind_44 : decode cX11_isOfKind 44 = .ok (.iconst 1, 1) := by decide +kernel
theorem dX11_isOfKind_45 : decode cX11_isOfKind 45 = .ok (.ireturn, 1) := by decide +kernel
theorem dX11_isOfKind_46 : decode cX11_isOfKind 46 = .ok (.aload_n 0, 1) := by decide +kernel
theorem dX11_isOfKind_47 : decode cX11_isOfKind 47 = .ok (.instanceof 128, 3) := by decide +kernel
theorem dX11_isOfKind_50 : decode cX11_isOfKind 50 = .ok (.ireturn, 1) := by decide +kernel
theorem dX11_isOfKind_51 : decode cX11_isOfKind 51 = .ok (.aload_n 0, 1) := by decide +kernel
theorem dX11_isOfKind_52 : decode cX11_isOfKind 52 = .ok (.instanceof 145, 3) := by decide +kernel
theorem dX11_isOfKind_55 : decode cX11_isOfKind 55 = .ok (.ireturn, 1) := by decide +kernel
theorem dX11_isOfKind_56 : decode cX11_isOfKind 56 = .ok (.aload_n 0, 1) := by decide +kernel
theorem dX11_isOfKind_57 : decode cX11_isOfKind 57 = .ok (.instanceof 151, 3) := by decide +kernel
theorem dX11_isOfKind_60 : decode cX11_isOfKind 60 = .ok (.ireturn, 1) := by decide +kernel
theorem dX11_isOfKind_61 : decode cX11_isOfKind 61 = .ok (.aload_n 0, 1) := by decide +kernel
theorem dX11_isOfKind_62 : decode cX11_isOfKind 62 = .ok (.instanceof 138, 3) := by decide +kernel
theorem dX11_isOfKind_65 : decode cX11_isOfKind 65 = .ok (.ireturn, 1) := by decide +kernel
theorem dX11_isOfKind_66 : decode cX11_isOfKind 66 = .ok (.aload_n 0, 1) := by decide +kernel
theorem dX11_isOfKind_67 : decode cX11_isOfKind 67 = .ok (.instanceof 148, 3) := by decide +kernel
theorem dX11_isOfKind_70 : decode cX11_isOfKind 70 = .ok (.ireturn, 1) := by decide +kernel
theorem dX11_isOfKind_71 : decode cX11_isOfKind 71 = .ok (.aload_n 0, 1) := by decide +kernel
theorem dX11_isOfKind_72 : decode cX11_isOfKind 72 = .ok (.instanceof 112, 3) := by decide +kernel
theorem dX11_isOfKind_75 : decode cX11_isOfKind 75 = .ok (.ireturn, 1) := by decide +kernel
theorem dX11_isOfKind_76 : decode cX11_isOfKind 76 = .ok (.iconst 0, 1) := by decide +kernel
theorem dX11_isOfKind_77 : decode cX11_isOfKind 77 = .ok (.ireturn, 1) := by decide +kernel
theorem dX11_newTongue_0 : decode cX11_newTongue 0 = .ok (.aload_n 0, 1) := by decide +kernel
theorem dX11_newTongue_1 : decode cX11_newTongue 1 = .ok (.getfield 64, 3) := by decide +kernel
theorem dX11_newTongue_4 : decode cX11_newTongue 4 = .ok (.bipush 6, 2) := by decide +kernel
theorem dX11_newTongue_6 : decode cX11_newTongue 6 = .ok (.if_icmp .ge 39, 3) := by decide +kernel
theorem dX11_newTongue_9 : decode cX11_newTongue 9 = .ok (.aload_n 0, 1) := by decide +kernel
theorem dX11_newTongue_10 : decode cX11_newTongue 10 = .ok (.getfield 19, 3) := by decide +kernel
theorem dX11_newTongue_13 : decode cX11_newTongue 13 = .ok (.iconst 2, 1) := by decide +kernel
theorem dX11_newTongue_14 : decode cX11_newTongue 14 = .ok (.aload_n 0, 1) := by decide +kernel
theorem dX11_newTongue_15 : decode cX11_newTongue 15 = .ok (.getfield 64, 3) := by decide +kernel
theorem dX11_newTongue_18 : decode cX11_newTongue 18 = .ok (.imul, 1) := by decide +kernel
theorem dX11_newTongue_19 : decode cX11_newTongue 19 = .ok (.iload_n 1, 1) := by decide +kernel
theorem dX11_newTongue_20 : decode cX11_newTongue 20 = .ok (.iastore, 1) := by decide +kernel
theorem dX11_newTongue_21 : decode cX11_newTongue 21 = .ok (.aload_n 0, 1) := by decide +kernel
theorem dX11_newTongue_22 : decode cX11_newTongue 22 = .ok (.getfield 19, 3) := by decide +kernel
theorem dX11_newTongue_25 : decode cX11_newTongue 25 = .ok (.iconst 2, 1) := by decide +kernel
theorem dX11_newTongue_26 : decode cX11_newTongue 26 = .ok (.aload_n 0, 1) := by decide +kernel
theorem dX11_newTongue_27 : decode cX11_newTongue 27 = .ok (.getfield 64, 3) := by decide +kernel
theorem dX11_newTongue_30 : decode cX11_newTongue 30 = .ok (.imul, 1) := by decide +kernel
theorem dX11_newTongue_31 : decode cX11_newTongue 31 = .ok (.iconst 1, 1) := by decide +kernel
theorem dX11_newTongue_32 : decode cX11_newTongue 32 = .ok (.iadd, 1) := by decide +kernel
theorem dX11_newTongue_33 : decode cX11_newTongue 33 = .ok (.iload_n 2, 1) := by decide +kernel
theorem dX11_newTongue_34 : decode cX11_newTongue 34 = .ok (.iastore, 1) := by decide +kernel
theorem dX11_newTongue_35 : decode cX11_newTongue 35 = .ok (.aload_n 0, 1) := by decide +kernel
theorem dX11_newTongue_36 : decode cX11_newTongue 36 = .ok (.dup, 1) := by decide +kernel
theorem dX11_newTongue_37 : decode cX11_newTongue 37 = .ok (.getfield 64, 3) := by decide +kernel
theorem dX11_newTongue_40 : decode cX11_newTongue 40 = .ok (.iconst 1, 1) := by decide +kernel
theorem dX11_newTongue_41 : decode cX11_newTongue 41 = .ok (.iadd, 1) := by decide +kernel
theorem dX11_newTongue_42 : decode cX11_newTongue 42 = .ok (.putfield 64, 3) := by decide +kernel
theorem dX11_newTongue_45 : decode cX11_newTongue 45 = .ok (.aload_n 0, 1) := by decide +kernel
theorem dX11_newTongue_46 : decode cX11_newTongue 46 = .ok (.getfield 64, 3) := by decide +kernel
theorem dX11_newTongue_49 : decode cX11_newTongue 49 = .ok (.iconst 1, 1) := by decide +kernel
theorem dX11_newTongue_50 : decode cX11_newTongue 50 = .ok (.isub, 1) := by decide +kernel
theorem dX11_newTongue_51 : decode cX11_newTongue 51 = .ok (.ireturn, 1) := by decide +kernel
theorem dX11_happen_0 : decode cX11_happen 0 = .ok (.aload_n 0, 1) := by decide +kernel
theorem dX11_happen_1 : decode cX11_happen 1 = .ok (.getfield 91, 3) := by decide +kernel
theorem dX11_happen_4 : decode cX11_happen 4 = .ok (.bipush 80, 2) := by decide +kernel
theorem dX11_happen_6 : decode cX11_happen 6 = .ok (.if_icmp .ge 23, 3) := by decide +kernel
theorem dX11_happen_9 : decode cX11_happen 9 = .ok (.aload_n 0, 1) := by decide +kernel
theorem dX11_happen_10 : decode cX11_happen 10 = .ok (.getfield 30, 3) := by decide +kernel
theorem dX11_happen_13 : decode cX11_happen 13 = .ok (.aload_n 0, 1) := by decide +kernel
theorem dX11_happen_14 : decode cX11_happen 14 = .ok (.getfield 91, 3) := by decide +kernel
theorem dX11_happen_17 : decode cX11_happen 17 = .ok (.aload_n 1, 1) := by decide +kernel
theorem dX11_happen_18 : decode cX11_happen 18 = .ok (.aastore, 1) := by decide +kernel
theorem dX11_happen_19 : decode cX11_happen 19 = .ok (.aload_n 0, 1) := by decide +kernel
theorem dX11_happen_20 : decode cX11_happen 20 = .ok (.dup, 1) := by decide +kernel
theorem dX11_happen_21 : decode cX11_happen 21 = .ok (.getfield 91, 3) := by decide +kernel
theorem dX11_happen_24 : decode cX11_happen 24 = .ok (.iconst 1, 1) := by decide +kernel
theorem dX11_happen_25 : decode cX11_happen 25 = .ok (.iadd, 1) := by decide +kernel
theorem dX11_happen_26 : decode cX11_happen 26 = .ok (.putfield 91, 3) := by decide +kernel
theorem dX11_happen_29 : decode cX11_happen 29 = .ok (.return_, 1) := by decide +kernel
theorem dX11_faultOfWord_0 : decode cX11_faultOfWord 0 = .ok (.iconst 0, 1) := by decide +kernel
theorem dX11_faultOfWord_1 : decode cX11_faultOfWord 1 = .ok (.istore_n 2, 1) := by decide +kernel
theorem dX11_faultOfWord_2 : decode cX11_faultOfWord 2 = .ok (.iload_n 2, 1) := by decide +kernel
theorem dX11_faultOfWord_3 : decode cX11_faultOfWord 3 = .ok (.iload_n 1, 1) := by decide +kernel
theorem dX11_faultOfWord_4 : decode cX11_faultOfWord 4 = .ok (.if_icmp .ge 29, 3) := by decide +kernel
theorem dX11_faultOfWord_7 : decode cX11_faultOfWord 7 = .ok (.iload_n 2, 1) := by decide +kernel
theorem dX11_faultOfWord_8 : decode cX11_faultOfWord 8 = .ok (.bipush 8, 2) := by decide +kernel
theorem dX11_faultOfWord_10 : decode cX11_faultOfWord 10 = .ok (.if_icmp .ge 15, 3) := by decide +kernel
theorem dX11_faultOfWord_13 : decode cX11_faultOfWord 13 = .ok (.aload_n 0, 1) := by decide +kernel
theorem dX11_faultOfWord_14 : decode cX11_faultOfWord 14 = .ok (.getfield 9, 3) := by decide +kernel
theorem dX11_faultOfWord_17 : decode cX11_faultOfWord 17 = .ok (.iload_n 2, 1) := by decide +kernel
theorem dX11_faultOfWord_18 : decode cX11_faultOfWord 18 = .ok (.iaload, 1) := by decide +kernel
theorem dX11_faultOfWord_19 : decode cX11_faultOfWord 19 = .ok (.invokestatic 295, 3) := by decide +kernel
theorem dX11_faultOfWord_22 : decode cX11_faultOfWord 22 = .ok (.ifCond .ne 5, 3) := by decide +kernel
theorem dX11_faultOfWord_25 : decode cX11_faultOfWord 25 = .ok (.iload_n 2, 1) := by decide +kernel
theorem dX11_faultOfWord_26 : decode cX11_faultOfWord 26 = .ok (.ireturn, 1) := by decide +kernel
theorem dX11_faultOfWord_27 : decode cX11_faultOfWord 27 = .ok (.iinc 2 1, 3) := by decide +kernel
theorem dX11_faultOfWord_30 : decode cX11_faultOfWord 30 = .ok (.goto (-28), 3) := by decide +kernel
theorem dX11_faultOfWord_33 : decode cX11_faultOfWord 33 = .ok (.iload_n 1, 1) := by decide +kernel
theorem dX11_faultOfWord_34 : decode cX11_faultOfWord 34 = .ok (.ifCond .ne 7, 3) := by decide +kernel
theorem dX11_faultOfWord_37 : decode cX11_faultOfWord 37 = .ok (.iconst 0, 1) := by decide +kernel
theorem dX11_faultOfWord_38 : decode cX11_faultOfWord 38 = .ok (.goto 4, 3) := by decide +kernel
theorem dX11_faultOfWord_41 : decode cX11_faultOfWord 41 = .ok (.iconst (-1), 1) := by decide +kernel
theorem dX11_faultOfWord_42 : decode cX11_faultOfWord 42 = .ok (.ireturn, 1) := by decide +kernel
theorem dX11_areKin_0 : decode cX11_areKin 0 = .ok (.aload_n 1, 1) := by decide +kernel
theorem dX11_areKin_1 : decode cX11_areKin 1 = .ok (.getfield 135, 3) := by decide +kernel
theorem dX11_areKin_4 : decode cX11_areKin 4 = .ok (.aload_n 2, 1) := by decide +kernel
theorem dX11_areKin_5 : decode cX11_areKin 5 = .ok (.getfield 135, 3) := by decide +kernel
theorem dX11_areKin_8 : decode cX11_areKin 8 = .ok (.invokestatic 298, 3) := by decide +kernel
theorem dX11_areKin_11 : decode cX11_areKin 11 = .ok (.istore_n 3, 1) := by decide +kernel
theorem dX11_areKin_12 : decode cX11_areKin 12 = .ok (.bipush 10, 2) := by decide +kernel
theorem dX11_areKin_14 : decode cX11_areKin 14 = .ok (.aload_n 0, 1) := by decide +kernel
theorem dX11_areKin_15 : decode cX11_areKin 15 = .ok (.getfield 44, 3) := by decide +kernel
theorem dX11_areKin_18 : decode cX11_areKin 18 = .ok (.aload_n 1, 1) := by decide +kernel
theorem dX11_areKin_19 : decode cX11_areKin 19 = .ok (.aload_n 2, 1) := by decide +kernel
theorem dX11_areKin_20 : decode cX11_areKin 20 = .ok (.invokevirtual 193, 3) := by decide +kernel
theorem dX11_areKin_23 : decode cX11_areKin 23 = .ok (.imul, 1) := by decide +kernel
theorem dX11_areKin_24 : decode cX11_areKin 24 = .ok (.aload_n 0, 1) := by decide +kernel
theorem dX11_areKin_25 : decode cX11_areKin 25 = .ok (.getfield 34, 3) := by decide +kernel
theorem dX11_areKin_28 : decode cX11_areKin 28 = .ok (.iload_n 3, 1) := by decide +kernel
theorem dX11_areKin_29 : decode cX11_areKin 29 = .ok (.imul, 1) := by decide +kernel
theorem dX11_areKin_30 : decode cX11_areKin 30 = .ok (.if_icmp .gt 7, 3) := by decide +kernel
theorem dX11_areKin_33 : decode cX11_areKin 33 = .ok (.iconst 1, 1) := by decide +kernel
theorem dX11_areKin_34 : decode cX11_areKin 34 = .ok (.goto 4, 3) := by decide +kernel
theorem dX11_areKin_37 : decode cX11_areKin 37 = .ok (.iconst 0, 1) := by decide +kernel
theorem dX11_areKin_38 : decode cX11_areKin 38 = .ok (.ireturn, 1) := by decide +kernel
theorem dX11_kinSet_0 : decode cX11_kinSet 0 = .ok (.iconst 1, 1) := by decide +kernel
theorem dX11_kinSet_1 : decode cX11_kinSet 1 = .ok (.iload_n 2, 1) := by decide +kernel
theorem dX11_kinSet_2 : decode cX11_kinSet 2 = .ok (.ishl, 1) := by decide +kernel
theorem dX11_kinSet_3 : decode cX11_kinSet 3 = .ok (.istore_n 3, 1) := by decide +kernel
theorem dX11_kinSet_4 : decode cX11_kinSet 4 = .ok (.iconst 0, 1) := by decide +kernel
theorem dX11_kinSet_5 : decode cX11_kinSet 5 = .ok (.istore 4, 2) := by decide +kernel
theorem dX11_kinSet_7 : decode cX11_kinSet 7 = .ok (.iconst 0, 1) := by decide +kernel
theorem dX11_kinSet_8 : decode cX11_kinSet 8 = .ok (.istore 5, 2) := by decide +kernel
theorem dX11_kinSet_10 : decode cX11_kinSet 10 = .ok (.iload 5, 2) := by decide +kernel
theorem dX11_kinSet_12 : decode cX11_kinSet 12 = .ok (.aload_n 0, 1) := by decide +kernel
theorem dX11_kinSet_13 : decode cX11_kinSet 13 = .ok (.getfield 64, 3) := by decide +kernel
theorem dX11_kinSet_16 : decode cX11_kinSet 16 = .ok (.if_icmp .ge 120, 3) := by decide +kernel
theorem dX11_kinSet_19 : decode cX11_kinSet 19 = .ok (.iload 4, 2) := by decide +kernel
theorem dX11_kinSet_21 : decode cX11_kinSet 21 = .ok (.iload_n 3, 1) := by decide +kernel
theorem dX11_kinSet_22 : decode cX11_kinSet 22 = .ok (.if_icmp .eq 114, 3) := by decide +kernel
theorem dX11_kinSet_25 : decode cX11_kinSet 25 = .ok (.iload_n 3, 1) := by decide +kernel
theorem dX11_kinSet_26 : decode cX11_kinSet 26 = .ok (.iload 4, 2) := by decide +kernel
theorem dX11_kinSet_28 : decode cX11_kinSet 28 = .ok (.iconst (-1), 1) := by decide +kernel
theorem dX11_kinSet_29 : decode cX11_kinSet 29 = .ok (.ixor, 1) := by decide +kernel
theorem dX11_kinSet_30 : decode cX11_kinSet 30 = .ok (.iand, 1) := by decide +kernel
theorem dX11_kinSet_31 : decode cX11_kinSet 31 = .ok (.invokestatic 303, 3) := by decide +kernel
theorem dX11_kinSet_34 : decode cX11_kinSet 34 = .ok (.istore 6, 2) := by decide +kernel
theorem dX11_kinSet_36 : decode cX11_kinSet 36 = .ok (.iload 4, 2) := by decide +kernel
theorem dX11_kinSet_38 : decode cX11_kinSet 38 = .ok (.iconst 1, 1) := by decide +kernel
theorem dX11_kinSet_39 : decode cX11_kinSet 39 = .ok (.iload 6, 2) := by decide +kernel
theorem dX11_kinSet_41 : decode cX11_kinSet 41 = .ok (.ishl, 1) := by decide +kernel
theorem dX11_kinSet_42 : decode cX11_kinSet 42 = .ok (.ior, 1) := by decide +kernel
theorem dX11_kinSet_43 : decode cX11_kinSet 43 = .ok (.istore 4, 2) := by decide +kernel
theorem dX11_kinSet_45 : decode cX11_kinSet 45 = .ok (.aload_n 0, 1) := by decide +kernel
theorem dX11_kinSet_46 : decode cX11_kinSet 46 = .ok (.iload 6, 2) := by decide +kernel
theorem dX11_kinSet_48 : decode cX11_kinSet 48 = .ok (.iload_n 1, 1) := by decide +kernel
theorem dX11_kinSet_49 : decode cX11_kinSet 49 = .ok (.invokevirtual 190, 3) := by decide +kernel
theorem dX11_kinSet_52 : decode cX11_kinSet 52 = .ok (.astore 7, 2) := by decide +kernel
theorem dX11_kinSet_54 : decode cX11_kinSet 54 = .ok (.iconst 0, 1) := by decide +kernel
theorem dX11_kinSet_55 : decode cX11_kinSet 55 = .ok (.istore 8, 2) := by decide +kernel
theorem dX11_kinSet_57 : decode cX11_kinSet 57 = .ok (.iload 8, 2) := by decide +kernel
theorem dX11_kinSet_59 : decode cX11_kinSet 59 = .ok (.aload_n 0, 1) := by decide +kernel
theorem dX11_kinSet_60 : decode cX11_kinSet 60 = .ok (.getfield 64, 3) := by decide +kernel
theorem dX11_kinSet_63 : decode cX11_kinSet 63 = .ok (.if_icmp .ge 67, 3) := by decide +kernel
theorem dX11_kinSet_66 : decode cX11_kinSet 66 = .ok (.aload_n 0, 1) := by decide +kernel
theorem dX11_kinSet_67 : decode cX11_kinSet 67 = .ok (.iload 8, 2) := by decide +kernel
theorem dX11_kinSet_69 : decode cX11_kinSet 69 = .ok (.iload_n 1, 1) := by decide +kernel
theorem dX11_kinSet_70 : decode cX11_kinSet 70 = .ok (.invokevirtual 190, 3) := by decide +kernel
theorem dX11_kinSet_73 : decode cX11_kinSet 73 = .ok (.astore 9, 2) := by decide +kernel
theorem dX11_kinSet_75 : decode cX11_kinSet 75 = .ok (.iload_n 3, 1) := by decide +kernel
theorem dX11_kinSet_76 : decode cX11_kinSet 76 = .ok (.iload 8, 2) := by decide +kernel
theorem dX11_kinSet_78 : decode cX11_kinSet 78 = .ok (.ishr, 1) := by decide +kernel
theorem dX11_kinSet_79 : decode cX11_kinSet 79 = .ok (.iconst 1, 1) := by decide +kernel
theorem dX11_kinSet_80 : decode cX11_kinSet 80 = .ok (.iand, 1) := by decide +kernel
theorem dX11_kinSet_81 : decode cX11_kinSet 81 = .ok (.ifCond .ne 7, 3) := by decide +kernel
theorem dX11_kinSet_84 : decode cX11_kinSet 84 = .ok (.iconst 1, 1) := by decide +kernel
theorem dX11_kinSet_85 : decode cX11_kinSet 85 = .ok (.goto 4, 3) := by decide +kernel
theorem dX11_kinSet_88 : decode cX11_kinSet 88 = .ok (.iconst 0, 1) := by decide +kernel
theorem dX11_kinSet_89 : decode cX11_kinSet 89 = .ok (.istore 10, 2) := by decide +kernel
theorem dX11_kinSet_91 : decode cX11_kinSet 91 = .ok (.iload 10, 2) := by decide +kernel
theorem dX11_kinSet_93 : decode cX11_kinSet 93 = .ok (.ifCond .eq 31, 3) := by decide +kernel
theorem dX11_kinSet_96 : decode cX11_kinSet 96 = .ok (.aload 7, 2) := by decide +kernel
theorem dX11_kinSet_98 : decode cX11_kinSet 98 = .ok (.ifnull 26, 3) := by decide +kernel
theorem dX11_kinSet_101 : decode cX11_kinSet 101 = .ok (.aload 9, 2) := by decide +kernel
theorem dX11_kinSet_103 : decode cX11_kinSet 103 = .ok (.ifnull 21, 3) := by decide +kernel
theorem dX11_kinSet_106 : decode cX11_kinSet 106 = .ok (.aload_n 0, 1) := by decide +kernel
theorem dX11_kinSet_107 : decode cX11_kinSet 107 = .ok (.aload 7, 2) := by decide +kernel
theorem dX11_kinSet_109 : decode cX11_kinSet 109 = .ok (.aload 9, 2) := by decide +kernel
theorem dX11_kinSet_111 : decode cX11_kinSet 111 = .ok (.invokevirtual 207, 3) := by decide +kernel
theorem dX11_kinSet_114 : decode cX11_kinSet 114 = .ok (.ifCond .eq 10, 3) := by decide +kernel
theorem dX11_kinSet_117 : decode cX11_kinSet 117 = .ok (.iload_n 3, 1) := by decide +kernel
theorem dX11_kinSet_118 : decode cX11_kinSet 118 = .ok (.iconst 1, 1) := by decide +kernel
theorem dX11_kinSet_119 : decode cX11_kinSet 119 = .ok (.iload 8, 2) := by decide +kernel
theorem dX11_kinSet_121 : decode cX11_kinSet 121 = .ok (.ishl, 1) := by decide +kernel
theorem dX11_kinSet_122 : decode cX11_kinSet 122 = .ok (.ior, 1) := by decide +kernel
theorem dX11_kinSet_123 : decode cX11_kinSet 123 = .ok (.istore_n 3, 1) := by decide +kernel
theorem dX11_kinSet_124 : decode cX11_kinSet 124 = .ok (.iinc 8 1, 3) := by decide +kernel
theorem dX11_kinSet_127 : decode cX11_kinSet 127 = .ok (.goto (-70), 3) := by decide +kernel
theorem dX11_kinSet_130 : decode cX11_kinSet 130 = .ok (.iinc 5 1, 3) := by decide +kernel
theorem dX11_kinSet_133 : decode cX11_kinSet 133 = .ok (.goto (-123), 3) := by decide +kernel
theorem dX11_kinSet_136 : decode cX11_kinSet 136 = .ok (.iload_n 3, 1) := by decide +kernel
theorem dX11_kinSet_137 : decode cX11_kinSet 137 = .ok (.ireturn, 1) := by decide +kernel
theorem dX11_meaningsOfBoth_0 : decode cX11_meaningsOfBoth 0 = .ok (.iconst 0, 1) := by decide +kernel
theorem dX11_meaningsOfBoth_1 : decode cX11_meaningsOfBoth 1 = .ok (.istore_n 3, 1) := by decide +kernel
theorem dX11_meaningsOfBoth_2 : decode cX11_meaningsOfBoth 2 = .ok (.iconst 0, 1) := by decide +kernel
theorem dX11_meaningsOfBoth_3 : decode cX11_meaningsOfBoth 3 = .ok (.istore 4, 2) := by decide +kernel
theorem dX11_meaningsOfBoth_5 : decode cX11_meaningsOfBoth 5 = .ok (.iload 4, 2) := by decide +kernel
theorem dX11_meaningsOfBoth_7 : decode cX11_meaningsOfBoth 7 = .ok (.bipush 10, 2) := by decide +kernel
theorem dX11_meaningsOfBoth_9 : decode cX11_meaningsOfBoth 9 = .ok (.if_icmp .ge 36, 3) := by decide +kernel
theorem dX11_meaningsOfBoth_12 : decode cX11_meaningsOfBoth 12 = .ok (.aload_n 0, 1) := by decide +kernel
theorem dX11_meaningsOfBoth_13 : decode cX11_meaningsOfBoth 13 = .ok (.iload_n 1, 1) := by decide +kernel
theorem dX11_meaningsOfBoth_14 : decode cX11_meaningsOfBoth 14 = .ok (.iload 4, 2) := by decide +kernel
theorem dX11_meaningsOfBoth_16 : decode cX11_meaningsOfBoth 16 = .ok (.invokevirtual 190, 3) := by decide +kernel
theorem dX11_meaningsOfBoth_19 : decode cX11_meaningsOfBoth 19 = .ok (.ifnull 20, 3) := by decide +kernel
theorem dX11_meaningsOfBoth_22 : decode cX11_meaningsOfBoth 22 = .ok (.aload_n 0, 1) := by decide +kernel
theorem dX11_meaningsOfBoth_23 : decode cX11_meaningsOfBoth 23 = .ok (.iload_n 2, 1) := by decide +kernel
theorem dX11_meaningsOfBoth_24 : decode cX11_meaningsOfBoth 24 = .ok (.iload 4, 2) := by decide +kernel
theorem dX11_meaningsOfBoth_26 : decode cX11_meaningsOfBoth 26 = .ok (.invokevirtual 190, 3) := by decide +kernel
theorem dX11_meaningsOfBoth_29 : decode cX11_meaningsOfBoth 29 = .ok (.ifnull 10, 3) := by decide +kernel
theorem dX11_meaningsOfBoth_32 : decode cX11_meaningsOfBoth 32 = .ok (.iload_n 3, 1) := by decide +kernel
theorem dX11_meaningsOfBoth_33 : decode cX11_meaningsOfBoth 33 = .ok (.iconst 1, 1) := by decide +kernel
theorem dX11_meaningsOfBoth_34 : decode cX11_meaningsOfBoth 34 = .ok (.iload 4, 2) := by decide +kernel
theorem dX11_meaningsOfBoth_36 : decode cX11_meaningsOfBoth 36 = .ok (.ishl, 1) := by decide +kernel
theorem dX11_meaningsOfBoth_37 : decode cX11_meaningsOfBoth 37 = .ok (.ior, 1) := by decide +kernel
theorem dX11_meaningsOfBoth_38 : decode cX11_meaningsOfBoth 38 = .ok (.istore_n 3, 1) := by decide +kernel
theorem dX11_meaningsOfBoth_39 : decode cX11_meaningsOfBoth 39 = .ok (.iinc 4 1, 3) := by decide +kernel
theorem dX11_meaningsOfBoth_42 : decode cX11_meaningsOfBoth 42 = .ok (.goto (-37), 3) := by decide +kernel
theorem dX11_meaningsOfBoth_45 : decode cX11_meaningsOfBoth 45 = .ok (.iload_n 3, 1) := by decide +kernel
theorem dX11_meaningsOfBoth_46 : decode cX11_meaningsOfBoth 46 = .ok (.ireturn, 1) := by decide +kernel
theorem dX11_costsTogether_0 : decode cX11_costsTogether 0 = .ok (.iconst 0, 1) := by decide +kernel
theorem dX11_costsTogether_1 : decode cX11_costsTogether 1 = .ok (.istore 4, 2) := by decide +kernel
theorem dX11_costsTogether_3 : decode cX11_costsTogether 3 = .ok (.iconst 0, 1) := by decide +kernel
theorem dX11_costsTogether_4 : decode cX11_costsTogether 4 = .ok (.istore 5, 2) := by decide +kernel
theorem dX11_costsTogether_6 : decode cX11_costsTogether 6 = .ok (.iload 5, 2) := by decide +kernel
theorem dX11_costsTogether_8 : decode cX11_costsTogether 8 = .ok (.bipush 10, 2) := by decide +kernel
theorem dX11_costsTogether_10 : decode cX11_costsTogether 10 = .ok (.if_icmp .ge 31, 3) := by decide +kernel
theorem dX11_costsTogether_13 : decode cX11_costsTogether 13 = .ok (.iload_n 3, 1) := by decide +kernel
theorem dX11_costsTogether_14 : decode cX11_costsTogether 14 = .ok (.iload 5, 2) := by decide +kernel
theorem dX11_costsTogether_16 : decode cX11_costsTogether 16 = .ok (.ishr, 1) := by decide +kernel
theorem dX11_costsTogether_17 : decode cX11_costsTogether 17 = .ok (.iconst 1, 1) := by decide +kernel
theorem dX11_costsTogether_18 : decode cX11_costsTogether 18 = .ok (.iand, 1) := by decide +kernel
theorem dX11_costsTogether_19 : decode cX11_costsTogether 19 = .ok (.ifCond .eq 16, 3) := by decide +kernel
theorem dX11_costsTogether_22 : decode cX11_costsTogether 22 = .ok (.iload 4, 2) := by decide +kernel
theorem dX11_costsTogether_24 : decode cX11_costsTogether 24 = .ok (.aload_n 0, 1) := by decide +kernel
theorem dX11_costsTogether_25 : decode cX11_costsTogether 25 = .ok (.iload 5, 2) := by decide +kernel
theorem dX11_costsTogether_27 : decode cX11_costsTogether 27 = .ok (.iload_n 1, 1) := by decide +kernel
theorem dX11_costsTogether_28 : decode cX11_costsTogether 28 = .ok (.iload_n 2, 1) := by decide +kernel
theorem dX11_costsTogether_29 : decode cX11_costsTogether 29 = .ok (.invokevirtual 306, 3) := by decide +kernel
theorem dX11_costsTogether_32 : decode cX11_costsTogether 32 = .ok (.iadd, 1) := by decide +kernel
theorem dX11_costsTogether_33 : decode cX11_costsTogether 33 = .ok (.istore 4, 2) := by decide +kernel
theorem dX11_costsTogether_35 : decode cX11_costsTogether 35 = .ok (.iinc 5 1, 3) := by decide +kernel
theorem dX11_costsTogether_38 : decode cX11_costsTogether 38 = .ok (.goto (-32), 3) := by decide +kernel
theorem dX11_costsTogether_41 : decode cX11_costsTogether 41 = .ok (.iload 4, 2) := by decide +kernel
theorem dX11_costsTogether_43 : decode cX11_costsTogether 43 = .ok (.ireturn, 1) := by decide +kernel
theorem dX11_costsWithOthers_0 : decode cX11_costsWithOthers 0 = .ok (.iconst 0, 1) := by decide +kernel
theorem dX11_costsWithOthers_1 : decode cX11_costsWithOthers 1 = .ok (.istore_n 3, 1) := by decide +kernel
theorem dX11_costsWithOthers_2 : decode cX11_costsWithOthers 2 = .ok (.iconst 0, 1) := by decide +kernel
theorem dX11_costsWithOthers_3 : decode cX11_costsWithOthers 3 = .ok (.istore 4, 2) := by decide +kernel
theorem dX11_costsWithOthers_5 : decode cX11_costsWithOthers 5 = .ok (.iload 4, 2) := by decide +kernel
theorem dX11_costsWithOthers_7 : decode cX11_costsWithOthers 7 = .ok (.aload_n 0, 1) := by decide +kernel
theorem dX11_costsWithOthers_8 : decode cX11_costsWithOthers 8 = .ok (.getfield 64, 3) := by decide +kernel
theorem dX11_costsWithOthers_11 : decode cX11_costsWithOthers 11 = .ok (.if_icmp .ge 30, 3) := by decide +kernel
theorem dX11_costsWithOthers_14 : decode cX11_costsWithOthers 14 = .ok (.aload_n 0, 1) := by decide +kernel
theorem dX11_costsWithOthers_15 : decode cX11_costsWithOthers 15 = .ok (.iload 4, 2) := by decide +kernel
theorem dX11_costsWithOthers_17 : decode cX11_costsWithOthers 17 = .ok (.iload_n 2, 1) := by decide +kernel
theorem dX11_costsWithOthers_18 : decode cX11_costsWithOthers 18 = .ok (.invokevirtual 190, 3) := by decide +kernel
theorem dX11_costsWithOthers_21 : decode cX11_costsWithOthers 21 = .ok (.ifnull 14, 3) := by decide +kernel
theorem dX11_costsWithOthers_24 : decode cX11_costsWithOthers 24 = .ok (.iload_n 3, 1) := by decide +kernel
theorem dX11_costsWithOthers_25 : decode cX11_costsWithOthers 25 = .ok (.aload_n 0, 1) := by decide +kernel
theorem dX11_costsWithOthers_26 : decode cX11_costsWithOthers 26 = .ok (.iload_n 2, 1) := by decide +kernel
theorem dX11_costsWithOthers_27 : decode cX11_costsWithOthers 27 = .ok (.iload_n 1, 1) := by decide +kernel
theorem dX11_costsWithOthers_28 : decode cX11_costsWithOthers 28 = .ok (.iload 4, 2) := by decide +kernel
theorem dX11_costsWithOthers_30 : decode cX11_costsWithOthers 30 = .ok (.invokevirtual 306, 3) := by decide +kernel
theorem dX11_costsWithOthers_33 : decode cX11_costsWithOthers 33 = .ok (.iadd, 1) := by decide +kernel
theorem dX11_costsWithOthers_34 : decode cX11_costsWithOthers 34 = .ok (.istore_n 3, 1) := by decide +kernel
theorem dX11_costsWithOthers_35 : decode cX11_costsWithOthers 35 = .ok (.iinc 4 1, 3) := by decide +kernel
theorem dX11_costsWithOthers_38 : decode cX11_costsWithOthers 38 = .ok (.goto (-33), 3) := by decide +kernel
theorem dX11_costsWithOthers_41 : decode cX11_costsWithOthers 41 = .ok (.iload_n 3, 1) := by decide +kernel
theorem dX11_costsWithOthers_42 : decode cX11_costsWithOthers 42 = .ok (.ireturn, 1) := by decide +kernel
theorem dX11_firstOrder_0 : decode cX11_firstOrder 0 = .ok (.iconst 4, 1) := by decide +kernel
theorem dX11_firstOrder_1 : decode cX11_firstOrder 1 = .ok (.newarray .int, 2) := by decide +kernel
theorem dX11_firstOrder_3 : decode cX11_firstOrder 3 = .ok (.astore_n 1, 1) := by decide +kernel
theorem dX11_firstOrder_4 : decode cX11_firstOrder 4 = .ok (.iconst 0, 1) := by decide +kernel
theorem dX11_firstOrder_5 : decode cX11_firstOrder 5 = .ok (.istore_n 2, 1) := by decide +kernel
theorem dX11_firstOrder_6 : decode cX11_firstOrder 6 = .ok (.iconst 0, 1) := by decide +kernel
theorem dX11_firstOrder_7 : decode cX11_firstOrder 7 = .ok (.istore_n 3, 1) := by decide +kernel
theorem dX11_firstOrder_8 : decode cX11_firstOrder 8 = .ok (.iload_n 3, 1) := by decide +kernel
theorem dX11_firstOrder_9 : decode cX11_firstOrder 9 = .ok (.bipush 12, 2) := by decide +kernel
theorem dX11_firstOrder_11 : decode cX11_firstOrder 11 = .ok (.if_icmp .ge 29, 3) := by decide +kernel
theorem dX11_firstOrder_14 : decode cX11_firstOrder 14 = .ok (.iload_n 2, 1) := by decide +kernel
theorem dX11_firstOrder_15 : decode cX11_firstOrder 15 = .ok (.iconst 4, 1) := by decide +kernel
theorem dX11_firstOrder_16 : decode cX11_firstOrder 16 = .ok (.if_icmp .ge 24, 3) := by decide +kernel
theorem dX11_firstOrder_19 : decode cX11_firstOrder 19 = .ok (.iload_n 0, 1) := by decide +kernel
theorem dX11_firstOrder_20 : decode cX11_firstOrder 20 = .ok (.iload_n 3, 1) := by decide +kernel
theorem dX11_firstOrder_21 : decode cX11_firstOrder 21 = .ok (.ishr, 1) := by decide +kernel
theorem dX11_firstOrder_22 : decode cX11_firstOrder 22 = .ok (.iconst 1, 1) := by decide +kernel
theorem dX11_firstOrder_23 : decode cX11_firstOrder 23 = .ok (.iand, 1) := by decide +kernel
theorem dX11_firstOrder_24 : decode cX11_firstOrder 24 = .ok (.ifCond .eq 10, 3) := by decide +kernel
theorem dX11_firstOrder_27 : decode cX11_firstOrder 27 = .ok (.aload_n 1, 1) := by decide +kernel
theorem dX11_firstOrder_28 : decode cX11_firstOrder 28 = .ok (.iload_n 2, 1) := by decide +kernel
theorem dX11_firstOrder_29 : decode cX11_firstOrder 29 = .ok (.iload_n 3, 1) := by decide +kernel
theorem dX11_firstOrder_30 : decode cX11_firstOrder 30 = .ok (.iastore, 1) := by decide +kernel
theorem dX11_firstOrder_31 : decode cX11_firstOrder 31 = .ok (.iinc 2 1, 3) := by decide +kernel
theorem dX11_firstOrder_34 : decode cX11_firstOrder 34 = .ok (.iinc 3 1, 3) := by decide +kernel
theorem dX11_firstOrder_37 : decode cX11_firstOrder 37 = .ok (.goto (-29), 3) := by decide +kernel
theorem dX11_firstOrder_40 : decode cX11_firstOrder 40 = .ok (.aload_n 1, 1) := by decide +kernel
theorem dX11_firstOrder_41 : decode cX11_firstOrder 41 = .ok (.areturn, 1) := by decide +kernel
theorem dX11_toNextOrder_0 : decode cX11_toNextOrder 0 = .ok (.iload_n 1, 1) := by decide +kernel
theorem dX11_toNextOrder_1 : decode cX11_toNextOrder 1 = .ok (.iconst 2, 1) := by decide +kernel
theorem dX11_toNextOrder_2 : decode cX11_toNextOrder 2 = .ok (.isub, 1) := by decide +kernel
theorem dX11_toNextOrder_3 : decode cX11_toNextOrder 3 = .ok (.istore_n 2, 1) := by decide +kernel
theorem dX11_toNextOrder_4 : decode cX11_toNextOrder 4 = .ok (.iload_n 2, 1) := by decide +kernel
theorem dX11_toNextOrder_5 : decode cX11_toNextOrder 5 = .ok (.ifCond .lt 20, 3) := by decide +kernel
theorem dX11_toNextOrder_8 : decode cX11_toNextOrder 8 = .ok (.aload_n 0, 1) := by decide +kernel
theorem dX11_toNextOrder_9 : decode cX11_toNextOrder 9 = .ok (.iload_n 2, 1) := by decide +kernel
theorem dX11_toNextOrder_10 : decode cX11_toNextOrder 10 = .ok (.iaload, 1) := by decide +kernel
theorem dX11_toNextOrder_11 : decode cX11_toNextOrder 11 = .ok (.aload_n 0, 1) := by decide +kernel
theorem dX11_toNextOrder_12 : decode cX11_toNextOrder 12 = .ok (.iload_n 2, 1) := by decide +kernel
theorem dX11_toNextOrder_13 : decode cX11_toNextOrder 13 = .ok (.iconst 1, 1) := by decide +kernel
theorem dX11_toNextOrder_14 : decode cX11_toNextOrder 14 = .ok (.iadd, 1) := by decide +kernel
theorem dX11_toNextOrder_15 : decode cX11_toNextOrder 15 = .ok (.iaload, 1) := by decide +kernel
theorem dX11_toNextOrder_16 : decode cX11_toNextOrder 16 = .ok (.if_icmp .le 9, 3) := by decide +kernel
theorem dX11_toNextOrder_19 : decode cX11_toNextOrder 19 = .ok (.iinc 2 (-1), 3) := by decide +kernel
theorem dX11_toNextOrder_22 : decode cX11_toNextOrder 22 = .ok (.goto (-18), 3) := by decide +kernel
theorem dX11_toNextOrder_25 : decode cX11_toNextOrder 25 = .ok (.iload_n 2, 1) := by decide +kernel
theorem dX11_toNextOrder_26 : decode cX11_toNextOrder 26 = .ok (.ifCond .ge 5, 3) := by decide +kernel
theorem dX11_toNextOrder_29 : decode cX11_toNextOrder 29 = .ok (.iconst 0, 1) := by decide +kernel
theorem dX11_toNextOrder_30 : decode cX11_toNextOrder 30 = .ok (.ireturn, 1) := by decide +kernel
theorem dX11_toNextOrder_31 : decode cX11_toNextOrder 31 = .ok (.iload_n 1, 1) := by decide +kernel
theorem dX11_toNextOrder_32 : decode cX11_toNextOrder 32 = .ok (.iconst 1, 1) := by decide +kernel
theorem dX11_toNextOrder_33 : decode cX11_toNextOrder 33 = .ok (.isub, 1) := by decide +kernel
theorem dX11_toNextOrder_34 : decode cX11_toNextOrder 34 = .ok (.istore_n 3, 1) := by decide +kernel
theorem dX11_toNextOrder_35 : decode cX11_toNextOrder 35 = .ok (.iload_n 3, 1) := by decide +kernel
theorem dX11_toNextOrder_36 : decode cX11_toNextOrder 36 = .ok (.iload_n 2, 1) := by decide +kernel
theorem dX11_toNextOrder_37 : decode cX11_toNextOrder 37 = .ok (.if_icmp .le 18, 3) := by decide +kernel
theorem dX11_toNextOrder_40 : decode cX11_toNextOrder 40 = .ok (.aload_n 0, 1) := by decide +kernel
theorem dX11_toNextOrder_41 : decode cX11_toNextOrder 41 = .ok (.iload_n 3, 1) := by decide +kernel
theorem dX11_toNextOrder_42 : decode cX11_toNextOrder 42 = .ok (.iaload, 1) := by decide +kernel
theorem dX11_toNextOrder_43 : decode cX11_toNextOrder 43 = .ok (.aload_n 0, 1) := by decide +kernel
theorem dX11_toNextOrder_44 : decode cX11_toNextOrder 44 = .ok (.iload_n 2, 1) := by decide +kernel
theorem dX11_toNextOrder_45 : decode cX11_toNextOrder 45 = .ok (.iaload, 1) := by decide +kernel
theorem dX11_toNextOrder_46 : decode cX11_toNextOrder 46 = .ok (.if_icmp .ge 9, 3) := by decide +kernel
theorem dX11_toNextOrder_49 : decode cX11_toNextOrder 49 = .ok (.iinc 3 (-1), 3) := by decide +kernel
theorem dX11_toNextOrder_52 : decode cX11_toNextOrder 52 = .ok (.goto (-17), 3) := by decide +kernel
theorem dX11_toNextOrder_55 : decode cX11_toNextOrder 55 = .ok (.aload_n 0, 1) := by decide +kernel
theorem dX11_toNextOrder_56 : decode cX11_toNextOrder 56 = .ok (.iload_n 2, 1) := by decide +kernel
theorem dX11_toNextOrder_57 : decode cX11_toNextOrder 57 = .ok (.iload_n 3, 1) := by decide +kernel
theorem dX11_toNextOrder_58 : decode cX11_toNextOrder 58 = .ok (.invokestatic 309, 3) := by decide +kernel
theorem dX11_toNextOrder_61 : decode cX11_toNextOrder 61 = .ok (.iload_n 2, 1) := by decide +kernel
theorem dX11_toNextOrder_62 : decode cX11_toNextOrder 62 = .ok (.iconst 1, 1) := by decide +kernel
theorem dX11_toNextOrder_63 : decode cX11_toNextOrder 63 = .ok (.iadd, 1) := by decide +kernel
theorem dX11_toNextOrder_64 : decode cX11_toNextOrder 64 = .ok (.istore 4, 2) := by decide +kernel
theorem dX11_toNextOrder_66 : decode cX11_toNextOrder 66 = .ok (.iload_n 1, 1) := by decide +kernel
theorem dX11_toNextOrder_67 : decode cX11_toNextOrder 67 = .ok (.iconst 1, 1) := by decide +kernel
theorem dX11_toNextOrder_68 : decode cX11_toNextOrder 68 = .ok (.isub, 1) := by decide +kernel
theorem dX11_toNextOrder_69 : decode cX11_toNextOrder 69 = .ok (.istore 5, 2) := by decide +kernel
theorem dX11_toNextOrder_71 : decode cX11_toNextOrder 71 = .ok (.iload 4, 2) := by decide +kernel
theorem dX11_toNextOrder_73 : decode cX11_toNextOrder 73 = .ok (.iload 5, 2) := by decide +kernel
theorem dX11_toNextOrder_75 : decode cX11_toNextOrder 75 = .ok (.if_icmp .ge 20, 3) := by decide +kernel
theorem dX11_toNextOrder_78 : decode cX11_toNextOrder 78 = .ok (.aload_n 0, 1) := by decide +kernel
theorem dX11_toNextOrder_79 : decode cX11_toNextOrder 79 = .ok (.iload 4, 2) := by decide +kernel
theorem dX11_toNextOrder_81 : decode cX11_toNextOrder 81 = .ok (.iload 5, 2) := by decide +kernel
theorem dX11_toNextOrder_83 : decode cX11_toNextOrder 83 = .ok (.invokestatic 309, 3) := by decide +kernel
theorem dX11_toNextOrder_86 : decode cX11_toNextOrder 86 = .ok (.iinc 4 1, 3) := by decide +kernel
theorem dX11_toNextOrder_89 : decode cX11_toNextOrder 89 = .ok (.iinc 5 (-1), 3) := by decide +kernel
theorem dX11_toNextOrder_92 : decode cX11_toNextOrder 92 = .ok (.goto (-21), 3) := by decide +kernel
theorem dX11_toNextOrder_95 : decode cX11_toNextOrder 95 = .ok (.iconst 1, 1) := by decide +kernel
theorem dX11_toNextOrder_96 : decode cX11_toNextOrder 96 = .ok (.ireturn, 1) := by decide +kernel
theorem dX11_swap_0 : decode cX11_swap 0 = .ok (.aload_n 0, 1) := by decide +kernel
theorem dX11_swap_1 : decode cX11_swap 1 = .ok (.iload_n 1, 1) := by decide +kernel
theorem dX11_swap_2 : decode cX11_swap 2 = .ok (.iaload, 1) := by decide +kernel
theorem dX11_swap_3 : decode cX11_swap 3 = .ok (.istore_n 3, 1) := by decide +kernel
theorem dX11_swap_4 : decode cX11_swap 4 = .ok (.aload_n 0, 1) := by decide +kernel
theorem dX11_swap_5 : decode cX11_swap 5 = .ok (.iload_n 1, 1) := by decide +kernel
theorem dX11_swap_6 : decode cX11_swap 6 = .ok (.aload_n 0, 1) := by decide +kernel
theorem dX11_swap_7 : decode cX11_swap 7 = .ok (.iload_n 2, 1) := by decide +kernel
theorem dX11_swap_8 : decode cX11_swap 8 = .ok (.iaload, 1) := by decide +kernel
theorem dX11_swap_9 : decode cX11_swap 9 = .ok (.iastore, 1) := by decide +kernel
theorem dX11_swap_10 : decode cX11_swap 10 = .ok (.aload_n 0, 1) := by decide +kernel
theorem dX11_swap_11 : decode cX11_swap 11 = .ok (.iload_n 2, 1) := by decide +kernel
theorem dX11_swap_12 : decode cX11_swap 12 = .ok (.iload_n 3, 1) := by decide +kernel
theorem dX11_swap_13 : decode cX11_swap 13 = .ok (.iastore, 1) := by decide +kernel
theorem dX11_swap_14 : decode cX11_swap 14 = .ok (.return_, 1) := by decide +kernel
theorem dX11_comeOut_0 : decode cX11_comeOut 0 = .ok (.iconst 0, 1) := by decide +kernel
theorem dX11_comeOut_1 : decode cX11_comeOut 1 = .ok (.istore 5, 2) := by decide +kernel
theorem dX11_comeOut_3 : decode cX11_comeOut 3 = .ok (.iconst 0, 1) := by decide +kernel
theorem dX11_comeOut_4 : decode cX11_comeOut 4 = .ok (.istore 6, 2) := by decide +kernel
theorem dX11_comeOut_6 : decode cX11_comeOut 6 = .ok (.iload 6, 2) := by decide +kernel
theorem dX11_comeOut_8 : decode cX11_comeOut 8 = .ok (.bipush 10, 2) := by decide +kernel
theorem dX11_comeOut_10 : decode cX11_comeOut 10 = .ok (.if_icmp .ge 99, 3) := by decide +kernel
theorem dX11_comeOut_13 : decode cX11_comeOut 13 = .ok (.aload_n 0, 1) := by decide +kernel
theorem dX11_comeOut_14 : decode cX11_comeOut 14 = .ok (.iload_n 1, 1) := by decide +kernel
theorem dX11_comeOut_15 : decode cX11_comeOut 15 = .ok (.iload 6, 2) := by decide +kernel
theorem dX11_comeOut_17 : decode cX11_comeOut 17 = .ok (.invokevirtual 190, 3) := by decide +kernel
theorem dX11_comeOut_20 : decode cX11_comeOut 20 = .ok (.astore 7, 2) := by decide +kernel
theorem dX11_comeOut_22 : decode cX11_comeOut 22 = .ok (.aload_n 0, 1) := by decide +kernel
theorem dX11_comeOut_23 : decode cX11_comeOut 23 = .ok (.iload_n 2, 1) := by decide +kernel
theorem dX11_comeOut_24 : decode cX11_comeOut 24 = .ok (.iload 6, 2) := by decide +kernel
theorem dX11_comeOut_26 : decode cX11_comeOut 26 = .ok (.invokevirtual 190, 3) := by decide +kernel
theorem dX11_comeOut_29 : decode cX11_comeOut 29 = .ok (.astore 8, 2) := by decide +kernel
theorem dX11_comeOut_31 : decode cX11_comeOut 31 = .ok (.aload 7, 2) := by decide +kernel
theorem dX11_comeOut_33 : decode cX11_comeOut 33 = .ok (.ifnull 70, 3) := by decide +kernel
theorem dX11_comeOut_36 : decode cX11_comeOut 36 = .ok (.aload 8, 2) := by decide +kernel
theorem dX11_comeOut_38 : decode cX11_comeOut 38 = .ok (.ifnull 65, 3) := by decide +kernel
theorem dX11_comeOut_41 : decode cX11_comeOut 41 = .ok (.aload_n 0, 1) := by decide +kernel
theorem dX11_comeOut_42 : decode cX11_comeOut 42 = .ok (.getfield 56, 3) := by decide +kernel
theorem dX11_comeOut_45 : decode cX11_comeOut 45 = .ok (.aload 7, 2) := by decide +kernel
theorem dX11_comeOut_47 : decode cX11_comeOut 47 = .ok (.invokevirtual 141, 3) := by decide +kernel
theorem dX11_comeOut_50 : decode cX11_comeOut 50 = .ok (.iconst 0, 1) := by decide +kernel
theorem dX11_comeOut_51 : decode cX11_comeOut 51 = .ok (.istore 9, 2) := by decide +kernel
theorem dX11_comeOut_53 : decode cX11_comeOut 53 = .ok (.iload 9, 2) := by decide +kernel
theorem dX11_comeOut_55 : decode cX11_comeOut 55 = .ok (.iload 4, 2) := by decide +kernel
theorem dX11_comeOut_57 : decode cX11_comeOut 57 = .ok (.if_icmp .ge 26, 3) := by decide +kernel
theorem dX11_comeOut_60 : decode cX11_comeOut 60 = .ok (.aload_n 0, 1) := by decide +kernel
theorem dX11_comeOut_61 : decode cX11_comeOut 61 = .ok (.getfield 24, 3) := by decide +kernel
theorem dX11_comeOut_64 : decode cX11_comeOut 64 = .ok (.aload_n 3, 1) := by decide +kernel
theorem dX11_comeOut_65 : decode cX11_comeOut 65 = .ok (.iload 9, 2) := by decide +kernel
theorem dX11_comeOut_67 : decode cX11_comeOut 67 = .ok (.iaload, 1) := by decide +kernel
theorem dX11_comeOut_68 : decode cX11_comeOut 68 = .ok (.aaload, 1) := by decide +kernel
theorem dX11_comeOut_69 : decode cX11_comeOut 69 = .ok (.aload_n 0, 1) := by decide +kernel
theorem dX11_comeOut_70 : decode cX11_comeOut 70 = .ok (.getfield 56, 3) := by decide +kernel
theorem dX11_comeOut_73 : decode cX11_comeOut 73 = .ok (.invokevirtual 124, 3) := by decide +kernel
theorem dX11_comeOut_76 : decode cX11_comeOut 76 = .ok (.pop, 1) := by decide +kernel
theorem dX11_comeOut_77 : decode cX11_comeOut 77 = .ok (.iinc 9 1, 3) := by decide +kernel
theorem dX11_comeOut_80 : decode cX11_comeOut 80 = .ok (.goto (-27), 3) := by decide +kernel
theorem dX11_comeOut_83 : decode cX11_comeOut 83 = .ok (.iload 5, 2) := by decide +kernel
theorem dX11_comeOut_85 : decode cX11_comeOut 85 = .ok (.aload_n 0, 1) := by decide +kernel
theorem dX11_comeOut_86 : decode cX11_comeOut 86 = .ok (.getfield 56, 3) := by decide +kernel
theorem dX11_comeOut_89 : decode cX11_comeOut 89 = .ok (.aload 8, 2) := by decide +kernel
theorem dX11_comeOut_91 : decode cX11_comeOut 91 = .ok (.invokevirtual 313, 3) := by decide +kernel
theorem dX11_comeOut_94 : decode cX11_comeOut 94 = .ok (.invokestatic 163, 3) := by decide +kernel
theorem dX11_comeOut_97 : decode cX11_comeOut 97 = .ok (.iload 6, 2) := by decide +kernel
theorem dX11_comeOut_99 : decode cX11_comeOut 99 = .ok (.ishl, 1) := by decide +kernel
theorem dX11_comeOut_100 : decode cX11_comeOut 100 = .ok (.ior, 1) := by decide +kernel
theorem dX11_comeOut_101 : decode cX11_comeOut 101 = .ok (.istore 5, 2) := by decide +kernel
theorem dX11_comeOut_103 : decode cX11_comeOut 103 = .ok (.iinc 6 1, 3) := by decide +kernel
theorem dX11_comeOut_106 : decode cX11_comeOut 106 = .ok (.goto (-100), 3) := by decide +kernel
theorem dX11_comeOut_109 : decode cX11_comeOut 109 = .ok (.iload 5, 2) := by decide +kernel
theorem dX11_comeOut_111 : decode cX11_comeOut 111 = .ok (.ireturn, 1) := by decide +kernel
theorem dX11_isOrderFelt_0 : decode cX11_isOrderFelt 0 = .ok (.aload_n 0, 1) := by decide +kernel
theorem dX11_isOrderFelt_1 : decode cX11_isOrderFelt 1 = .ok (.getfield 56, 3) := by decide +kernel
theorem dX11_isOrderFelt_4 : decode cX11_isOrderFelt 4 = .ok (.aload_n 1, 1) := by decide +kernel
theorem dX11_isOrderFelt_5 : decode cX11_isOrderFelt 5 = .ok (.invokevirtual 141, 3) := by decide +kernel
theorem dX11_isOrderFelt_8 : decode cX11_isOrderFelt 8 = .ok (.aload_n 2, 1) := by decide +kernel
theorem dX11_isOrderFelt_9 : decode cX11_isOrderFelt 9 = .ok (.aload_n 0, 1) := by decide +kernel
theorem dX11_isOrderFelt_10 : decode cX11_isOrderFelt 10 = .ok (.getfield 56, 3) := by decide +kernel
theorem dX11_isOrderFelt_13 : decode cX11_isOrderFelt 13 = .ok (.invokevirtual 124, 3) := by decide +kernel
theorem dX11_isOrderFelt_16 : decode cX11_isOrderFelt 16 = .ok (.pop, 1) := by decide +kernel
theorem dX11_isOrderFelt_17 : decode cX11_isOrderFelt 17 = .ok (.aload_n 3, 1) := by decide +kernel
theorem dX11_isOrderFelt_18 : decode cX11_isOrderFelt 18 = .ok (.aload_n 0, 1) := by decide +kernel
theorem dX11_isOrderFelt_19 : decode cX11_isOrderFelt 19 = .ok (.getfield 56, 3) := by decide +kernel
theorem dX11_isOrderFelt_22 : decode cX11_isOrderFelt 22 = .ok (.invokevirtual 124, 3) := by decide +kernel
theorem dX11_isOrderFelt_25 : decode cX11_isOrderFelt 25 = .ok (.pop, 1) := by decide +kernel
theorem dX11_isOrderFelt_26 : decode cX11_isOrderFelt 26 = .ok (.aload_n 0, 1) := by decide +kernel
theorem dX11_isOrderFelt_27 : decode cX11_isOrderFelt 27 = .ok (.getfield 60, 3) := by decide +kernel
theorem dX11_isOrderFelt_30 : decode cX11_isOrderFelt 30 = .ok (.aload_n 1, 1) := by decide +kernel
theorem dX11_isOrderFelt_31 : decode cX11_isOrderFelt 31 = .ok (.invokevirtual 141, 3) := by decide +kernel
theorem dX11_isOrderFelt_34 : decode cX11_isOrderFelt 34 = .ok (.aload_n 3, 1) := by decide +kernel
theorem dX11_isOrderFelt_35 : decode cX11_isOrderFelt 35 = .ok (.aload_n 0, 1) := by decide +kernel
theorem dX11_isOrderFelt_36 : decode cX11_isOrderFelt 36 = .ok (.getfield 60, 3) := by decide +kernel
theorem dX11_isOrderFelt_39 : decode cX11_isOrderFelt 39 = .ok (.invokevirtual 124, 3) := by decide +kernel
theorem dX11_isOrderFelt_42 : decode cX11_isOrderFelt 42 = .ok (.pop, 1) := by decide +kernel
theorem dX11_isOrderFelt_43 : decode cX11_isOrderFelt 43 = .ok (.aload_n 2, 1) := by decide +kernel
theorem dX11_isOrderFelt_44 : decode cX11_isOrderFelt 44 = .ok (.aload_n 0, 1) := by decide +kernel
theorem dX11_isOrderFelt_45 : decode cX11_isOrderFelt 45 = .ok (.getfield 60, 3) := by decide +kernel
theorem dX11_isOrderFelt_48 : decode cX11_isOrderFelt 48 = .ok (.invokevirtual 124, 3) := by decide +kernel
theorem dX11_isOrderFelt_51 : decode cX11_isOrderFelt 51 = .ok (.pop, 1) := by decide +kernel
theorem dX11_isOrderFelt_52 : decode cX11_isOrderFelt 52 = .ok (.aload_n 0, 1) := by decide +kernel
theorem dX11_isOrderFelt_53 : decode cX11_isOrderFelt 53 = .ok (.getfield 56, 3) := by decide +kernel
theorem dX11_isOrderFelt_56 : decode cX11_isOrderFelt 56 = .ok (.aload_n 0, 1) := by decide +kernel
theorem dX11_isOrderFelt_57 : decode cX11_isOrderFelt 57 = .ok (.getfield 60, 3) := by decide +kernel
theorem dX11_isOrderFelt_60 : decode cX11_isOrderFelt 60 = .ok (.invokevirtual 313, 3) := by decide +kernel
theorem dX11_isOrderFelt_63 : decode cX11_isOrderFelt 63 = .ok (.ifCond .ne 7, 3) := by decide +kernel
theorem dX11_isOrderFelt_66 : decode cX11_isOrderFelt 66 = .ok (.iconst 1, 1) := by decide +kernel
theorem dX11_isOrderFelt_67 : decode cX11_isOrderFelt 67 = .ok (.goto 4, 3) := by decide +kernel
theorem dX11_isOrderFelt_70 : decode cX11_isOrderFelt 70 = .ok (.iconst 0, 1) := by decide +kernel
theorem dX11_isOrderFelt_71 : decode cX11_isOrderFelt 71 = .ok (.ireturn, 1) := by decide +kernel
theorem dX11_areLeaves_0 : decode cX11_areLeaves 0 = .ok (.iload_n 1, 1) := by decide +kernel
theorem dX11_areLeaves_1 : decode cX11_areLeaves 1 = .ok (.aload_n 0, 1) := by decide +kernel
theorem dX11_areLeaves_2 : decode cX11_areLeaves 2 = .ok (.getfield 64, 3) := by decide +kernel
theorem dX11_areLeaves_5 : decode cX11_areLeaves 5 = .ok (.iushr, 1) := by decide +kernel
theorem dX11_areLeaves_6 : decode cX11_areLeaves 6 = .ok (.ifCond .ne 15, 3) := by decide +kernel
theorem dX11_areLeaves_9 : decode cX11_areLeaves 9 = .ok (.iload_n 1, 1) := by decide +kernel
theorem dX11_areLeaves_10 : decode cX11_areLeaves 10 = .ok (.invokestatic 227, 3) := by decide +kernel
theorem dX11_areLeaves_13 : decode cX11_areLeaves 13 = .ok (.iconst 3, 1) := by decide +kernel
theorem dX11_areLeaves_14 : decode cX11_areLeaves 14 = .ok (.if_icmp .lt 7, 3) := by decide +kernel
theorem dX11_areLeaves_17 : decode cX11_areLeaves 17 = .ok (.iconst 1, 1) := by decide +kernel
theorem dX11_areLeaves_18 : decode cX11_areLeaves 18 = .ok (.goto 4, 3) := by decide +kernel
theorem dX11_areLeaves_21 : decode cX11_areLeaves 21 = .ok (.iconst 0, 1) := by decide +kernel
theorem dX11_areLeaves_22 : decode cX11_areLeaves 22 = .ok (.ireturn, 1) := by decide +kernel
theorem dX11_treesOf_0 : decode cX11_treesOf 0 = .ok (.iload_n 0, 1) := by decide +kernel
theorem dX11_treesOf_1 : decode cX11_treesOf 1 = .ok (.invokestatic 227, 3) := by decide +kernel
theorem dX11_treesOf_4 : decode cX11_treesOf 4 = .ok (.istore_n 1, 1) := by decide +kernel
theorem dX11_treesOf_5 : decode cX11_treesOf 5 = .ok (.iconst 1, 1) := by decide +kernel
theorem dX11_treesOf_6 : decode cX11_treesOf 6 = .ok (.istore_n 2, 1) := by decide +kernel
theorem dX11_treesOf_7 : decode cX11_treesOf 7 = .ok (.iconst 3, 1) := by decide +kernel
theorem dX11_treesOf_8 : decode cX11_treesOf 8 = .ok (.istore_n 3, 1) := by decide +kernel
theorem dX11_treesOf_9 : decode cX11_treesOf 9 = .ok (.iload_n 3, 1) := by decide +kernel
theorem dX11_treesOf_10 : decode cX11_treesOf 10 = .ok (.iload_n 1, 1) := by decide +kernel
theorem dX11_treesOf_11 : decode cX11_treesOf 11 = .ok (.if_icmp .ge 16, 3) := by decide +kernel
theorem dX11_treesOf_14 : decode cX11_treesOf 14 = .ok (.iload_n 2, 1) := by decide +kernel
theorem dX11_treesOf_15 : decode cX11_treesOf 15 = .ok (.iload_n 3, 1) := by decide +kernel
theorem dX11_treesOf_16 : decode cX11_treesOf 16 = .ok (.invokestatic 316, 3) := by decide +kernel
theorem dX11_treesOf_19 : decode cX11_treesOf 19 = .ok (.imul, 1) := by decide +kernel
theorem dX11_treesOf_20 : decode cX11_treesOf 20 = .ok (.istore_n 2, 1) := by decide +kernel
theorem dX11_treesOf_21 : decode cX11_treesOf 21 = .ok (.iinc 3 1, 3) := by decide +kernel
theorem dX11_treesOf_24 : decode cX11_treesOf 24 = .ok (.goto (-15), 3) := by decide +kernel
theorem dX11_treesOf_27 : decode cX11_treesOf 27 = .ok (.iload_n 2, 1) := by decide +kernel
theorem dX11_treesOf_28 : decode cX11_treesOf 28 = .ok (.ireturn, 1) := by decide +kernel
theorem dX11_hangSets_0 : decode cX11_hangSets 0 = .ok (.iconst 0, 1) := by decide +kernel
theorem dX11_hangSets_1 : decode cX11_hangSets 1 = .ok (.istore_n 1, 1) := by decide +kernel
theorem dX11_hangSets_2 : decode cX11_hangSets 2 = .ok (.iload_n 1, 1) := by decide +kernel
theorem dX11_hangSets_3 : decode cX11_hangSets 3 = .ok (.bipush 10, 2) := by decide +kernel
theorem dX11_hangSets_5 : decode cX11_hangSets 5 = .ok (.if_icmp .ge 86, 3) := by decide +kernel
theorem dX11_hangSets_8 : decode cX11_hangSets 8 = .ok (.iconst 0, 1) := by decide +kernel
theorem dX11_hangSets_9 : decode cX11_hangSets 9 = .ok (.istore_n 2, 1) := by decide +kernel
theorem dX11_hangSets_10 : decode cX11_hangSets 10 = .ok (.iconst 0, 1) := by decide +kernel
theorem dX11_hangSets_11 : decode cX11_hangSets 11 = .ok (.istore_n 3, 1) := by decide +kernel
theorem dX11_hangSets_12 : decode cX11_hangSets 12 = .ok (.iload_n 3, 1) := by decide +kernel
theorem dX11_hangSets_13 : decode cX11_hangSets 13 = .ok (.aload_n 0, 1) := by decide +kernel
theorem dX11_hangSets_14 : decode cX11_hangSets 14 = .ok (.getfield 64, 3) := by decide +kernel
theorem dX11_hangSets_17 : decode cX11_hangSets 17 = .ok (.if_icmp .ge 68, 3) := by decide +kernel
theorem dX11_hangSets_20 : decode cX11_hangSets 20 = .ok (.aload_n 0, 1) := by decide +kernel
theorem dX11_hangSets_21 : decode cX11_hangSets 21 = .ok (.iload_n 3, 1) := by decide +kernel
theorem dX11_hangSets_22 : decode cX11_hangSets 22 = .ok (.iload_n 1, 1) := by decide +kernel
theorem dX11_hangSets_23 : decode cX11_hangSets 23 = .ok (.invokevirtual 190, 3) := by decide +kernel
theorem dX11_hangSets_26 : decode cX11_hangSets 26 = .ok (.ifnonnull 19, 3) := by decide +kernel
theorem dX11_hangSets_29 : decode cX11_hangSets 29 = .ok (.aload_n 0, 1) := by decide +kernel
theorem dX11_hangSets_30 : decode cX11_hangSets 30 = .ok (.getfield 51, 3) := by decide +kernel
theorem dX11_hangSets_33 : decode cX11_hangSets 33 = .ok (.iload_n 1, 1) := by decide +kernel
theorem dX11_hangSets_34 : decode cX11_hangSets 34 = .ok (.iconst 1, 1) := by decide +kernel
theorem dX11_hangSets_35 : decode cX11_hangSets 35 = .ok (.iload_n 3, 1) := by decide +kernel
theorem dX11_hangSets_36 : decode cX11_hangSets 36 = .ok (.ishl, 1) := by decide +kernel
theorem dX11_hangSets_37 : decode cX11_hangSets 37 = .ok (.bipush 63, 2) := by decide +kernel
theorem dX11_hangSets_39 : decode cX11_hangSets 39 = .ok (.invokevirtual 319, 3) := by decide +kernel
theorem dX11_hangSets_42 : decode cX11_hangSets 42 = .ok (.goto 37, 3) := by decide +kernel
theorem dX11_hangSets_45 : decode cX11_hangSets 45 = .ok (.iload_n 2, 1) := by decide +kernel
theorem dX11_hangSets_46 : decode cX11_hangSets 46 = .ok (.iload_n 3, 1) := by decide +kernel
theorem dX11_hangSets_47 : decode cX11_hangSets 47 = .ok (.ishr, 1) := by decide +kernel
theorem dX11_hangSets_48 : decode cX11_hangSets 48 = .ok (.iconst 1, 1) := by decide +kernel
theorem dX11_hangSets_49 : decode cX11_hangSets 49 = .ok (.iand, 1) := by decide +kernel
theorem dX11_hangSets_50 : decode cX11_hangSets 50 = .ok (.ifCond .ne 29, 3) := by decide +kernel
theorem dX11_hangSets_53 : decode cX11_hangSets 53 = .ok (.aload_n 0, 1) := by decide +kernel
theorem dX11_hangSets_54 : decode cX11_hangSets 54 = .ok (.iload_n 1, 1) := by decide +kernel
theorem dX11_hangSets_55 : decode cX11_hangSets 55 = .ok (.iload_n 3, 1) := by decide +kernel
theorem dX11_hangSets_56 : decode cX11_hangSets 56 = .ok (.invokevirtual 211, 3) := by decide +kernel
theorem dX11_hangSets_59 : decode cX11_hangSets 59 = .ok (.istore 4, 2) := by decide +kernel
theorem dX11_hangSets_61 : decode cX11_hangSets 61 = .ok (.aload_n 0, 1) := by decide +kernel
theorem dX11_hangSets_62 : decode cX11_hangSets 62 = .ok (.getfield 51, 3) := by decide +kernel
theorem dX11_hangSets_65 : decode cX11_hangSets 65 = .ok (.iload_n 1, 1) := by decide +kernel
theorem dX11_hangSets_66 : decode cX11_hangSets 66 = .ok (.iload 4, 2) := by decide +kernel
theorem dX11_hangSets_68 : decode cX11_hangSets 68 = .ok (.iconst 1, 1) := by decide +kernel
theorem dX11_hangSets_69 : decode cX11_hangSets 69 = .ok (.iload_n 3, 1) := by decide +kernel
theorem dX11_hangSets_70 : decode cX11_hangSets 70 = .ok (.ishl, 1) := by decide +kernel
theorem dX11_hangSets_71 : decode cX11_hangSets 71 = .ok (.invokevirtual 319, 3) := by decide +kernel
theorem dX11_hangSets_74 : decode cX11_hangSets 74 = .ok (.iload_n 2, 1) := by decide +kernel
theorem dX11_hangSets_75 : decode cX11_hangSets 75 = .ok (.iload 4, 2) := by decide +kernel
theorem dX11_hangSets_77 : decode cX11_hangSets 77 = .ok (.ior, 1) := by decide +kernel
theorem dX11_hangSets_78 : decode cX11_hangSets 78 = .ok (.istore_n 2, 1) := by decide +kernel
theorem dX11_hangSets_79 : decode cX11_hangSets 79 = .ok (.iinc 3 1, 3) := by decide +kernel
theorem dX11_hangSets_82 : decode cX11_hangSets 82 = .ok (.goto (-70), 3) := by decide +kernel
theorem dX11_hangSets_85 : decode cX11_hangSets 85 = .ok (.iinc 1 1, 3) := by decide +kernel
theorem dX11_hangSets_88 : decode cX11_hangSets 88 = .ok (.goto (-86), 3) := by decide +kernel
theorem dX11_hangSets_91 : decode cX11_hangSets 91 = .ok (.return_, 1) := by decide +kernel
theorem dX11_stepsOf_0 : decode cX11_stepsOf 0 = .ok (.aload_n 0, 1) := by decide +kernel
theorem dX11_stepsOf_1 : decode cX11_stepsOf 1 = .ok (.getfield 51, 3) := by decide +kernel
theorem dX11_stepsOf_4 : decode cX11_stepsOf 4 = .ok (.iload_n 1, 1) := by decide +kernel
theorem dX11_stepsOf_5 : decode cX11_stepsOf 5 = .ok (.iload_n 2, 1) := by decide +kernel
theorem dX11_stepsOf_6 : decode cX11_stepsOf 6 = .ok (.invokevirtual 323, 3) := by decide +kernel
theorem dX11_stepsOf_9 : decode cX11_stepsOf 9 = .ok (.iconst 0, 1) := by decide +kernel
theorem dX11_stepsOf_10 : decode cX11_stepsOf 10 = .ok (.istore_n 3, 1) := by decide +kernel
theorem dX11_stepsOf_11 : decode cX11_stepsOf 11 = .ok (.iconst 0, 1) := by decide +kernel
theorem dX11_stepsOf_12 : decode cX11_stepsOf 12 = .ok (.istore 4, 2) := by decide +kernel
theorem dX11_stepsOf_14 : decode cX11_stepsOf 14 = .ok (.iload 4, 2) := by decide +kernel
theorem dX11_stepsOf_16 : decode cX11_stepsOf 16 = .ok (.bipush 10, 2) := by decide +kernel
theorem dX11_stepsOf_18 : decode cX11_stepsOf 18 = .ok (.if_icmp .ge 21, 3) := by decide +kernel
theorem dX11_stepsOf_21 : decode cX11_stepsOf 21 = .ok (.iload_n 3, 1) := by decide +kernel
theorem dX11_stepsOf_22 : decode cX11_stepsOf 22 = .ok (.aload_n 0, 1) := by decide +kernel
theorem dX11_stepsOf_23 : decode cX11_stepsOf 23 = .ok (.getfield 51, 3) := by decide +kernel
theorem dX11_stepsOf_26 : decode cX11_stepsOf 26 = .ok (.iload 4, 2) := by decide +kernel
theorem dX11_stepsOf_28 : decode cX11_stepsOf 28 = .ok (.invokevirtual 327, 3) := by decide +kernel
theorem dX11_stepsOf_31 : decode cX11_stepsOf 31 = .ok (.iadd, 1) := by decide +kernel
theorem dX11_stepsOf_32 : decode cX11_stepsOf 32 = .ok (.istore_n 3, 1) := by decide +kernel
theorem dX11_stepsOf_33 : decode cX11_stepsOf 33 = .ok (.iinc 4 1, 3) := by decide +kernel
theorem dX11_stepsOf_36 : decode cX11_stepsOf 36 = .ok (.goto (-22), 3) := by decide +kernel
theorem dX11_stepsOf_39 : decode cX11_stepsOf 39 = .ok (.iload_n 3, 1) := by decide +kernel
theorem dX11_stepsOf_40 : decode cX11_stepsOf 40 = .ok (.ireturn, 1) := by decide +kernel
theorem dJ6_numberOfTrailingZeros_0f7a4_0 : decode cJ6_numberOfTrailingZeros_0f7a4 0 = .ok (.iload_n 0, 1) := by decide +kernel
theorem dJ6_numberOfTrailingZeros_0f7a4_1 : decode cJ6_numberOfTrailingZeros_0f7a4 1 = .ok (.iconst (-1), 1) := by decide +kernel
theorem dJ6_numberOfTrailingZeros_0f7a4_2 : decode cJ6_numberOfTrailingZeros_0f7a4 2 = .ok (.ixor, 1) := by decide +kernel
theorem dJ6_numberOfTrailingZeros_0f7a4_3 : decode cJ6_numberOfTrailingZeros_0f7a4 3 = .ok (.iload_n 0, 1) := by decide +kernel
theorem dJ6_numberOfTrailingZeros_0f7a4_4 : decode cJ6_numberOfTrailingZeros_0f7a4 4 = .ok (.iconst 1, 1) := by decide +kernel
theorem dJ6_numberOfTrailingZeros_0f7a4_5 : decode cJ6_numberOfTrailingZeros_0f7a4 5 = .ok (.isub, 1) := by decide +kernel
theorem dJ6_numberOfTrailingZeros_0f7a4_6 : decode cJ6_numberOfTrailingZeros_0f7a4 6 = .ok (.iand, 1) := by decide +kernel
theorem dJ6_numberOfTrailingZeros_0f7a4_7 : decode cJ6_numberOfTrailingZeros_0f7a4 7 = .ok (.istore_n 0, 1) := by decide +kernel
theorem dJ6_numberOfTrailingZeros_0f7a4_8 : decode cJ6_numberOfTrailingZeros_0f7a4 8 = .ok (.iload_n 0, 1) := by decide +kernel
theorem dJ6_numberOfTrailingZeros_0f7a4_9 : decode cJ6_numberOfTrailingZeros_0f7a4 9 = .ok (.ifCond .gt 8, 3) := by decide +kernel
theorem dJ6_numberOfTrailingZeros_0f7a4_12 : decode cJ6_numberOfTrailingZeros_0f7a4 12 = .ok (.iload_n 0, 1) := by decide +kernel
theorem dJ6_numberOfTrailingZeros_0f7a4_13 : decode cJ6_numberOfTrailingZeros_0f7a4 13 = .ok (.bipush 32, 2) := by decide +kernel
theorem dJ6_numberOfTrailingZeros_0f7a4_15 : decode cJ6_numberOfTrailingZeros_0f7a4 15 = .ok (.iand, 1) := by decide +kernel
theorem dJ6_numberOfTrailingZeros_0f7a4_16 : decode cJ6_numberOfTrailingZeros_0f7a4 16 = .ok (.ireturn, 1) := by decide +kernel
theorem dJ6_numberOfTrailingZeros_0f7a4_17 : decode cJ6_numberOfTrailingZeros_0f7a4 17 = .ok (.iconst 1, 1) := by decide +kernel
theorem dJ6_numberOfTrailingZeros_0f7a4_18 : decode cJ6_numberOfTrailingZeros_0f7a4 18 = .ok (.istore_n 1, 1) := by decide +kernel
theorem dJ6_numberOfTrailingZeros_0f7a4_19 : decode cJ6_numberOfTrailingZeros_0f7a4 19 = .ok (.iload_n 0, 1) := by decide +kernel
theorem dJ6_numberOfTrailingZeros_0f7a4_20 : decode cJ6_numberOfTrailingZeros_0f7a4 20 = .ok (.ldc_w 264, 3) := by decide +kernel
theorem dJ6_numberOfTrailingZeros_0f7a4_23 : decode cJ6_numberOfTrailingZeros_0f7a4 23 = .ok (.if_icmp .le 11, 3) := by decide +kernel
theorem dJ6_numberOfTrailingZeros_0f7a4_26 : decode cJ6_numberOfTrailingZeros_0f7a4 26 = .ok (.iinc 1 16, 3) := by decide +kernel
theorem dJ6_numberOfTrailingZeros_0f7a4_29 : decode cJ6_numberOfTrailingZeros_0f7a4 29 = .ok (.iload_n 0, 1) := by decide +kernel
theorem dJ6_numberOfTrailingZeros_0f7a4_30 : decode cJ6_numberOfTrailingZeros_0f7a4 30 = .ok (.bipush 16, 2) := by decide +kernel
theorem dJ6_numberOfTrailingZeros_0f7a4_32 : decode cJ6_numberOfTrailingZeros_0f7a4 32 = .ok (.iushr, 1) := by decide +kernel
theorem dJ6_numberOfTrailingZeros_0f7a4_33 : decode cJ6_numberOfTrailingZeros_0f7a4 33 = .ok (.istore_n 0, 1) := by decide +kernel
theorem dJ6_numberOfTrailingZeros_0f7a4_34 : decode cJ6_numberOfTrailingZeros_0f7a4 34 = .ok (.iload_n 0, 1) := by decide +kernel
theorem dJ6_numberOfTrailingZeros_0f7a4_35 : decode cJ6_numberOfTrailingZeros_0f7a4 35 = .ok (.sipush 256, 3) := by decide +kernel
theorem dJ6_numberOfTrailingZeros_0f7a4_38 : decode cJ6_numberOfTrailingZeros_0f7a4 38 = .ok (.if_icmp .le 11, 3) := by decide +kernel
theorem dJ6_numberOfTrailingZeros_0f7a4_41 : decode cJ6_numberOfTrailingZeros_0f7a4 41 = .ok (.iinc 1 8, 3) := by decide +kernel
theorem dJ6_numberOfTrailingZeros_0f7a4_44 : decode cJ6_numberOfTrailingZeros_0f7a4 44 = .ok (.iload_n 0, 1) := by decide +kernel
theorem dJ6_numberOfTrailingZeros_0f7a4_45 : decode cJ6_numberOfTrailingZeros_0f7a4 45 = .ok (.bipush 8, 2) := by decide +kernel
theorem dJ6_numberOfTrailingZeros_0f7a4_47 : decode cJ6_numberOfTrailingZeros_0f7a4 47 = .ok (.iushr, 1) := by decide +kernel
theorem dJ6_numberOfTrailingZeros_0f7a4_48 : decode cJ6_numberOfTrailingZeros_0f7a4 48 = .ok (.istore_n 0, 1) := by decide +kernel
theorem dJ6_numberOfTrailingZeros_0f7a4_49 : decode cJ6_numberOfTrailingZeros_0f7a4 49 = .ok (.iload_n 0, 1) := by decide +kernel
theorem dJ6_numberOfTrailingZeros_0f7a4_50 : decode cJ6_numberOfTrailingZeros_0f7a4 50 = .ok (.bipush 16, 2) := by decide +kernel
theorem dJ6_numberOfTrailingZeros_0f7a4_52 : decode cJ6_numberOfTrailingZeros_0f7a4 52 = .ok (.if_icmp .le 10, 3) := by decide +kernel
theorem dJ6_numberOfTrailingZeros_0f7a4_55 : decode cJ6_numberOfTrailingZeros_0f7a4 55 = .ok (.iinc 1 4, 3) := by decide +kernel
theorem dJ6_numberOfTrailingZeros_0f7a4_58 : decode cJ6_numberOfTrailingZeros_0f7a4 58 = .ok (.iload_n 0, 1) := by decide +kernel
theorem dJ6_numberOfTrailingZeros_0f7a4_59 : decode cJ6_numberOfTrailingZeros_0f7a4 59 = .ok (.iconst 4, 1) := by decide +kernel
theorem dJ6_numberOfTrailingZeros_0f7a4_60 : decode cJ6_numberOfTrailingZeros_0f7a4 60 = .ok (.iushr, 1) := by decide +kernel
theorem dJ6_numberOfTrailingZeros_0f7a4_61 : decode cJ6_numberOfTrailingZeros_0f7a4 61 = .ok (.istore_n 0, 1) := by decide +kernel
theorem dJ6_numberOfTrailingZeros_0f7a4_62 : decode cJ6_numberOfTrailingZeros_0f7a4 62 = .ok (.iload_n 0, 1) := by decide +kernel
theorem dJ6_numberOfTrailingZeros_0f7a4_63 : decode cJ6_numberOfTrailingZeros_0f7a4 63 = .ok (.iconst 4, 1) := by decide +kernel
theorem dJ6_numberOfTrailingZeros_0f7a4_64 : decode cJ6_numberOfTrailingZeros_0f7a4 64 = .ok (.if_icmp .le 10, 3) := by decide +kernel
theorem dJ6_numberOfTrailingZeros_0f7a4_67 : decode cJ6_numberOfTrailingZeros_0f7a4 67 = .ok (.iinc 1 2, 3) := by decide +kernel
theorem dJ6_numberOfTrailingZeros_0f7a4_70 : decode cJ6_numberOfTrailingZeros_0f7a4 70 = .ok (.iload_n 0, 1) := by decide +kernel
theorem dJ6_numberOfTrailingZeros_0f7a4_71 : decode cJ6_numberOfTrailingZeros_0f7a4 71 = .ok (.iconst 2, 1) := by decide +kernel
theorem dJ6_numberOfTrailingZeros_0f7a4_72 : decode cJ6_numberOfTrailingZeros_0f7a4 72 = .ok (.iushr, 1) := by decide +kernel
theorem dJ6_numberOfTrailingZeros_0f7a4_73 : decode cJ6_numberOfTrailingZeros_0f7a4 73 = .ok (.istore_n 0, 1) := by decide +kernel
theorem dJ6_numberOfTrailingZeros_0f7a4_74 : decode cJ6_numberOfTrailingZeros_0f7a4 74 = .ok (.iload_n 1, 1) := by decide +kernel
theorem dJ6_numberOfTrailingZeros_0f7a4_75 : decode cJ6_numberOfTrailingZeros_0f7a4 75 = .ok (.iload_n 0, 1) := by decide +kernel
theorem dJ6_numberOfTrailingZeros_0f7a4_76 : decode cJ6_numberOfTrailingZeros_0f7a4 76 = .ok (.iconst 1, 1) := by decide +kernel
theorem dJ6_numberOfTrailingZeros_0f7a4_77 : decode cJ6_numberOfTrailingZeros_0f7a4 77 = .ok (.iushr, 1) := by decide +kernel
theorem dJ6_numberOfTrailingZeros_0f7a4_78 : decode cJ6_numberOfTrailingZeros_0f7a4 78 = .ok (.iadd, 1) := by decide +kernel
theorem dJ6_numberOfTrailingZeros_0f7a4_79 : decode cJ6_numberOfTrailingZeros_0f7a4 79 = .ok (.ireturn, 1) := by decide +kernel
theorem dJ6_bitCount_0f7a4_0 : decode cJ6_bitCount_0f7a4 0 = .ok (.iload_n 0, 1) := by decide +kernel
theorem dJ6_bitCount_0f7a4_1 : decode cJ6_bitCount_0f7a4 1 = .ok (.iload_n 0, 1) := by decide +kernel
theorem dJ6_bitCount_0f7a4_2 : decode cJ6_bitCount_0f7a4 2 = .ok (.iconst 1, 1) := by decide +kernel
theorem dJ6_bitCount_0f7a4_3 : decode cJ6_bitCount_0f7a4 3 = .ok (.iushr, 1) := by decide +kernel
theorem dJ6_bitCount_0f7a4_4 : decode cJ6_bitCount_0f7a4 4 = .ok (.ldc_w 265, 3) := by decide +kernel
theorem dJ6_bitCount_0f7a4_7 : decode cJ6_bitCount_0f7a4 7 = .ok (.iand, 1) := by decide +kernel
theorem dJ6_bitCount_0f7a4_8 : decode cJ6_bitCount_0f7a4 8 = .ok (.isub, 1) := by decide +kernel
theorem dJ6_bitCount_0f7a4_9 : decode cJ6_bitCount_0f7a4 9 = .ok (.istore_n 0, 1) := by decide +kernel
theorem dJ6_bitCount_0f7a4_10 : decode cJ6_bitCount_0f7a4 10 = .ok (.iload_n 0, 1) := by decide +kernel
theorem dJ6_bitCount_0f7a4_11 : decode cJ6_bitCount_0f7a4 11 = .ok (.ldc_w 266, 3) := by decide +kernel
theorem dJ6_bitCount_0f7a4_14 : decode cJ6_bitCount_0f7a4 14 = .ok (.iand, 1) := by decide +kernel
theorem dJ6_bitCount_0f7a4_15 : decode cJ6_bitCount_0f7a4 15 = .ok (.iload_n 0, 1) := by decide +kernel
theorem dJ6_bitCount_0f7a4_16 : decode cJ6_bitCount_0f7a4 16 = .ok (.iconst 2, 1) := by decide +kernel
theorem dJ6_bitCount_0f7a4_17 : decode cJ6_bitCount_0f7a4 17 = .ok (.iushr, 1) := by decide +kernel
theorem dJ6_bitCount_0f7a4_18 : decode cJ6_bitCount_0f7a4 18 = .ok (.ldc_w 266, 3) := by decide +kernel
theorem dJ6_bitCount_0f7a4_21 : decode cJ6_bitCount_0f7a4 21 = .ok (.iand, 1) := by decide +kernel
theorem dJ6_bitCount_0f7a4_22 : decode cJ6_bitCount_0f7a4 22 = .ok (.iadd, 1) := by decide +kernel
theorem dJ6_bitCount_0f7a4_23 : decode cJ6_bitCount_0f7a4 23 = .ok (.istore_n 0, 1) := by decide +kernel
theorem dJ6_bitCount_0f7a4_24 : decode cJ6_bitCount_0f7a4 24 = .ok (.iload_n 0, 1) := by decide +kernel
theorem dJ6_bitCount_0f7a4_25 : decode cJ6_bitCount_0f7a4 25 = .ok (.iload_n 0, 1) := by decide +kernel
theorem dJ6_bitCount_0f7a4_26 : decode cJ6_bitCount_0f7a4 26 = .ok (.iconst 4, 1) := by decide +kernel
theorem dJ6_bitCount_0f7a4_27 : decode cJ6_bitCount_0f7a4 27 = .ok (.iushr, 1) := by decide +kernel
theorem dJ6_bitCount_0f7a4_28 : decode cJ6_bitCount_0f7a4 28 = .ok (.iadd, 1) := by decide +kernel
theorem dJ6_bitCount_0f7a4_29 : decode cJ6_bitCount_0f7a4 29 = .ok (.ldc_w 267, 3) := by decide +kernel
theorem dJ6_bitCount_0f7a4_32 : decode cJ6_bitCount_0f7a4 32 = .ok (.iand, 1) := by decide +kernel
theorem dJ6_bitCount_0f7a4_33 : decode cJ6_bitCount_0f7a4 33 = .ok (.istore_n 0, 1) := by decide +kernel
theorem dJ6_bitCount_0f7a4_34 : decode cJ6_bitCount_0f7a4 34 = .ok (.iload_n 0, 1) := by decide +kernel
theorem dJ6_bitCount_0f7a4_35 : decode cJ6_bitCount_0f7a4 35 = .ok (.iload_n 0, 1) := by decide +kernel
theorem dJ6_bitCount_0f7a4_36 : decode cJ6_bitCount_0f7a4 36 = .ok (.bipush 8, 2) := by decide +kernel
theorem dJ6_bitCount_0f7a4_38 : decode cJ6_bitCount_0f7a4 38 = .ok (.iushr, 1) := by decide +kernel
theorem dJ6_bitCount_0f7a4_39 : decode cJ6_bitCount_0f7a4 39 = .ok (.iadd, 1) := by decide +kernel
theorem dJ6_bitCount_0f7a4_40 : decode cJ6_bitCount_0f7a4 40 = .ok (.istore_n 0, 1) := by decide +kernel
theorem dJ6_bitCount_0f7a4_41 : decode cJ6_bitCount_0f7a4 41 = .ok (.iload_n 0, 1) := by decide +kernel
theorem dJ6_bitCount_0f7a4_42 : decode cJ6_bitCount_0f7a4 42 = .ok (.iload_n 0, 1) := by decide +kernel
theorem dJ6_bitCount_0f7a4_43 : decode cJ6_bitCount_0f7a4 43 = .ok (.bipush 16, 2) := by decide +kernel
theorem dJ6_bitCount_0f7a4_45 : decode cJ6_bitCount_0f7a4 45 = .ok (.iushr, 1) := by decide +kernel
theorem dJ6_bitCount_0f7a4_46 : decode cJ6_bitCount_0f7a4 46 = .ok (.iadd, 1) := by decide +kernel
theorem dJ6_bitCount_0f7a4_47 : decode cJ6_bitCount_0f7a4 47 = .ok (.istore_n 0, 1) := by decide +kernel
theorem dJ6_bitCount_0f7a4_48 : decode cJ6_bitCount_0f7a4 48 = .ok (.iload_n 0, 1) := by decide +kernel
theorem dJ6_bitCount_0f7a4_49 : decode cJ6_bitCount_0f7a4 49 = .ok (.bipush 63, 2) := by decide +kernel
theorem dJ6_bitCount_0f7a4_51 : decode cJ6_bitCount_0f7a4 51 = .ok (.iand, 1) := by decide +kernel
theorem dJ6_bitCount_0f7a4_52 : decode cJ6_bitCount_0f7a4 52 = .ok (.ireturn, 1) := by decide +kernel
theorem dJ9_max_7cf53_0 : decode cJ9_max_7cf53 0 = .ok (.iload_n 0, 1) := by decide +kernel
theorem dJ9_max_7cf53_1 : decode cJ9_max_7cf53 1 = .ok (.iload_n 1, 1) := by decide +kernel
theorem dJ9_max_7cf53_2 : decode cJ9_max_7cf53 2 = .ok (.if_icmp .lt 7, 3) := by decide +kernel
theorem dJ9_max_7cf53_5 : decode cJ9_max_7cf53 5 = .ok (.iload_n 0, 1) := by decide +kernel
theorem dJ9_max_7cf53_6 : decode cJ9_max_7cf53 6 = .ok (.goto 4, 3) := by decide +kernel
theorem dJ9_max_7cf53_9 : decode cJ9_max_7cf53 9 = .ok (.iload_n 1, 1) := by decide +kernel
theorem dJ9_max_7cf53_10 : decode cJ9_max_7cf53 10 = .ok (.ireturn, 1) := by decide +kernel
theorem dJ9_min_7cf53_0 : decode cJ9_min_7cf53 0 = .ok (.iload_n 0, 1) := by decide +kernel
theorem dJ9_min_7cf53_1 : decode cJ9_min_7cf53 1 = .ok (.iload_n 1, 1) := by decide +kernel
theorem dJ9_min_7cf53_2 : decode cJ9_min_7cf53 2 = .ok (.if_icmp .gt 7, 3) := by decide +kernel
theorem dJ9_min_7cf53_5 : decode cJ9_min_7cf53 5 = .ok (.iload_n 0, 1) := by decide +kernel
theorem dJ9_min_7cf53_6 : decode cJ9_min_7cf53 6 = .ok (.goto 4, 3) := by decide +kernel
theorem dJ9_min_7cf53_9 : decode cJ9_min_7cf53 9 = .ok (.iload_n 1, 1) := by decide +kernel
theorem dJ9_min_7cf53_10 : decode cJ9_min_7cf53 10 = .ok (.ireturn, 1) := by decide +kernel
end
section
theorem dL_law_0 : decode cL_law 0 = .ok (.new 7, 3) := by decide +kernel
theorem dL_law_3 : decode cL_law 3 = .ok (.dup, 1) := by decide +kernel
theorem dL_law_4 : decode cL_law 4 = .ok (.invokespecial 9, 3) := by decide +kernel
theorem dL_law_7 : decode cL_law 7 = .ok (.astore_n 1, 1) := by decide +kernel
theorem dL_law_8 : decode cL_law 8 = .ok (.new 10, 3) := by decide +kernel
theorem dL_law_11 : decode cL_law 11 = .ok (.dup, 1) := by decide +kernel
theorem dL_law_12 : decode cL_law 12 = .ok (.invokespecial 12, 3) := by decide +kernel
theorem dL_law_15 : decode cL_law 15 = .ok (.astore_n 2, 1) := by decide +kernel
theorem dL_law_16 : decode cL_law 16 = .ok (.iconst 0, 1) := by decide +kernel
theorem dL_law_17 : decode cL_law 17 = .ok (.istore_n 3, 1) := by decide +kernel
theorem dL_law_18 : decode cL_law 18 = .ok (.iload_n 3, 1) := by decide +kernel
theorem dL_law_19 : decode cL_law 19 = .ok (.aload_n 0, 1) := by decide +kernel
theorem dL_law_20 : decode cL_law 20 = .ok (.arraylength, 1) := by decide +kernel
theorem dL_law_21 : decode cL_law 21 = .ok (.bipush 6, 2) := by decide +kernel
theorem dL_law_23 : decode cL_law 23 = .ok (.isub, 1) := by decide +kernel
theorem dL_law_24 : decode cL_law 24 = .ok (.if_icmp .gt 1551, 3) := by decide +kernel
theorem dL_law_27 : decode cL_law 27 = .ok (.aload_n 0, 1) := by decide +kernel
theorem dL_law_28 : decode cL_law 28 = .ok (.iload_n 3, 1) := by decide +kernel
theorem dL_law_29 : decode cL_law 29 = .ok (.iaload, 1) := by decide +kernel
theorem dL_law_30 : decode cL_law 30 = .ok (.bipush 63, 2) := by decide +kernel
theorem dL_law_32 : decode cL_law 32 = .ok (.iand, 1) := by decide +kernel
theorem dL_law_33 : decode cL_law 33 = .ok (.tableswitch 1536 0 36 #[163, 176, 199, 262, 275, 308, 341, 374, 417, 450, 473, 516, 529, 572, 605, 638, 661, 720, 763, 816, 859, 892, 945, 998, 1041, 1084, 1117, 1170, 1213, 1246, 1279, 1358, 1381, 1414, 1457, 1480, 1513], 163) := by decide +kernel
theorem dL_law_196 : decode cL_law 196 = .ok (.aload_n 1, 1) := by decide +kernel
theorem dL_law_197 : decode cL_law 197 = .ok (.invokevirtual 13, 3) := by decide +kernel
theorem dL_law_200 : decode cL_law 200 = .ok (.aload_n 2, 1) := by decide +kernel
theorem dL_law_201 : decode cL_law 201 = .ok (.invokevirtual 17, 3) := by decide +kernel
theorem dL_law_204 : decode cL_law 204 = .ok (.if_icmp .eq 1365, 3) := by decide +kernel
theorem dL_law_207 : decode cL_law 207 = .ok (.iconst 0, 1) := by decide +kernel
theorem dL_law_208 : decode cL_law 208 = .ok (.ireturn, 1) := by decide +kernel
theorem dL_law_209 : decode cL_law 209 = .ok (.aload_n 1, 1) := by decide +kernel
theorem dL_law_210 : decode cL_law 210 = .ok (.aload_n 0, 1) := by decide +kernel
theorem dL_law_211 : decode cL_law 211 = .ok (.iload_n 3, 1) := by decide +kernel
theorem dL_law_212 : decode cL_law 212 = .ok (.iconst 1, 1) := by decide +kernel
theorem dL_law_213 : decode cL_law 213 = .ok (.iadd, 1) := by decide +kernel
theorem dL_law_214 : decode cL_law 214 = .ok (.iaload, 1) := by decide +kernel
theorem dL_law_215 : decode cL_law 215 = .ok (.invokevirtual 18, 3) := by decide +kernel
theorem dL_law_218 : decode cL_law 218 = .ok (.aload_n 2, 1) := by decide +kernel
theorem dL_law_219 : decode cL_law 219 = .ok (.aload_n 0, 1) := by decide +kernel
theorem dL_law_220 : decode cL_law 220 = .ok (.iload_n 3, 1) := by decide +kernel
theorem dL_law_221 : decode cL_law 221 = .ok (.iconst 1, 1) := by decide +kernel
theorem dL_law_222 : decode cL_law 222 = .ok (.iadd, 1) := by decide +kernel
theorem dL_law_223 : decode cL_law 223 = .ok (.iaload, 1) := by decide +kernel
theorem dL_law_224 : decode cL_law 224 = .ok (.invokevirtual 22, 3) := by decide +kernel
theorem dL_law_227 : decode cL_law 227 = .ok (.if_icmp .eq 1342, 3) := by decide +kernel
theorem dL_law_230 : decode cL_law 230 = .ok (.iconst 0, 1) := by decide +kernel
theorem dL_law_231 : decode cL_law 231 = .ok (.ireturn, 1) := by decide +kernel
theorem dL_law_232 : decode cL_law 232 = .ok (.aload_n 1, 1) := by decide +kernel
theorem dL_law_233 : decode cL_law 233 = .ok (.aload_n 0, 1) := by decide +kernel
theorem dL_law_234 : decode cL_law 234 = .ok (.iload_n 3, 1) := by decide +kernel
theorem dL_law_235 : decode cL_law 235 = .ok (.iconst 1, 1) := by decide +kernel
theorem dL_law_236 : decode cL_law 236 = .ok (.iadd, 1) := by decide +kernel
theorem dL_law_237 : decode cL_law 237 = .ok (.iaload, 1) := by decide +kernel
theorem dL_law_238 : decode cL_law 238 = .ok (.i2l, 1) := by decide +kernel
theorem dL_law_239 : decode cL_law 239 = .ok (.bipush 32, 2) := by decide +kernel
theorem dL_law_241 : decode cL_law 241 = .ok (.lshl, 1) := by decide +kernel
theorem dL_law_242 : decode cL_law 242 = .ok (.aload_n 0, 1) := by decide +kernel
theorem dL_law_243 : decode cL_law 243 = .ok (.iload_n 3, 1) := by decide +kernel
theorem dL_law_244 : decode cL_law 244 = .ok (.iconst 2, 1) := by decide +kernel
theorem dL_law_245 : decode cL_law 245 = .ok (.iadd, 1) := by decide +kernel
theorem dL_law_246 : decode cL_law 246 = .ok (.iaload, 1) := by decide +kernel
theorem dL_law_247 : decode cL_law 247 = .ok (.i2l, 1) := by decide +kernel
theorem dL_law_248 : decode cL_law 248 = .ok (.ldc2_w 23, 3) := by decide +kernel
theorem dL_law_251 : decode cL_law 251 = .ok (.land, 1) := by decide +kernel
theorem dL_law_252 : decode cL_law 252 = .ok (.lor, 1) := by decide +kernel
theorem dL_law_253 : decode cL_law 253 = .ok (.aload_n 0, 1) := by decide +kernel
theorem dL_law_254 : decode cL_law 254 = .ok (.iload_n 3, 1) := by decide +kernel
theorem dL_law_255 : decode cL_law 255 = .ok (.iconst 3, 1) := by decide +kernel
theorem dL_law_256 : decode cL_law 256 = .ok (.iadd, 1) := by decide +kernel
theorem dL_law_257 : decode cL_law 257 = .ok (.iaload, 1) := by decide +kernel
theorem dL_law_258 : decode cL_law 258 = .ok (.invokevirtual 25, 3) := by decide +kernel
theorem dL_law_261 : decode cL_law 261 = .ok (.aload_n 2, 1) := by decide +kernel
theorem dL_law_262 : decode cL_law 262 = .ok (.aload_n 0, 1) := by decide +kernel
theorem dL_law_263 : decode cL_law 263 = .ok (.iload_n 3, 1) := by decide +kernel
theorem dL_law_264 : decode cL_law 264 = .ok (.iconst 1, 1) := by decide +kernel
theorem dL_law_265 : decode cL_law 265 = .ok (.iadd, 1) := by decide +kernel
theorem dL_law_266 : decode cL_law 266 = .ok (.iaload, 1) := by decide +kernel
theorem dL_law_267 : decode cL_law 267 = .ok (.i2l, 1) := by decide +kernel
theorem dL_law_268 : decode cL_law 268 = .ok (.bipush 32, 2) := by decide +kernel
theorem dL_law_270 : decode cL_law 270 = .ok (.lshl, 1) := by decide +kernel
theorem dL_law_271 : decode cL_law 271 = .ok (.aload_n 0, 1) := by decide +kernel
theorem dL_law_272 : decode cL_law 272 = .ok (.iload_n 3, 1) := by decide +kernel
theorem dL_law_273 : decode cL_law 273 = .ok (.iconst 2, 1) := by decide +kernel
theorem dL_law_274 : decode cL_law 274 = .ok (.iadd, 1) := by decide +kernel
theorem dL_law_275 : decode cL_law 275 = .ok (.iaload, 1) := by decide +kernel
theorem dL_law_276 : decode cL_law 276 = .ok (.i2l, 1) := by decide +kernel
theorem dL_law_277 : decode cL_law 277 = .ok (.ldc2_w 23, 3) := by decide +kernel
theorem dL_law_280 : decode cL_law 280 = .ok (.land, 1) := by decide +kernel
theorem dL_law_281 : decode cL_law 281 = .ok (.lor, 1) := by decide +kernel
theorem dL_law_282 : decode cL_law 282 = .ok (.aload_n 0, 1) := by decide +kernel
theorem dL_law_283 : decode cL_law 283 = .ok (.iload_n 3, 1) := by decide +kernel
theorem dL_law_284 : decode cL_law 284 = .ok (.iconst 3, 1) := by decide +kernel
theorem dL_law_285 : decode cL_law 285 = .ok (.iadd, 1) := by decide +kernel
theorem dL_law_286 : decode cL_law 286 = .ok (.iaload, 1) := by decide +kernel
theorem dL_law_287 : decode cL_law 287 = .ok (.invokevirtual 29, 3) := by decide +kernel
theorem dL_law_290 : decode cL_law 290 = .ok (.if_icmp .eq 1279, 3) := by decide +kernel
theorem dL_law_293 : decode cL_law 293 = .ok (.iconst 0, 1) := by decide +kernel
theorem dL_law_294 : decode cL_law 294 = .ok (.ireturn, 1) := by decide +kernel
theorem dL_law_295 : decode cL_law 295 = .ok (.aload_n 1, 1) := by decide +kernel
theorem dL_law_296 : decode cL_law 296 = .ok (.invokevirtual 30, 3) := by decide +kernel
theorem dL_law_299 : decode cL_law 299 = .ok (.aload_n 2, 1) := by decide +kernel
theorem dL_law_300 : decode cL_law 300 = .ok (.invokevirtual 33, 3) := by decide +kernel
theorem dL_law_303 : decode cL_law 303 = .ok (.if_icmp .eq 1266, 3) := by decide +kernel
theorem dL_law_306 : decode cL_law 306 = .ok (.iconst 0, 1) := by decide +kernel
theorem dL_law_307 : decode cL_law 307 = .ok (.ireturn, 1) := by decide +kernel
theorem dL_law_308 : decode cL_law 308 = .ok (.aload_n 1, 1) := by decide +kernel
theorem dL_law_309 : decode cL_law 309 = .ok (.aload_n 0, 1) := by decide +kernel
theorem dL_law_310 : decode cL_law 310 = .ok (.iload_n 3, 1) := by decide +kernel
theorem dL_law_311 : decode cL_law 311 = .ok (.iconst 1, 1) := by decide +kernel
theorem dL_law_312 : decode cL_law 312 = .ok (.iadd, 1) := by decide +kernel
theorem dL_law_313 : decode cL_law 313 = .ok (.iaload, 1) := by decide +kernel
theorem dL_law_314 : decode cL_law 314 = .ok (.aload_n 0, 1) := by decide +kernel
theorem dL_law_315 : decode cL_law 315 = .ok (.iload_n 3, 1) := by decide +kernel
theorem dL_law_316 : decode cL_law 316 = .ok (.iconst 2, 1) := by decide +kernel
theorem dL_law_317 : decode cL_law 317 = .ok (.iadd, 1) := by decide +kernel
theorem dL_law_318 : decode cL_law 318 = .ok (.iaload, 1) := by decide +kernel
theorem dL_law_319 : decode cL_law 319 = .ok (.invokevirtual 34, 3) := by decide +kernel
theorem dL_law_322 : decode cL_law 322 = .ok (.aload_n 2, 1) := by decide +kernel
theorem dL_law_323 : decode cL_law 323 = .ok (.aload_n 0, 1) := by decide +kernel
theorem dL_law_324 : decode cL_law 324 = .ok (.iload_n 3, 1) := by decide +kernel
theorem dL_law_325 : decode cL_law 325 = .ok (.iconst 1, 1) := by decide +kernel
theorem dL_law_326 : decode cL_law 326 = .ok (.iadd, 1) := by decide +kernel
theorem dL_law_327 : decode cL_law 327 = .ok (.iaload, 1) := by decide +kernel
theorem dL_law_328 : decode cL_law 328 = .ok (.aload_n 0, 1) := by decide +kernel
theorem dL_law_329 : decode cL_law 329 = .ok (.iload_n 3, 1) := by decide +kernel
theorem dL_law_330 : decode cL_law 330 = .ok (.iconst 2, 1) := by decide +kernel
theorem dL_law_331 : decode cL_law 331 = .ok (.iadd, 1) := by decide +kernel
theorem dL_law_332 : decode cL_law 332 = .ok (.iaload, 1) := by decide +kernel
theorem dL_law_333 : decode cL_law 333 = .ok (.invokevirtual 38, 3) := by decide +kernel
theorem dL_law_336 : decode cL_law 336 = .ok (.if_icmp .eq 1233, 3) := by decide +kernel
theorem dL_law_339 : decode cL_law 339 = .ok (.iconst 0, 1) := by decide +kernel
theorem dL_law_340 : decode cL_law 340 = .ok (.ireturn, 1) := by decide +kernel
theorem dL_law_341 : decode cL_law 341 = .ok (.aload_n 1, 1) := by decide +kernel
theorem dL_law_342 : decode cL_law 342 = .ok (.aload_n 0, 1) := by decide +kernel
theorem dL_law_343 : decode cL_law 343 = .ok (.iload_n 3, 1) := by decide +kernel
theorem dL_law_344 : decode cL_law 344 = .ok (.iconst 1, 1) := by decide +kernel
theorem dL_law_345 : decode cL_law 345 = .ok (.iadd, 1) := by decide +kernel
theorem dL_law_346 : decode cL_law 346 = .ok (.iaload, 1) := by decide +kernel
theorem dL_law_347 : decode cL_law 347 = .ok (.aload_n 0, 1) := by decide +kernel
theorem dL_law_348 : decode cL_law 348 = .ok (.iload_n 3, 1) := by decide +kernel
theorem dL_law_349 : decode cL_law 349 = .ok (.iconst 2, 1) := by decide +kernel
theorem dL_law_350 : decode cL_law 350 = .ok (.iadd, 1) := by decide +kernel
theorem dL_law_351 : decode cL_law 351 = .ok (.iaload, 1) := by decide +kernel
theorem dL_law_352 : decode cL_law 352 = .ok (.invokevirtual 39, 3) := by decide +kernel
theorem dL_law_355 : decode cL_law 355 = .ok (.aload_n 2, 1) := by decide +kernel
theorem dL_law_356 : decode cL_law 356 = .ok (.aload_n 0, 1) := by decide +kernel
theorem dL_law_357 : decode cL_law 357 = .ok (.iload_n 3, 1) := by decide +kernel
theorem dL_law_358 : decode cL_law 358 = .ok (.iconst 1, 1) := by decide +kernel
theorem dL_law_359 : decode cL_law 359 = .ok (.iadd, 1) := by decide +kernel
theorem dL_law_360 : decode cL_law 360 = .ok (.iaload, 1) := by decide +kernel
theorem dL_law_361 : decode cL_law 361 = .ok (.aload_n 0, 1) := by decide +kernel
theorem dL_law_362 : decode cL_law 362 = .ok (.iload_n 3, 1) := by decide +kernel
theorem dL_law_363 : decode cL_law 363 = .ok (.iconst 2, 1) := by decide +kernel
theorem dL_law_364 : decode cL_law 364 = .ok (.iadd, 1) := by decide +kernel
theorem dL_law_365 : decode cL_law 365 = .ok (.iaload, 1) := by decide +kernel
theorem dL_law_366 : decode cL_law 366 = .ok (.invokevirtual 42, 3) := by decide +kernel
theorem dL_law_369 : decode cL_law 369 = .ok (.if_icmp .eq 1200, 3) := by decide +kernel
theorem dL_law_372 : decode cL_law 372 = .ok (.iconst 0, 1) := by decide +kernel
theorem dL_law_373 : decode cL_law 373 = .ok (.ireturn, 1) := by decide +kernel
theorem dL_law_374 : decode cL_law 374 = .ok (.aload_n 1, 1) := by decide +kernel
theorem dL_law_375 : decode cL_law 375 = .ok (.aload_n 0, 1) := by decide +kernel
theorem dL_law_376 : decode cL_law 376 = .ok (.iload_n 3, 1) := by decide +kernel
theorem dL_law_377 : decode cL_law 377 = .ok (.iconst 1, 1) := by decide +kernel
theorem dL_law_378 : decode cL_law 378 = .ok (.iadd, 1) := by decide +kernel
theorem dL_law_379 : decode cL_law 379 = .ok (.iaload, 1) := by decide +kernel
theorem dL_law_380 : decode cL_law 380 = .ok (.aload_n 0, 1) := by decide +kernel
theorem dL_law_381 : decode cL_law 381 = .ok (.iload_n 3, 1) := by decide +kernel
theorem dL_law_382 : decode cL_law 382 = .ok (.iconst 2, 1) := by decide +kernel
theorem dL_law_383 : decode cL_law 383 = .ok (.iadd, 1) := by decide +kernel
theorem dL_law_384 : decode cL_law 384 = .ok (.iaload, 1) := by decide +kernel
theorem dL_law_385 : decode cL_law 385 = .ok (.invokevirtual 43, 3) := by decide +kernel
theorem dL_law_388 : decode cL_law 388 = .ok (.aload_n 2, 1) := by decide +kernel
theorem dL_law_389 : decode cL_law 389 = .ok (.aload_n 0, 1) := by decide +kernel
theorem dL_law_390 : decode cL_law 390 = .ok (.iload_n 3, 1) := by decide +kernel
theorem dL_law_391 : decode cL_law 391 = .ok (.iconst 1, 1) := by decide +kernel
theorem dL_law_392 : decode cL_law 392 = .ok (.iadd, 1) := by decide +kernel
theorem dL_law_393 : decode cL_law 393 = .ok (.iaload, 1) := by decide +kernel
theorem dL_law_394 : decode cL_law 394 = .ok (.aload_n 0, 1) := by decide +kernel
theorem dL_law_395 : decode cL_law 395 = .ok (.iload_n 3, 1) := by decide +kernel
theorem dL_law_396 : decode cL_law 396 = .ok (.iconst 2, 1) := by decide +kernel
theorem dL_law_397 : decode cL_law 397 = .ok (.iadd, 1) := by decide +kernel
theorem dL_law_398 : decode cL_law 398 = .ok (.iaload, 1) := by decide +kernel
theorem dL_law_399 : decode cL_law 399 = .ok (.invokevirtual 46, 3) := by decide +kernel
theorem dL_law_402 : decode cL_law 402 = .ok (.if_icmp .eq 1167, 3) := by decide +kernel
theorem dL_law_405 : decode cL_law 405 = .ok (.iconst 0, 1) := by decide +kernel
theorem dL_law_406 : decode cL_law 406 = .ok (.ireturn, 1) := by decide +kernel
theorem dL_law_407 : decode cL_law 407 = .ok (.aload_n 1, 1) := by decide +kernel
theorem dL_law_408 : decode cL_law 408 = .ok (.aload_n 0, 1) := by decide +kernel
theorem dL_law_409 : decode cL_law 409 = .ok (.iload_n 3, 1) := by decide +kernel
theorem dL_law_410 : decode cL_law 410 = .ok (.iconst 1, 1) := by decide +kernel
theorem dL_law_411 : decode cL_law 411 = .ok (.iadd, 1) := by decide +kernel
theorem dL_law_412 : decode cL_law 412 = .ok (.iaload, 1) := by decide +kernel
theorem dL_law_413 : decode cL_law 413 = .ok (.aload_n 0, 1) := by decide +kernel
theorem dL_law_414 : decode cL_law 414 = .ok (.iload_n 3, 1) := by decide +kernel
theorem dL_law_415 : decode cL_law 415 = .ok (.iconst 2, 1) := by decide +kernel
theorem dL_law_416 : decode cL_law 416 = .ok (.iadd, 1) := by decide +kernel
theorem dL_law_417 : decode cL_law 417 = .ok (.iaload, 1) := by decide +kernel
theorem dL_law_418 : decode cL_law 418 = .ok (.aload_n 0, 1) := by decide +kernel
theorem dL_law_419 : decode cL_law 419 = .ok (.iload_n 3, 1) := by decide +kernel
theorem dL_law_420 : decode cL_law 420 = .ok (.iconst 3, 1) := by decide +kernel
theorem dL_law_421 : decode cL_law 421 = .ok (.iadd, 1) := by decide +kernel
theorem dL_law_422 : decode cL_law 422 = .ok (.iaload, 1) := by decide +kernel
theorem dL_law_423 : decode cL_law 423 = .ok (.invokevirtual 47, 3) := by decide +kernel
theorem dL_law_426 : decode cL_law 426 = .ok (.aload_n 2, 1) := by decide +kernel
theorem dL_law_427 : decode cL_law 427 = .ok (.aload_n 0, 1) := by decide +kernel
theorem dL_law_428 : decode cL_law 428 = .ok (.iload_n 3, 1) := by decide +kernel
theorem dL_law_429 : decode cL_law 429 = .ok (.iconst 1, 1) := by decide +kernel
theorem dL_law_430 : decode cL_law 430 = .ok (.iadd, 1) := by decide +kernel
theorem dL_law_431 : decode cL_law 431 = .ok (.iaload, 1) := by decide +kernel
theorem dL_law_432 : decode cL_law 432 = .ok (.aload_n 0, 1) := by decide +kernel
theorem dL_law_433 : decode cL_law 433 = .ok (.iload_n 3, 1) := by decide +kernel
theorem dL_law_434 : decode cL_law 434 = .ok (.iconst 2, 1) := by decide +kernel
theorem dL_law_435 : decode cL_law 435 = .ok (.iadd, 1) := by decide +kernel
theorem dL_law_436 : decode cL_law 436 = .ok (.iaload, 1) := by decide +kernel
theorem dL_law_437 : decode cL_law 437 = .ok (.aload_n 0, 1) := by decide +kernel
theorem dL_law_438 : decode cL_law 438 = .ok (.iload_n 3, 1) := by decide +kernel
theorem dL_law_439 : decode cL_law 439 = .ok (.iconst 3, 1) := by decide +kernel
theorem dL_law_440 : decode cL_law 440 = .ok (.iadd, 1) := by decide +kernel
theorem dL_law_441 : decode cL_law 441 = .ok (.iaload, 1) := by decide +kernel
theorem dL_law_442 : decode cL_law 442 = .ok (.invokevirtual 51, 3) := by decide +kernel
theorem dL_law_445 : decode cL_law 445 = .ok (.if_icmp .eq 1124, 3) := by decide +kernel
theorem dL_law_448 : decode cL_law 448 = .ok (.iconst 0, 1) := by decide +kernel
theorem dL_law_449 : decode cL_law 449 = .ok (.ireturn, 1) := by decide +kernel
theorem dL_law_450 : decode cL_law 450 = .ok (.aload_n 1, 1) := by decide +kernel
theorem dL_law_451 : decode cL_law 451 = .ok (.aload_n 0, 1) := by decide +kernel
theorem dL_law_452 : decode cL_law 452 = .ok (.iload_n 3, 1) := by decide +kernel
theorem dL_law_453 : decode cL_law 453 = .ok (.iconst 1, 1) := by decide +kernel
theorem dL_law_454 : decode cL_law 454 = .ok (.iadd, 1) := by decide +kernel
theorem dL_law_455 : decode cL_law 455 = .ok (.iaload, 1) := by decide +kernel
theorem dL_law_456 : decode cL_law 456 = .ok (.aload_n 0, 1) := by decide +kernel
theorem dL_law_457 : decode cL_law 457 = .ok (.iload_n 3, 1) := by decide +kernel
theorem dL_law_458 : decode cL_law 458 = .ok (.iconst 2, 1) := by decide +kernel
theorem dL_law_459 : decode cL_law 459 = .ok (.iadd, 1) := by decide +kernel
theorem dL_law_460 : decode cL_law 460 = .ok (.iaload, 1) := by decide +kernel
theorem dL_law_461 : decode cL_law 461 = .ok (.invokevirtual 52, 3) := by decide +kernel
theorem dL_law_464 : decode cL_law 464 = .ok (.aload_n 2, 1) := by decide +kernel
theorem dL_law_465 : decode cL_law 465 = .ok (.aload_n 0, 1) := by decide +kernel
theorem dL_law_466 : decode cL_law 466 = .ok (.iload_n 3, 1) := by decide +kernel
theorem dL_law_467 : decode cL_law 467 = .ok (.iconst 1, 1) := by decide +kernel
theorem dL_law_468 : decode cL_law 468 = .ok (.iadd, 1) := by decide +kernel
theorem dL_law_469 : decode cL_law 469 = .ok (.iaload, 1) := by decide +kernel
theorem dL_law_470 : decode cL_law 470 = .ok (.aload_n 0, 1) := by decide +kernel
theorem dL_law_471 : decode cL_law 471 = .ok (.iload_n 3, 1) := by decide +kernel
theorem dL_law_472 : decode cL_law 472 = .ok (.iconst 2, 1) := by decide +kernel
theorem dL_law_473 : decode cL_law 473 = .ok (.iadd, 1) := by decide +kernel
theorem dL_law_474 : decode cL_law 474 = .ok (.iaload, 1) := by decide +kernel
theorem dL_law_475 : decode cL_law 475 = .ok (.invokevirtual 55, 3) := by decide +kernel
theorem dL_law_478 : decode cL_law 478 = .ok (.if_icmp .eq 1091, 3) := by decide +kernel
theorem dL_law_481 : decode cL_law 481 = .ok (.iconst 0, 1) := by decide +kernel
theorem dL_law_482 : decode cL_law 482 = .ok (.ireturn, 1) := by decide +kernel
theorem dL_law_483 : decode cL_law 483 = .ok (.aload_n 1, 1) := by decide +kernel
theorem dL_law_484 : decode cL_law 484 = .ok (.aload_n 0, 1) := by decide +kernel
theorem dL_law_485 : decode cL_law 485 = .ok (.iload_n 3, 1) := by decide +kernel
theorem dL_law_486 : decode cL_law 486 = .ok (.iconst 1, 1) := by decide +kernel
theorem dL_law_487 : decode cL_law 487 = .ok (.iadd, 1) := by decide +kernel
theorem dL_law_488 : decode cL_law 488 = .ok (.iaload, 1) := by decide +kernel
theorem dL_law_489 : decode cL_law 489 = .ok (.invokevirtual 56, 3) := by decide +kernel
theorem dL_law_492 : decode cL_law 492 = .ok (.aload_n 2, 1) := by decide +kernel
theorem dL_law_493 : decode cL_law 493 = .ok (.aload_n 0, 1) := by decide +kernel
theorem dL_law_494 : decode cL_law 494 = .ok (.iload_n 3, 1) := by decide +kernel
theorem dL_law_495 : decode cL_law 495 = .ok (.iconst 1, 1) := by decide +kernel
theorem dL_law_496 : decode cL_law 496 = .ok (.iadd, 1) := by decide +kernel
theorem dL_law_497 : decode cL_law 497 = .ok (.iaload, 1) := by decide +kernel
theorem dL_law_498 : decode cL_law 498 = .ok (.invokevirtual 59, 3) := by decide +kernel
theorem dL_law_501 : decode cL_law 501 = .ok (.if_icmp .eq 1068, 3) := by decide +kernel
theorem dL_law_504 : decode cL_law 504 = .ok (.iconst 0, 1) := by decide +kernel
theorem dL_law_505 : decode cL_law 505 = .ok (.ireturn, 1) := by decide +kernel
theorem dL_law_506 : decode cL_law 506 = .ok (.aload_n 1, 1) := by decide +kernel
theorem dL_law_507 : decode cL_law 507 = .ok (.aload_n 0, 1) := by decide +kernel
theorem dL_law_508 : decode cL_law 508 = .ok (.iload_n 3, 1) := by decide +kernel
theorem dL_law_509 : decode cL_law 509 = .ok (.iconst 1, 1) := by decide +kernel
theorem dL_law_510 : decode cL_law 510 = .ok (.iadd, 1) := by decide +kernel
theorem dL_law_511 : decode cL_law 511 = .ok (.iaload, 1) := by decide +kernel
theorem dL_law_512 : decode cL_law 512 = .ok (.aload_n 0, 1) := by decide +kernel
theorem dL_law_513 : decode cL_law 513 = .ok (.iload_n 3, 1) := by decide +kernel
theorem dL_law_514 : decode cL_law 514 = .ok (.iconst 2, 1) := by decide +kernel
theorem dL_law_515 : decode cL_law 515 = .ok (.iadd, 1) := by decide +kernel
theorem dL_law_516 : decode cL_law 516 = .ok (.iaload, 1) := by decide +kernel
theorem dL_law_517 : decode cL_law 517 = .ok (.aload_n 0, 1) := by decide +kernel
theorem dL_law_518 : decode cL_law 518 = .ok (.iload_n 3, 1) := by decide +kernel
theorem dL_law_519 : decode cL_law 519 = .ok (.iconst 3, 1) := by decide +kernel
theorem dL_law_520 : decode cL_law 520 = .ok (.iadd, 1) := by decide +kernel
theorem dL_law_521 : decode cL_law 521 = .ok (.iaload, 1) := by decide +kernel
theorem dL_law_522 : decode cL_law 522 = .ok (.invokevirtual 60, 3) := by decide +kernel
theorem dL_law_525 : decode cL_law 525 = .ok (.aload_n 2, 1) := by decide +kernel
theorem dL_law_526 : decode cL_law 526 = .ok (.aload_n 0, 1) := by decide +kernel
theorem dL_law_527 : decode cL_law 527 = .ok (.iload_n 3, 1) := by decide +kernel
theorem dL_law_528 : decode cL_law 528 = .ok (.iconst 1, 1) := by decide +kernel
theorem dL_law_529 : decode cL_law 529 = .ok (.iadd, 1) := by decide +kernel
theorem dL_law_530 : decode cL_law 530 = .ok (.iaload, 1) := by decide +kernel
theorem dL_law_531 : decode cL_law 531 = .ok (.aload_n 0, 1) := by decide +kernel
theorem dL_law_532 : decode cL_law 532 = .ok (.iload_n 3, 1) := by decide +kernel
theorem dL_law_533 : decode cL_law 533 = .ok (.iconst 2, 1) := by decide +kernel
theorem dL_law_534 : decode cL_law 534 = .ok (.iadd, 1) := by decide +kernel
theorem dL_law_535 : decode cL_law 535 = .ok (.iaload, 1) := by decide +kernel
theorem dL_law_536 : decode cL_law 536 = .ok (.aload_n 0, 1) := by decide +kernel
theorem dL_law_537 : decode cL_law 537 = .ok (.iload_n 3, 1) := by decide +kernel
theorem dL_law_538 : decode cL_law 538 = .ok (.iconst 3, 1) := by decide +kernel
theorem dL_law_539 : decode cL_law 539 = .ok (.iadd, 1) := by decide +kernel
theorem dL_law_540 : decode cL_law 540 = .ok (.iaload, 1) := by decide +kernel
theorem dL_law_541 : decode cL_law 541 = .ok (.invokevirtual 63, 3) := by decide +kernel
theorem dL_law_544 : decode cL_law 544 = .ok (.if_icmp .eq 1025, 3) := by decide +kernel
theorem dL_law_547 : decode cL_law 547 = .ok (.iconst 0, 1) := by decide +kernel
theorem dL_law_548 : decode cL_law 548 = .ok (.ireturn, 1) := by decide +kernel
theorem dL_law_549 : decode cL_law 549 = .ok (.aload_n 1, 1) := by decide +kernel
theorem dL_law_550 : decode cL_law 550 = .ok (.invokevirtual 64, 3) := by decide +kernel
theorem dL_law_553 : decode cL_law 553 = .ok (.aload_n 2, 1) := by decide +kernel
theorem dL_law_554 : decode cL_law 554 = .ok (.invokevirtual 67, 3) := by decide +kernel
theorem dL_law_557 : decode cL_law 557 = .ok (.if_icmp .eq 1012, 3) := by decide +kernel
theorem dL_law_560 : decode cL_law 560 = .ok (.iconst 0, 1) := by decide +kernel
theorem dL_law_561 : decode cL_law 561 = .ok (.ireturn, 1) := by decide +kernel
theorem dL_law_562 : decode cL_law 562 = .ok (.aload_n 1, 1) := by decide +kernel
theorem dL_law_563 : decode cL_law 563 = .ok (.aload_n 0, 1) := by decide +kernel
theorem dL_law_564 : decode cL_law 564 = .ok (.iload_n 3, 1) := by decide +kernel
theorem dL_law_565 : decode cL_law 565 = .ok (.iconst 1, 1) := by decide +kernel
theorem dL_law_566 : decode cL_law 566 = .ok (.iadd, 1) := by decide +kernel
theorem dL_law_567 : decode cL_law 567 = .ok (.iaload, 1) := by decide +kernel
theorem dL_law_568 : decode cL_law 568 = .ok (.aload_n 0, 1) := by decide +kernel
theorem dL_law_569 : decode cL_law 569 = .ok (.iload_n 3, 1) := by decide +kernel
theorem dL_law_570 : decode cL_law 570 = .ok (.iconst 2, 1) := by decide +kernel
theorem dL_law_571 : decode cL_law 571 = .ok (.iadd, 1) := by decide +kernel
theorem dL_law_572 : decode cL_law 572 = .ok (.iaload, 1) := by decide +kernel
theorem dL_law_573 : decode cL_law 573 = .ok (.aload_n 0, 1) := by decide +kernel
theorem dL_law_574 : decode cL_law 574 = .ok (.iload_n 3, 1) := by decide +kernel
theorem dL_law_575 : decode cL_law 575 = .ok (.iconst 3, 1) := by decide +kernel
theorem dL_law_576 : decode cL_law 576 = .ok (.iadd, 1) := by decide +kernel
theorem dL_law_577 : decode cL_law 577 = .ok (.iaload, 1) := by decide +kernel
theorem dL_law_578 : decode cL_law 578 = .ok (.invokevirtual 68, 3) := by decide +kernel
theorem dL_law_581 : decode cL_law 581 = .ok (.aload_n 2, 1) := by decide +kernel
theorem dL_law_582 : decode cL_law 582 = .ok (.aload_n 0, 1) := by decide +kernel
theorem dL_law_583 : decode cL_law 583 = .ok (.iload_n 3, 1) := by decide +kernel
theorem dL_law_584 : decode cL_law 584 = .ok (.iconst 1, 1) := by decide +kernel
theorem dL_law_585 : decode cL_law 585 = .ok (.iadd, 1) := by decide +kernel
theorem dL_law_586 : decode cL_law 586 = .ok (.iaload, 1) := by decide +kernel
theorem dL_law_587 : decode cL_law 587 = .ok (.aload_n 0, 1) := by decide +kernel
theorem dL_law_588 : decode cL_law 588 = .ok (.iload_n 3, 1) := by decide +kernel
theorem dL_law_589 : decode cL_law 589 = .ok (.iconst 2, 1) := by decide +kernel
theorem dL_law_590 : decode cL_law 590 = .ok (.iadd, 1) := by decide +kernel
theorem dL_law_591 : decode cL_law 591 = .ok (.iaload, 1) := by decide +kernel
theorem dL_law_592 : decode cL_law 592 = .ok (.aload_n 0, 1) := by decide +kernel
theorem dL_law_593 : decode cL_law 593 = .ok (.iload_n 3, 1) := by decide +kernel
theorem dL_law_594 : decode cL_law 594 = .ok (.iconst 3, 1) := by decide +kernel
theorem dL_law_595 : decode cL_law 595 = .ok (.iadd, 1) := by decide +kernel
theorem dL_law_596 : decode cL_law 596 = .ok (.iaload, 1) := by decide +kernel
theorem dL_law_597 : decode cL_law 597 = .ok (.invokevirtual 71, 3) := by decide +kernel
theorem dL_law_600 : decode cL_law 600 = .ok (.if_icmp .eq 969, 3) := by decide +kernel
theorem dL_law_603 : decode cL_law 603 = .ok (.iconst 0, 1) := by decide +kernel
theorem dL_law_604 : decode cL_law 604 = .ok (.ireturn, 1) := by decide +kernel
theorem dL_law_605 : decode cL_law 605 = .ok (.aload_n 1, 1) := by decide +kernel
theorem dL_law_606 : decode cL_law 606 = .ok (.aload_n 0, 1) := by decide +kernel
theorem dL_law_607 : decode cL_law 607 = .ok (.iload_n 3, 1) := by decide +kernel
theorem dL_law_608 : decode cL_law 608 = .ok (.iconst 1, 1) := by decide +kernel
theorem dL_law_609 : decode cL_law 609 = .ok (.iadd, 1) := by decide +kernel
theorem dL_law_610 : decode cL_law 610 = .ok (.iaload, 1) := by decide +kernel
theorem dL_law_611 : decode cL_law 611 = .ok (.aload_n 0, 1) := by decide +kernel
theorem dL_law_612 : decode cL_law 612 = .ok (.iload_n 3, 1) := by decide +kernel
theorem dL_law_613 : decode cL_law 613 = .ok (.iconst 2, 1) := by decide +kernel
theorem dL_law_614 : decode cL_law 614 = .ok (.iadd, 1) := by decide +kernel
theorem dL_law_615 : decode cL_law 615 = .ok (.iaload, 1) := by decide +kernel
theorem dL_law_616 : decode cL_law 616 = .ok (.invokevirtual 72, 3) := by decide +kernel
theorem dL_law_619 : decode cL_law 619 = .ok (.aload_n 2, 1) := by decide +kernel
theorem dL_law_620 : decode cL_law 620 = .ok (.aload_n 0, 1) := by decide +kernel
theorem dL_law_621 : decode cL_law 621 = .ok (.iload_n 3, 1) := by decide +kernel
theorem dL_law_622 : decode cL_law 622 = .ok (.iconst 1, 1) := by decide +kernel
theorem dL_law_623 : decode cL_law 623 = .ok (.iadd, 1) := by decide +kernel
theorem dL_law_624 : decode cL_law 624 = .ok (.iaload, 1) := by decide +kernel
theorem dL_law_625 : decode cL_law 625 = .ok (.aload_n 0, 1) := by decide +kernel
theorem dL_law_626 : decode cL_law 626 = .ok (.iload_n 3, 1) := by decide +kernel
theorem dL_law_627 : decode cL_law 627 = .ok (.iconst 2, 1) := by decide +kernel
theorem dL_law_628 : decode cL_law 628 = .ok (.iadd, 1) := by decide +kernel
theorem dL_law_629 : decode cL_law 629 = .ok (.iaload, 1) := by decide +kernel
theorem dL_law_630 : decode cL_law 630 = .ok (.invokevirtual 75, 3) := by decide +kernel
theorem dL_law_633 : decode cL_law 633 = .ok (.if_icmp .eq 936, 3) := by decide +kernel
theorem dL_law_636 : decode cL_law 636 = .ok (.iconst 0, 1) := by decide +kernel
theorem dL_law_637 : decode cL_law 637 = .ok (.ireturn, 1) := by decide +kernel
theorem dL_law_638 : decode cL_law 638 = .ok (.aload_n 1, 1) := by decide +kernel
theorem dL_law_639 : decode cL_law 639 = .ok (.aload_n 0, 1) := by decide +kernel
theorem dL_law_640 : decode cL_law 640 = .ok (.iload_n 3, 1) := by decide +kernel
theorem dL_law_641 : decode cL_law 641 = .ok (.iconst 1, 1) := by decide +kernel
theorem dL_law_642 : decode cL_law 642 = .ok (.iadd, 1) := by decide +kernel
theorem dL_law_643 : decode cL_law 643 = .ok (.iaload, 1) := by decide +kernel
theorem dL_law_644 : decode cL_law 644 = .ok (.aload_n 0, 1) := by decide +kernel
theorem dL_law_645 : decode cL_law 645 = .ok (.iload_n 3, 1) := by decide +kernel
theorem dL_law_646 : decode cL_law 646 = .ok (.iconst 2, 1) := by decide +kernel
theorem dL_law_647 : decode cL_law 647 = .ok (.iadd, 1) := by decide +kernel
theorem dL_law_648 : decode cL_law 648 = .ok (.iaload, 1) := by decide +kernel
theorem dL_law_649 : decode cL_law 649 = .ok (.invokevirtual 76, 3) := by decide +kernel
theorem dL_law_652 : decode cL_law 652 = .ok (.aload_n 2, 1) := by decide +kernel
theorem dL_law_653 : decode cL_law 653 = .ok (.aload_n 0, 1) := by decide +kernel
theorem dL_law_654 : decode cL_law 654 = .ok (.iload_n 3, 1) := by decide +kernel
theorem dL_law_655 : decode cL_law 655 = .ok (.iconst 1, 1) := by decide +kernel
theorem dL_law_656 : decode cL_law 656 = .ok (.iadd, 1) := by decide +kernel
theorem dL_law_657 : decode cL_law 657 = .ok (.iaload, 1) := by decide +kernel
theorem dL_law_658 : decode cL_law 658 = .ok (.aload_n 0, 1) := by decide +kernel
theorem dL_law_659 : decode cL_law 659 = .ok (.iload_n 3, 1) := by decide +kernel
theorem dL_law_660 : decode cL_law 660 = .ok (.iconst 2, 1) := by decide +kernel
theorem dL_law_661 : decode cL_law 661 = .ok (.iadd, 1) := by decide +kernel
theorem dL_law_662 : decode cL_law 662 = .ok (.iaload, 1) := by decide +kernel
theorem dL_law_663 : decode cL_law 663 = .ok (.invokevirtual 79, 3) := by decide +kernel
theorem dL_law_666 : decode cL_law 666 = .ok (.if_icmp .eq 903, 3) := by decide +kernel
theorem dL_law_669 : decode cL_law 669 = .ok (.iconst 0, 1) := by decide +kernel
theorem dL_law_670 : decode cL_law 670 = .ok (.ireturn, 1) := by decide +kernel
theorem dL_law_671 : decode cL_law 671 = .ok (.aload_n 1, 1) := by decide +kernel
theorem dL_law_672 : decode cL_law 672 = .ok (.aload_n 0, 1) := by decide +kernel
theorem dL_law_673 : decode cL_law 673 = .ok (.iload_n 3, 1) := by decide +kernel
theorem dL_law_674 : decode cL_law 674 = .ok (.iconst 1, 1) := by decide +kernel
theorem dL_law_675 : decode cL_law 675 = .ok (.iadd, 1) := by decide +kernel
theorem dL_law_676 : decode cL_law 676 = .ok (.iaload, 1) := by decide +kernel
theorem dL_law_677 : decode cL_law 677 = .ok (.invokevirtual 80, 3) := by decide +kernel
theorem dL_law_680 : decode cL_law 680 = .ok (.aload_n 2, 1) := by decide +kernel
theorem dL_law_681 : decode cL_law 681 = .ok (.aload_n 0, 1) := by decide +kernel
theorem dL_law_682 : decode cL_law 682 = .ok (.iload_n 3, 1) := by decide +kernel
theorem dL_law_683 : decode cL_law 683 = .ok (.iconst 1, 1) := by decide +kernel
theorem dL_law_684 : decode cL_law 684 = .ok (.iadd, 1) := by decide +kernel
theorem dL_law_685 : decode cL_law 685 = .ok (.iaload, 1) := by decide +kernel
theorem dL_law_686 : decode cL_law 686 = .ok (.invokevirtual 83, 3) := by decide +kernel
theorem dL_law_689 : decode cL_law 689 = .ok (.if_icmp .eq 880, 3) := by decide +kernel
theorem dL_law_692 : decode cL_law 692 = .ok (.iconst 0, 1) := by decide +kernel
theorem dL_law_693 : decode cL_law 693 = .ok (.ireturn, 1) := by decide +kernel
theorem dL_law_694 : decode cL_law 694 = .ok (.aload_n 1, 1) := by decide +kernel
theorem dL_law_695 : decode cL_law 695 = .ok (.aload_n 0, 1) := by decide +kernel
theorem dL_law_696 : decode cL_law 696 = .ok (.iload_n 3, 1) := by decide +kernel
theorem dL_law_697 : decode cL_law 697 = .ok (.iconst 1, 1) := by decide +kernel
theorem dL_law_698 : decode cL_law 698 = .ok (.iadd, 1) := by decide +kernel
theorem dL_law_699 : decode cL_law 699 = .ok (.iaload, 1) := by decide +kernel
theorem dL_law_700 : decode cL_law 700 = .ok (.aload_n 0, 1) := by decide +kernel
theorem dL_law_701 : decode cL_law 701 = .ok (.iload_n 3, 1) := by decide +kernel
theorem dL_law_702 : decode cL_law 702 = .ok (.iconst 2, 1) := by decide +kernel
theorem dL_law_703 : decode cL_law 703 = .ok (.iadd, 1) := by decide +kernel
theorem dL_law_704 : decode cL_law 704 = .ok (.iaload, 1) := by decide +kernel
theorem dL_law_705 : decode cL_law 705 = .ok (.aload_n 0, 1) := by decide +kernel
theorem dL_law_706 : decode cL_law 706 = .ok (.iload_n 3, 1) := by decide +kernel
theorem dL_law_707 : decode cL_law 707 = .ok (.iconst 3, 1) := by decide +kernel
theorem dL_law_708 : decode cL_law 708 = .ok (.iadd, 1) := by decide +kernel
theorem dL_law_709 : decode cL_law 709 = .ok (.iaload, 1) := by decide +kernel
theorem dL_law_710 : decode cL_law 710 = .ok (.ifCond .eq 7, 3) := by decide +kernel
theorem dL_law_713 : decode cL_law 713 = .ok (.iconst 1, 1) := by decide +kernel
theorem dL_law_714 : decode cL_law 714 = .ok (.goto 4, 3) := by decide +kernel
theorem dL_law_717 : decode cL_law 717 = .ok (.iconst 0, 1) := by decide +kernel
theorem dL_law_718 : decode cL_law 718 = .ok (.invokevirtual 84, 3) := by decide +kernel
theorem dL_law_721 : decode cL_law 721 = .ok (.aload_n 2, 1) := by decide +kernel
theorem dL_law_722 : decode cL_law 722 = .ok (.aload_n 0, 1) := by decide +kernel
theorem dL_law_723 : decode cL_law 723 = .ok (.iload_n 3, 1) := by decide +kernel
theorem dL_law_724 : decode cL_law 724 = .ok (.iconst 1, 1) := by decide +kernel
theorem dL_law_725 : decode cL_law 725 = .ok (.iadd, 1) := by decide +kernel
theorem dL_law_726 : decode cL_law 726 = .ok (.iaload, 1) := by decide +kernel
theorem dL_law_727 : decode cL_law 727 = .ok (.aload_n 0, 1) := by decide +kernel
theorem dL_law_728 : decode cL_law 728 = .ok (.iload_n 3, 1) := by decide +kernel
theorem dL_law_729 : decode cL_law 729 = .ok (.iconst 2, 1) := by decide +kernel
theorem dL_law_730 : decode cL_law 730 = .ok (.iadd, 1) := by decide +kernel
theorem dL_law_731 : decode cL_law 731 = .ok (.iaload, 1) := by decide +kernel
theorem dL_law_732 : decode cL_law 732 = .ok (.aload_n 0, 1) := by decide +kernel
theorem dL_law_733 : decode cL_law 733 = .ok (.iload_n 3, 1) := by decide +kernel
theorem dL_law_734 : decode cL_law 734 = .ok (.iconst 3, 1) := by decide +kernel
theorem dL_law_735 : decode cL_law 735 = .ok (.iadd, 1) := by decide +kernel
theorem dL_law_736 : decode cL_law 736 = .ok (.iaload, 1) := by decide +kernel
theorem dL_law_737 : decode cL_law 737 = .ok (.ifCond .eq 7, 3) := by decide +kernel
theorem dL_law_740 : decode cL_law 740 = .ok (.iconst 1, 1) := by decide +kernel
theorem dL_law_741 : decode cL_law 741 = .ok (.goto 4, 3) := by decide +kernel
theorem dL_law_744 : decode cL_law 744 = .ok (.iconst 0, 1) := by decide +kernel
theorem dL_law_745 : decode cL_law 745 = .ok (.invokevirtual 88, 3) := by decide +kernel
theorem dL_law_748 : decode cL_law 748 = .ok (.if_icmp .eq 821, 3) := by decide +kernel
theorem dL_law_751 : decode cL_law 751 = .ok (.iconst 0, 1) := by decide +kernel
theorem dL_law_752 : decode cL_law 752 = .ok (.ireturn, 1) := by decide +kernel
theorem dL_law_753 : decode cL_law 753 = .ok (.aload_n 1, 1) := by decide +kernel
theorem dL_law_754 : decode cL_law 754 = .ok (.aload_n 0, 1) := by decide +kernel
theorem dL_law_755 : decode cL_law 755 = .ok (.iload_n 3, 1) := by decide +kernel
theorem dL_law_756 : decode cL_law 756 = .ok (.iconst 1, 1) := by decide +kernel
theorem dL_law_757 : decode cL_law 757 = .ok (.iadd, 1) := by decide +kernel
theorem dL_law_758 : decode cL_law 758 = .ok (.iaload, 1) := by decide +kernel
theorem dL_law_759 : decode cL_law 759 = .ok (.aload_n 0, 1) := by decide +kernel
theorem dL_law_760 : decode cL_law 760 = .ok (.iload_n 3, 1) := by decide +kernel
theorem dL_law_761 : decode cL_law 761 = .ok (.iconst 2, 1) := by decide +kernel
theorem dL_law_762 : decode cL_law 762 = .ok (.iadd, 1) := by decide +kernel
theorem dL_law_763 : decode cL_law 763 = .ok (.iaload, 1) := by decide +kernel
theorem dL_law_764 : decode cL_law 764 = .ok (.aload_n 0, 1) := by decide +kernel
theorem dL_law_765 : decode cL_law 765 = .ok (.iload_n 3, 1) := by decide +kernel
theorem dL_law_766 : decode cL_law 766 = .ok (.iconst 3, 1) := by decide +kernel
theorem dL_law_767 : decode cL_law 767 = .ok (.iadd, 1) := by decide +kernel
theorem dL_law_768 : decode cL_law 768 = .ok (.iaload, 1) := by decide +kernel
theorem dL_law_769 : decode cL_law 769 = .ok (.invokevirtual 89, 3) := by decide +kernel
theorem dL_law_772 : decode cL_law 772 = .ok (.aload_n 2, 1) := by decide +kernel
theorem dL_law_773 : decode cL_law 773 = .ok (.aload_n 0, 1) := by decide +kernel
theorem dL_law_774 : decode cL_law 774 = .ok (.iload_n 3, 1) := by decide +kernel
theorem dL_law_775 : decode cL_law 775 = .ok (.iconst 1, 1) := by decide +kernel
theorem dL_law_776 : decode cL_law 776 = .ok (.iadd, 1) := by decide +kernel
theorem dL_law_777 : decode cL_law 777 = .ok (.iaload, 1) := by decide +kernel
theorem dL_law_778 : decode cL_law 778 = .ok (.aload_n 0, 1) := by decide +kernel
theorem dL_law_779 : decode cL_law 779 = .ok (.iload_n 3, 1) := by decide +kernel
theorem dL_law_780 : decode cL_law 780 = .ok (.iconst 2, 1) := by decide +kernel
theorem dL_law_781 : decode cL_law 781 = .ok (.iadd, 1) := by decide +kernel
theorem dL_law_782 : decode cL_law 782 = .ok (.iaload, 1) := by decide +kernel
theorem dL_law_783 : decode cL_law 783 = .ok (.aload_n 0, 1) := by decide +kernel
theorem dL_law_784 : decode cL_law 784 = .ok (.iload_n 3, 1) := by decide +kernel
theorem dL_law_785 : decode cL_law 785 = .ok (.iconst 3, 1) := by decide +kernel
theorem dL_law_786 : decode cL_law 786 = .ok (.iadd, 1) := by decide +kernel
theorem dL_law_787 : decode cL_law 787 = .ok (.iaload, 1) := by decide +kernel
theorem dL_law_788 : decode cL_law 788 = .ok (.invokevirtual 92, 3) := by decide +kernel
theorem dL_law_791 : decode cL_law 791 = .ok (.if_icmp .eq 778, 3) := by decide +kernel
theorem dL_law_794 : decode cL_law 794 = .ok (.iconst 0, 1) := by decide +kernel
theorem dL_law_795 : decode cL_law 795 = .ok (.ireturn, 1) := by decide +kernel
theorem dL_law_796 : decode cL_law 796 = .ok (.aload_n 1, 1) := by decide +kernel
theorem dL_law_797 : decode cL_law 797 = .ok (.aload_n 0, 1) := by decide +kernel
theorem dL_law_798 : decode cL_law 798 = .ok (.iload_n 3, 1) := by decide +kernel
theorem dL_law_799 : decode cL_law 799 = .ok (.iconst 1, 1) := by decide +kernel
theorem dL_law_800 : decode cL_law 800 = .ok (.iadd, 1) := by decide +kernel
theorem dL_law_801 : decode cL_law 801 = .ok (.iaload, 1) := by decide +kernel
theorem dL_law_802 : decode cL_law 802 = .ok (.aload_n 0, 1) := by decide +kernel
theorem dL_law_803 : decode cL_law 803 = .ok (.iload_n 3, 1) := by decide +kernel
theorem dL_law_804 : decode cL_law 804 = .ok (.iconst 2, 1) := by decide +kernel
theorem dL_law_805 : decode cL_law 805 = .ok (.iadd, 1) := by decide +kernel
theorem dL_law_806 : decode cL_law 806 = .ok (.iaload, 1) := by decide +kernel
theorem dL_law_807 : decode cL_law 807 = .ok (.aload_n 0, 1) := by decide +kernel
theorem dL_law_808 : decode cL_law 808 = .ok (.iload_n 3, 1) := by decide +kernel
theorem dL_law_809 : decode cL_law 809 = .ok (.iconst 3, 1) := by decide +kernel
theorem dL_law_810 : decode cL_law 810 = .ok (.iadd, 1) := by decide +kernel
theorem dL_law_811 : decode cL_law 811 = .ok (.iaload, 1) := by decide +kernel
theorem dL_law_812 : decode cL_law 812 = .ok (.aload_n 0, 1) := by decide +kernel
theorem dL_law_813 : decode cL_law 813 = .ok (.iload_n 3, 1) := by decide +kernel
theorem dL_law_814 : decode cL_law 814 = .ok (.iconst 4, 1) := by decide +kernel
theorem dL_law_815 : decode cL_law 815 = .ok (.iadd, 1) := by decide +kernel
theorem dL_law_816 : decode cL_law 816 = .ok (.iaload, 1) := by decide +kernel
theorem dL_law_817 : decode cL_law 817 = .ok (.invokevirtual 93, 3) := by decide +kernel
theorem dL_law_820 : decode cL_law 820 = .ok (.aload_n 2, 1) := by decide +kernel
theorem dL_law_821 : decode cL_law 821 = .ok (.aload_n 0, 1) := by decide +kernel
theorem dL_law_822 : decode cL_law 822 = .ok (.iload_n 3, 1) := by decide +kernel
theorem dL_law_823 : decode cL_law 823 = .ok (.iconst 1, 1) := by decide +kernel
theorem dL_law_824 : decode cL_law 824 = .ok (.iadd, 1) := by decide +kernel
theorem dL_law_825 : decode cL_law 825 = .ok (.iaload, 1) := by decide +kernel
theorem dL_law_826 : decode cL_law 826 = .ok (.aload_n 0, 1) := by decide +kernel
theorem dL_law_827 : decode cL_law 827 = .ok (.iload_n 3, 1) := by decide +kernel
theorem dL_law_828 : decode cL_law 828 = .ok (.iconst 2, 1) := by decide +kernel
theorem dL_law_829 : decode cL_law 829 = .ok (.iadd, 1) := by decide +kernel
theorem dL_law_830 : decode cL_law 830 = .ok (.iaload, 1) := by decide +kernel
theorem dL_law_831 : decode cL_law 831 = .ok (.aload_n 0, 1) := by decide +kernel
theorem dL_law_832 : decode cL_law 832 = .ok (.iload_n 3, 1) := by decide +kernel
theorem dL_law_833 : decode cL_law 833 = .ok (.iconst 3, 1) := by decide +kernel
theorem dL_law_834 : decode cL_law 834 = .ok (.iadd, 1) := by decide +kernel
theorem dL_law_835 : decode cL_law 835 = .ok (.iaload, 1) := by decide +kernel
theorem dL_law_836 : decode cL_law 836 = .ok (.aload_n 0, 1) := by decide +kernel
theorem dL_law_837 : decode cL_law 837 = .ok (.iload_n 3, 1) := by decide +kernel
theorem dL_law_838 : decode cL_law 838 = .ok (.iconst 4, 1) := by decide +kernel
theorem dL_law_839 : decode cL_law 839 = .ok (.iadd, 1) := by decide +kernel
theorem dL_law_840 : decode cL_law 840 = .ok (.iaload, 1) := by decide +kernel
theorem dL_law_841 : decode cL_law 841 = .ok (.invokevirtual 97, 3) := by decide +kernel
theorem dL_law_844 : decode cL_law 844 = .ok (.if_icmp .eq 725, 3) := by decide +kernel
theorem dL_law_847 : decode cL_law 847 = .ok (.iconst 0, 1) := by decide +kernel
theorem dL_law_848 : decode cL_law 848 = .ok (.ireturn, 1) := by decide +kernel
theorem dL_law_849 : decode cL_law 849 = .ok (.aload_n 1, 1) := by decide +kernel
theorem dL_law_850 : decode cL_law 850 = .ok (.aload_n 0, 1) := by decide +kernel
theorem dL_law_851 : decode cL_law 851 = .ok (.iload_n 3, 1) := by decide +kernel
theorem dL_law_852 : decode cL_law 852 = .ok (.iconst 1, 1) := by decide +kernel
theorem dL_law_853 : decode cL_law 853 = .ok (.iadd, 1) := by decide +kernel
theorem dL_law_854 : decode cL_law 854 = .ok (.iaload, 1) := by decide +kernel
theorem dL_law_855 : decode cL_law 855 = .ok (.aload_n 0, 1) := by decide +kernel
theorem dL_law_856 : decode cL_law 856 = .ok (.iload_n 3, 1) := by decide +kernel
theorem dL_law_857 : decode cL_law 857 = .ok (.iconst 2, 1) := by decide +kernel
theorem dL_law_858 : decode cL_law 858 = .ok (.iadd, 1) := by decide +kernel
theorem dL_law_859 : decode cL_law 859 = .ok (.iaload, 1) := by decide +kernel
theorem dL_law_860 : decode cL_law 860 = .ok (.aload_n 0, 1) := by decide +kernel
theorem dL_law_861 : decode cL_law 861 = .ok (.iload_n 3, 1) := by decide +kernel
theorem dL_law_862 : decode cL_law 862 = .ok (.iconst 3, 1) := by decide +kernel
theorem dL_law_863 : decode cL_law 863 = .ok (.iadd, 1) := by decide +kernel
theorem dL_law_864 : decode cL_law 864 = .ok (.iaload, 1) := by decide +kernel
theorem dL_law_865 : decode cL_law 865 = .ok (.invokevirtual 98, 3) := by decide +kernel
theorem dL_law_868 : decode cL_law 868 = .ok (.aload_n 2, 1) := by decide +kernel
theorem dL_law_869 : decode cL_law 869 = .ok (.aload_n 0, 1) := by decide +kernel
theorem dL_law_870 : decode cL_law 870 = .ok (.iload_n 3, 1) := by decide +kernel
theorem dL_law_871 : decode cL_law 871 = .ok (.iconst 1, 1) := by decide +kernel
theorem dL_law_872 : decode cL_law 872 = .ok (.iadd, 1) := by decide +kernel
theorem dL_law_873 : decode cL_law 873 = .ok (.iaload, 1) := by decide +kernel
theorem dL_law_874 : decode cL_law 874 = .ok (.aload_n 0, 1) := by decide +kernel
theorem dL_law_875 : decode cL_law 875 = .ok (.iload_n 3, 1) := by decide +kernel
theorem dL_law_876 : decode cL_law 876 = .ok (.iconst 2, 1) := by decide +kernel
theorem dL_law_877 : decode cL_law 877 = .ok (.iadd, 1) := by decide +kernel
theorem dL_law_878 : decode cL_law 878 = .ok (.iaload, 1) := by decide +kernel
theorem dL_law_879 : decode cL_law 879 = .ok (.aload_n 0, 1) := by decide +kernel
theorem dL_law_880 : decode cL_law 880 = .ok (.iload_n 3, 1) := by decide +kernel
theorem dL_law_881 : decode cL_law 881 = .ok (.iconst 3, 1) := by decide +kernel
theorem dL_law_882 : decode cL_law 882 = .ok (.iadd, 1) := by decide +kernel
theorem dL_law_883 : decode cL_law 883 = .ok (.iaload, 1) := by decide +kernel
theorem dL_law_884 : decode cL_law 884 = .ok (.invokevirtual 101, 3) := by decide +kernel
theorem dL_law_887 : decode cL_law 887 = .ok (.if_icmp .eq 682, 3) := by decide +kernel
theorem dL_law_890 : decode cL_law 890 = .ok (.iconst 0, 1) := by decide +kernel
theorem dL_law_891 : decode cL_law 891 = .ok (.ireturn, 1) := by decide +kernel
theorem dL_law_892 : decode cL_law 892 = .ok (.aload_n 1, 1) := by decide +kernel
theorem dL_law_893 : decode cL_law 893 = .ok (.aload_n 0, 1) := by decide +kernel
theorem dL_law_894 : decode cL_law 894 = .ok (.iload_n 3, 1) := by decide +kernel
theorem dL_law_895 : decode cL_law 895 = .ok (.iconst 1, 1) := by decide +kernel
theorem dL_law_896 : decode cL_law 896 = .ok (.iadd, 1) := by decide +kernel
theorem dL_law_897 : decode cL_law 897 = .ok (.iaload, 1) := by decide +kernel
theorem dL_law_898 : decode cL_law 898 = .ok (.aload_n 0, 1) := by decide +kernel
theorem dL_law_899 : decode cL_law 899 = .ok (.iload_n 3, 1) := by decide +kernel
theorem dL_law_900 : decode cL_law 900 = .ok (.iconst 2, 1) := by decide +kernel
theorem dL_law_901 : decode cL_law 901 = .ok (.iadd, 1) := by decide +kernel
theorem dL_law_902 : decode cL_law 902 = .ok (.iaload, 1) := by decide +kernel
theorem dL_law_903 : decode cL_law 903 = .ok (.invokevirtual 102, 3) := by decide +kernel
theorem dL_law_906 : decode cL_law 906 = .ok (.aload_n 2, 1) := by decide +kernel
theorem dL_law_907 : decode cL_law 907 = .ok (.aload_n 0, 1) := by decide +kernel
theorem dL_law_908 : decode cL_law 908 = .ok (.iload_n 3, 1) := by decide +kernel
theorem dL_law_909 : decode cL_law 909 = .ok (.iconst 1, 1) := by decide +kernel
theorem dL_law_910 : decode cL_law 910 = .ok (.iadd, 1) := by decide +kernel
theorem dL_law_911 : decode cL_law 911 = .ok (.iaload, 1) := by decide +kernel
theorem dL_law_912 : decode cL_law 912 = .ok (.aload_n 0, 1) := by decide +kernel
theorem dL_law_913 : decode cL_law 913 = .ok (.iload_n 3, 1) := by decide +kernel
theorem dL_law_914 : decode cL_law 914 = .ok (.iconst 2, 1) := by decide +kernel
theorem dL_law_915 : decode cL_law 915 = .ok (.iadd, 1) := by decide +kernel
theorem dL_law_916 : decode cL_law 916 = .ok (.iaload, 1) := by decide +kernel
theorem dL_law_917 : decode cL_law 917 = .ok (.invokevirtual 105, 3) := by decide +kernel
theorem dL_law_920 : decode cL_law 920 = .ok (.if_icmp .eq 649, 3) := by decide +kernel
theorem dL_law_923 : decode cL_law 923 = .ok (.iconst 0, 1) := by decide +kernel
theorem dL_law_924 : decode cL_law 924 = .ok (.ireturn, 1) := by decide +kernel
theorem dL_law_925 : decode cL_law 925 = .ok (.aload_n 1, 1) := by decide +kernel
theorem dL_law_926 : decode cL_law 926 = .ok (.aload_n 0, 1) := by decide +kernel
theorem dL_law_927 : decode cL_law 927 = .ok (.iload_n 3, 1) := by decide +kernel
theorem dL_law_928 : decode cL_law 928 = .ok (.iconst 1, 1) := by decide +kernel
theorem dL_law_929 : decode cL_law 929 = .ok (.iadd, 1) := by decide +kernel
theorem dL_law_930 : decode cL_law 930 = .ok (.iaload, 1) := by decide +kernel
theorem dL_law_931 : decode cL_law 931 = .ok (.aload_n 0, 1) := by decide +kernel
theorem dL_law_932 : decode cL_law 932 = .ok (.iload_n 3, 1) := by decide +kernel
theorem dL_law_933 : decode cL_law 933 = .ok (.iconst 2, 1) := by decide +kernel
theorem dL_law_934 : decode cL_law 934 = .ok (.iadd, 1) := by decide +kernel
theorem dL_law_935 : decode cL_law 935 = .ok (.iaload, 1) := by decide +kernel
theorem dL_law_936 : decode cL_law 936 = .ok (.aload_n 0, 1) := by decide +kernel
theorem dL_law_937 : decode cL_law 937 = .ok (.iload_n 3, 1) := by decide +kernel
theorem dL_law_938 : decode cL_law 938 = .ok (.iconst 3, 1) := by decide +kernel
theorem dL_law_939 : decode cL_law 939 = .ok (.iadd, 1) := by decide +kernel
theorem dL_law_940 : decode cL_law 940 = .ok (.iaload, 1) := by decide +kernel
theorem dL_law_941 : decode cL_law 941 = .ok (.aload_n 0, 1) := by decide +kernel
theorem dL_law_942 : decode cL_law 942 = .ok (.iload_n 3, 1) := by decide +kernel
theorem dL_law_943 : decode cL_law 943 = .ok (.iconst 4, 1) := by decide +kernel
theorem dL_law_944 : decode cL_law 944 = .ok (.iadd, 1) := by decide +kernel
theorem dL_law_945 : decode cL_law 945 = .ok (.iaload, 1) := by decide +kernel
theorem dL_law_946 : decode cL_law 946 = .ok (.invokevirtual 106, 3) := by decide +kernel
theorem dL_law_949 : decode cL_law 949 = .ok (.aload_n 2, 1) := by decide +kernel
theorem dL_law_950 : decode cL_law 950 = .ok (.aload_n 0, 1) := by decide +kernel
theorem dL_law_951 : decode cL_law 951 = .ok (.iload_n 3, 1) := by decide +kernel
theorem dL_law_952 : decode cL_law 952 = .ok (.iconst 1, 1) := by decide +kernel
theorem dL_law_953 : decode cL_law 953 = .ok (.iadd, 1) := by decide +kernel
theorem dL_law_954 : decode cL_law 954 = .ok (.iaload, 1) := by decide +kernel
theorem dL_law_955 : decode cL_law 955 = .ok (.aload_n 0, 1) := by decide +kernel
theorem dL_law_956 : decode cL_law 956 = .ok (.iload_n 3, 1) := by decide +kernel
theorem dL_law_957 : decode cL_law 957 = .ok (.iconst 2, 1) := by decide +kernel
theorem dL_law_958 : decode cL_law 958 = .ok (.iadd, 1) := by decide +kernel
theorem dL_law_959 : decode cL_law 959 = .ok (.iaload, 1) := by decide +kernel
theorem dL_law_960 : decode cL_law 960 = .ok (.aload_n 0, 1) := by decide +kernel
theorem dL_law_961 : decode cL_law 961 = .ok (.iload_n 3, 1) := by decide +kernel
theorem dL_law_962 : decode cL_law 962 = .ok (.iconst 3, 1) := by decide +kernel
theorem dL_law_963 : decode cL_law 963 = .ok (.iadd, 1) := by decide +kernel
theorem dL_law_964 : decode cL_law 964 = .ok (.iaload, 1) := by decide +kernel
theorem dL_law_965 : decode cL_law 965 = .ok (.aload_n 0, 1) := by decide +kernel
theorem dL_law_966 : decode cL_law 966 = .ok (.iload_n 3, 1) := by decide +kernel
theorem dL_law_967 : decode cL_law 967 = .ok (.iconst 4, 1) := by decide +kernel
theorem dL_law_968 : decode cL_law 968 = .ok (.iadd, 1) := by decide +kernel
theorem dL_law_969 : decode cL_law 969 = .ok (.iaload, 1) := by decide +kernel
theorem dL_law_970 : decode cL_law 970 = .ok (.invokevirtual 109, 3) := by decide +kernel
theorem dL_law_973 : decode cL_law 973 = .ok (.if_icmp .eq 596, 3) := by decide +kernel
theorem dL_law_976 : decode cL_law 976 = .ok (.iconst 0, 1) := by decide +kernel
theorem dL_law_977 : decode cL_law 977 = .ok (.ireturn, 1) := by decide +kernel
theorem dL_law_978 : decode cL_law 978 = .ok (.aload_n 1, 1) := by decide +kernel
theorem dL_law_979 : decode cL_law 979 = .ok (.aload_n 0, 1) := by decide +kernel
theorem dL_law_980 : decode cL_law 980 = .ok (.iload_n 3, 1) := by decide +kernel
theorem dL_law_981 : decode cL_law 981 = .ok (.iconst 1, 1) := by decide +kernel
theorem dL_law_982 : decode cL_law 982 = .ok (.iadd, 1) := by decide +kernel
theorem dL_law_983 : decode cL_law 983 = .ok (.iaload, 1) := by decide +kernel
theorem dL_law_984 : decode cL_law 984 = .ok (.aload_n 0, 1) := by decide +kernel
theorem dL_law_985 : decode cL_law 985 = .ok (.iload_n 3, 1) := by decide +kernel
theorem dL_law_986 : decode cL_law 986 = .ok (.iconst 2, 1) := by decide +kernel
theorem dL_law_987 : decode cL_law 987 = .ok (.iadd, 1) := by decide +kernel
theorem dL_law_988 : decode cL_law 988 = .ok (.iaload, 1) := by decide +kernel
theorem dL_law_989 : decode cL_law 989 = .ok (.aload_n 0, 1) := by decide +kernel
theorem dL_law_990 : decode cL_law 990 = .ok (.iload_n 3, 1) := by decide +kernel
theorem dL_law_991 : decode cL_law 991 = .ok (.iconst 3, 1) := by decide +kernel
theorem dL_law_992 : decode cL_law 992 = .ok (.iadd, 1) := by decide +kernel
theorem dL_law_993 : decode cL_law 993 = .ok (.iaload, 1) := by decide +kernel
theorem dL_law_994 : decode cL_law 994 = .ok (.aload_n 0, 1) := by decide +kernel
theorem dL_law_995 : decode cL_law 995 = .ok (.iload_n 3, 1) := by decide +kernel
theorem dL_law_996 : decode cL_law 996 = .ok (.iconst 4, 1) := by decide +kernel
theorem dL_law_997 : decode cL_law 997 = .ok (.iadd, 1) := by decide +kernel
theorem dL_law_998 : decode cL_law 998 = .ok (.iaload, 1) := by decide +kernel
theorem dL_law_999 : decode cL_law 999 = .ok (.invokevirtual 110, 3) := by decide +kernel
theorem dL_law_1002 : decode cL_law 1002 = .ok (.aload_n 2, 1) := by decide +kernel
theorem dL_law_1003 : decode cL_law 1003 = .ok (.aload_n 0, 1) := by decide +kernel
theorem dL_law_1004 : decode cL_law 1004 = .ok (.iload_n 3, 1) := by decide +kernel
theorem dL_law_1005 : decode cL_law 1005 = .ok (.iconst 1, 1) := by decide +kernel
theorem dL_law_1006 : decode cL_law 1006 = .ok (.iadd, 1) := by decide +kernel
theorem dL_law_1007 : decode cL_law 1007 = .ok (.iaload, 1) := by decide +kernel
theorem dL_law_1008 : decode cL_law 1008 = .ok (.aload_n 0, 1) := by decide +kernel
theorem dL_law_1009 : decode cL_law 1009 = .ok (.iload_n 3, 1) := by decide +kernel
theorem dL_law_1010 : decode cL_law 1010 = .ok (.iconst 2, 1) := by decide +kernel
theorem dL_law_1011 : decode cL_law 1011 = .ok (.iadd, 1) := by decide +kernel
theorem dL_law_1012 : decode cL_law 1012 = .ok (.iaload, 1) := by decide +kernel
theorem dL_law_1013 : decode cL_law 1013 = .ok (.aload_n 0, 1) := by decide +kernel
theorem dL_law_1014 : decode cL_law 1014 = .ok (.iload_n 3, 1) := by decide +kernel
theorem dL_law_1015 : decode cL_law 1015 = .ok (.iconst 3, 1) := by decide +kernel
theorem dL_law_1016 : decode cL_law 1016 = .ok (.iadd, 1) := by decide +kernel
theorem dL_law_1017 : decode cL_law 1017 = .ok (.iaload, 1) := by decide +kernel
theorem dL_law_1018 : decode cL_law 1018 = .ok (.aload_n 0, 1) := by decide +kernel
theorem dL_law_1019 : decode cL_law 1019 = .ok (.iload_n 3, 1) := by decide +kernel
theorem dL_law_1020 : decode cL_law 1020 = .ok (.iconst 4, 1) := by decide +kernel
theorem dL_law_1021 : decode cL_law 1021 = .ok (.iadd, 1) := by decide +kernel
theorem dL_law_1022 : decode cL_law 1022 = .ok (.iaload, 1) := by decide +kernel
theorem dL_law_1023 : decode cL_law 1023 = .ok (.invokevirtual 113, 3) := by decide +kernel
theorem dL_law_1026 : decode cL_law 1026 = .ok (.if_icmp .eq 543, 3) := by decide +kernel
theorem dL_law_1029 : decode cL_law 1029 = .ok (.iconst 0, 1) := by decide +kernel
theorem dL_law_1030 : decode cL_law 1030 = .ok (.ireturn, 1) := by decide +kernel
theorem dL_law_1031 : decode cL_law 1031 = .ok (.aload_n 1, 1) := by decide +kernel
theorem dL_law_1032 : decode cL_law 1032 = .ok (.aload_n 0, 1) := by decide +kernel
theorem dL_law_1033 : decode cL_law 1033 = .ok (.iload_n 3, 1) := by decide +kernel
theorem dL_law_1034 : decode cL_law 1034 = .ok (.iconst 1, 1) := by decide +kernel
theorem dL_law_1035 : decode cL_law 1035 = .ok (.iadd, 1) := by decide +kernel
theorem dL_law_1036 : decode cL_law 1036 = .ok (.iaload, 1) := by decide +kernel
theorem dL_law_1037 : decode cL_law 1037 = .ok (.aload_n 0, 1) := by decide +kernel
theorem dL_law_1038 : decode cL_law 1038 = .ok (.iload_n 3, 1) := by decide +kernel
theorem dL_law_1039 : decode cL_law 1039 = .ok (.iconst 2, 1) := by decide +kernel
theorem dL_law_1040 : decode cL_law 1040 = .ok (.iadd, 1) := by decide +kernel
theorem dL_law_1041 : decode cL_law 1041 = .ok (.iaload, 1) := by decide +kernel
theorem dL_law_1042 : decode cL_law 1042 = .ok (.aload_n 0, 1) := by decide +kernel
theorem dL_law_1043 : decode cL_law 1043 = .ok (.iload_n 3, 1) := by decide +kernel
theorem dL_law_1044 : decode cL_law 1044 = .ok (.iconst 3, 1) := by decide +kernel
theorem dL_law_1045 : decode cL_law 1045 = .ok (.iadd, 1) := by decide +kernel
theorem dL_law_1046 : decode cL_law 1046 = .ok (.iaload, 1) := by decide +kernel
theorem dL_law_1047 : decode cL_law 1047 = .ok (.invokevirtual 114, 3) := by decide +kernel
theorem dL_law_1050 : decode cL_law 1050 = .ok (.aload_n 2, 1) := by decide +kernel
theorem dL_law_1051 : decode cL_law 1051 = .ok (.aload_n 0, 1) := by decide +kernel
theorem dL_law_1052 : decode cL_law 1052 = .ok (.iload_n 3, 1) := by decide +kernel
theorem dL_law_1053 : decode cL_law 1053 = .ok (.iconst 1, 1) := by decide +kernel
theorem dL_law_1054 : decode cL_law 1054 = .ok (.iadd, 1) := by decide +kernel
theorem dL_law_1055 : decode cL_law 1055 = .ok (.iaload, 1) := by decide +kernel
theorem dL_law_1056 : decode cL_law 1056 = .ok (.aload_n 0, 1) := by decide +kernel
theorem dL_law_1057 : decode cL_law 1057 = .ok (.iload_n 3, 1) := by decide +kernel
theorem dL_law_1058 : decode cL_law 1058 = .ok (.iconst 2, 1) := by decide +kernel
theorem dL_law_1059 : decode cL_law 1059 = .ok (.iadd, 1) := by decide +kernel
theorem dL_law_1060 : decode cL_law 1060 = .ok (.iaload, 1) := by decide +kernel
theorem dL_law_1061 : decode cL_law 1061 = .ok (.aload_n 0, 1) := by decide +kernel
theorem dL_law_1062 : decode cL_law 1062 = .ok (.iload_n 3, 1) := by decide +kernel
theorem dL_law_1063 : decode cL_law 1063 = .ok (.iconst 3, 1) := by decide +kernel
theorem dL_law_1064 : decode cL_law 1064 = .ok (.iadd, 1) := by decide +kernel
theorem dL_law_1065 : decode cL_law 1065 = .ok (.iaload, 1) := by decide +kernel
theorem dL_law_1066 : decode cL_law 1066 = .ok (.invokevirtual 117, 3) := by decide +kernel
theorem dL_law_1069 : decode cL_law 1069 = .ok (.if_icmp .eq 500, 3) := by decide +kernel
theorem dL_law_1072 : decode cL_law 1072 = .ok (.iconst 0, 1) := by decide +kernel
theorem dL_law_1073 : decode cL_law 1073 = .ok (.ireturn, 1) := by decide +kernel
theorem dL_law_1074 : decode cL_law 1074 = .ok (.aload_n 1, 1) := by decide +kernel
theorem dL_law_1075 : decode cL_law 1075 = .ok (.aload_n 0, 1) := by decide +kernel
theorem dL_law_1076 : decode cL_law 1076 = .ok (.iload_n 3, 1) := by decide +kernel
theorem dL_law_1077 : decode cL_law 1077 = .ok (.iconst 1, 1) := by decide +kernel
theorem dL_law_1078 : decode cL_law 1078 = .ok (.iadd, 1) := by decide +kernel
theorem dL_law_1079 : decode cL_law 1079 = .ok (.iaload, 1) := by decide +kernel
theorem dL_law_1080 : decode cL_law 1080 = .ok (.aload_n 0, 1) := by decide +kernel
theorem dL_law_1081 : decode cL_law 1081 = .ok (.iload_n 3, 1) := by decide +kernel
theorem dL_law_1082 : decode cL_law 1082 = .ok (.iconst 2, 1) := by decide +kernel
theorem dL_law_1083 : decode cL_law 1083 = .ok (.iadd, 1) := by decide +kernel
theorem dL_law_1084 : decode cL_law 1084 = .ok (.iaload, 1) := by decide +kernel
theorem dL_law_1085 : decode cL_law 1085 = .ok (.aload_n 0, 1) := by decide +kernel
theorem dL_law_1086 : decode cL_law 1086 = .ok (.iload_n 3, 1) := by decide +kernel
theorem dL_law_1087 : decode cL_law 1087 = .ok (.iconst 3, 1) := by decide +kernel
theorem dL_law_1088 : decode cL_law 1088 = .ok (.iadd, 1) := by decide +kernel
theorem dL_law_1089 : decode cL_law 1089 = .ok (.iaload, 1) := by decide +kernel
theorem dL_law_1090 : decode cL_law 1090 = .ok (.invokevirtual 118, 3) := by decide +kernel
theorem dL_law_1093 : decode cL_law 1093 = .ok (.aload_n 2, 1) := by decide +kernel
theorem dL_law_1094 : decode cL_law 1094 = .ok (.aload_n 0, 1) := by decide +kernel
theorem dL_law_1095 : decode cL_law 1095 = .ok (.iload_n 3, 1) := by decide +kernel
theorem dL_law_1096 : decode cL_law 1096 = .ok (.iconst 1, 1) := by decide +kernel
theorem dL_law_1097 : decode cL_law 1097 = .ok (.iadd, 1) := by decide +kernel
theorem dL_law_1098 : decode cL_law 1098 = .ok (.iaload, 1) := by decide +kernel
theorem dL_law_1099 : decode cL_law 1099 = .ok (.aload_n 0, 1) := by decide +kernel
theorem dL_law_1100 : decode cL_law 1100 = .ok (.iload_n 3, 1) := by decide +kernel
theorem dL_law_1101 : decode cL_law 1101 = .ok (.iconst 2, 1) := by decide +kernel
theorem dL_law_1102 : decode cL_law 1102 = .ok (.iadd, 1) := by decide +kernel
theorem dL_law_1103 : decode cL_law 1103 = .ok (.iaload, 1) := by decide +kernel
theorem dL_law_1104 : decode cL_law 1104 = .ok (.aload_n 0, 1) := by decide +kernel
theorem dL_law_1105 : decode cL_law 1105 = .ok (.iload_n 3, 1) := by decide +kernel
theorem dL_law_1106 : decode cL_law 1106 = .ok (.iconst 3, 1) := by decide +kernel
theorem dL_law_1107 : decode cL_law 1107 = .ok (.iadd, 1) := by decide +kernel
theorem dL_law_1108 : decode cL_law 1108 = .ok (.iaload, 1) := by decide +kernel
theorem dL_law_1109 : decode cL_law 1109 = .ok (.invokevirtual 121, 3) := by decide +kernel
theorem dL_law_1112 : decode cL_law 1112 = .ok (.if_icmp .eq 457, 3) := by decide +kernel
theorem dL_law_1115 : decode cL_law 1115 = .ok (.iconst 0, 1) := by decide +kernel
theorem dL_law_1116 : decode cL_law 1116 = .ok (.ireturn, 1) := by decide +kernel
theorem dL_law_1117 : decode cL_law 1117 = .ok (.aload_n 1, 1) := by decide +kernel
theorem dL_law_1118 : decode cL_law 1118 = .ok (.aload_n 0, 1) := by decide +kernel
theorem dL_law_1119 : decode cL_law 1119 = .ok (.iload_n 3, 1) := by decide +kernel
theorem dL_law_1120 : decode cL_law 1120 = .ok (.iconst 1, 1) := by decide +kernel
theorem dL_law_1121 : decode cL_law 1121 = .ok (.iadd, 1) := by decide +kernel
theorem dL_law_1122 : decode cL_law 1122 = .ok (.iaload, 1) := by decide +kernel
theorem dL_law_1123 : decode cL_law 1123 = .ok (.aload_n 0, 1) := by decide +kernel
theorem dL_law_1124 : decode cL_law 1124 = .ok (.iload_n 3, 1) := by decide +kernel
theorem dL_law_1125 : decode cL_law 1125 = .ok (.iconst 2, 1) := by decide +kernel
theorem dL_law_1126 : decode cL_law 1126 = .ok (.iadd, 1) := by decide +kernel
theorem dL_law_1127 : decode cL_law 1127 = .ok (.iaload, 1) := by decide +kernel
theorem dL_law_1128 : decode cL_law 1128 = .ok (.invokevirtual 122, 3) := by decide +kernel
theorem dL_law_1131 : decode cL_law 1131 = .ok (.aload_n 2, 1) := by decide +kernel
theorem dL_law_1132 : decode cL_law 1132 = .ok (.aload_n 0, 1) := by decide +kernel
theorem dL_law_1133 : decode cL_law 1133 = .ok (.iload_n 3, 1) := by decide +kernel
theorem dL_law_1134 : decode cL_law 1134 = .ok (.iconst 1, 1) := by decide +kernel
theorem dL_law_1135 : decode cL_law 1135 = .ok (.iadd, 1) := by decide +kernel
theorem dL_law_1136 : decode cL_law 1136 = .ok (.iaload, 1) := by decide +kernel
theorem dL_law_1137 : decode cL_law 1137 = .ok (.aload_n 0, 1) := by decide +kernel
theorem dL_law_1138 : decode cL_law 1138 = .ok (.iload_n 3, 1) := by decide +kernel
theorem dL_law_1139 : decode cL_law 1139 = .ok (.iconst 2, 1) := by decide +kernel
theorem dL_law_1140 : decode cL_law 1140 = .ok (.iadd, 1) := by decide +kernel
theorem dL_law_1141 : decode cL_law 1141 = .ok (.iaload, 1) := by decide +kernel
theorem dL_law_1142 : decode cL_law 1142 = .ok (.invokevirtual 125, 3) := by decide +kernel
theorem dL_law_1145 : decode cL_law 1145 = .ok (.if_icmp .eq 424, 3) := by decide +kernel
theorem dL_law_1148 : decode cL_law 1148 = .ok (.iconst 0, 1) := by decide +kernel
theorem dL_law_1149 : decode cL_law 1149 = .ok (.ireturn, 1) := by decide +kernel
theorem dL_law_1150 : decode cL_law 1150 = .ok (.aload_n 1, 1) := by decide +kernel
theorem dL_law_1151 : decode cL_law 1151 = .ok (.aload_n 0, 1) := by decide +kernel
theorem dL_law_1152 : decode cL_law 1152 = .ok (.iload_n 3, 1) := by decide +kernel
theorem dL_law_1153 : decode cL_law 1153 = .ok (.iconst 1, 1) := by decide +kernel
theorem dL_law_1154 : decode cL_law 1154 = .ok (.iadd, 1) := by decide +kernel
theorem dL_law_1155 : decode cL_law 1155 = .ok (.iaload, 1) := by decide +kernel
theorem dL_law_1156 : decode cL_law 1156 = .ok (.aload_n 0, 1) := by decide +kernel
theorem dL_law_1157 : decode cL_law 1157 = .ok (.iload_n 3, 1) := by decide +kernel
theorem dL_law_1158 : decode cL_law 1158 = .ok (.iconst 2, 1) := by decide +kernel
theorem dL_law_1159 : decode cL_law 1159 = .ok (.iadd, 1) := by decide +kernel
theorem dL_law_1160 : decode cL_law 1160 = .ok (.iaload, 1) := by decide +kernel
theorem dL_law_1161 : decode cL_law 1161 = .ok (.aload_n 0, 1) := by decide +kernel
theorem dL_law_1162 : decode cL_law 1162 = .ok (.iload_n 3, 1) := by decide +kernel
theorem dL_law_1163 : decode cL_law 1163 = .ok (.iconst 3, 1) := by decide +kernel
theorem dL_law_1164 : decode cL_law 1164 = .ok (.iadd, 1) := by decide +kernel
theorem dL_law_1165 : decode cL_law 1165 = .ok (.iaload, 1) := by decide +kernel
theorem dL_law_1166 : decode cL_law 1166 = .ok (.aload_n 0, 1) := by decide +kernel
theorem dL_law_1167 : decode cL_law 1167 = .ok (.iload_n 3, 1) := by decide +kernel
theorem dL_law_1168 : decode cL_law 1168 = .ok (.iconst 4, 1) := by decide +kernel
theorem dL_law_1169 : decode cL_law 1169 = .ok (.iadd, 1) := by decide +kernel
theorem dL_law_1170 : decode cL_law 1170 = .ok (.iaload, 1) := by decide +kernel
theorem dL_law_1171 : decode cL_law 1171 = .ok (.invokevirtual 126, 3) := by decide +kernel
theorem dL_law_1174 : decode cL_law 1174 = .ok (.aload_n 2, 1) := by decide +kernel
theorem dL_law_1175 : decode cL_law 1175 = .ok (.aload_n 0, 1) := by decide +kernel
theorem dL_law_1176 : decode cL_law 1176 = .ok (.iload_n 3, 1) := by decide +kernel
theorem dL_law_1177 : decode cL_law 1177 = .ok (.iconst 1, 1) := by decide +kernel
theorem dL_law_1178 : decode cL_law 1178 = .ok (.iadd, 1) := by decide +kernel
theorem dL_law_1179 : decode cL_law 1179 = .ok (.iaload, 1) := by decide +kernel
theorem dL_law_1180 : decode cL_law 1180 = .ok (.aload_n 0, 1) := by decide +kernel
theorem dL_law_1181 : decode cL_law 1181 = .ok (.iload_n 3, 1) := by decide +kernel
theorem dL_law_1182 : decode cL_law 1182 = .ok (.iconst 2, 1) := by decide +kernel
theorem dL_law_1183 : decode cL_law 1183 = .ok (.iadd, 1) := by decide +kernel
theorem dL_law_1184 : decode cL_law 1184 = .ok (.iaload, 1) := by decide +kernel
theorem dL_law_1185 : decode cL_law 1185 = .ok (.aload_n 0, 1) := by decide +kernel
theorem dL_law_1186 : decode cL_law 1186 = .ok (.iload_n 3, 1) := by decide +kernel
theorem dL_law_1187 : decode cL_law 1187 = .ok (.iconst 3, 1) := by decide +kernel
theorem dL_law_1188 : decode cL_law 1188 = .ok (.iadd, 1) := by decide +kernel
theorem dL_law_1189 : decode cL_law 1189 = .ok (.iaload, 1) := by decide +kernel
theorem dL_law_1190 : decode cL_law 1190 = .ok (.aload_n 0, 1) := by decide +kernel
theorem dL_law_1191 : decode cL_law 1191 = .ok (.iload_n 3, 1) := by decide +kernel
theorem dL_law_1192 : decode cL_law 1192 = .ok (.iconst 4, 1) := by decide +kernel
theorem dL_law_1193 : decode cL_law 1193 = .ok (.iadd, 1) := by decide +kernel
theorem dL_law_1194 : decode cL_law 1194 = .ok (.iaload, 1) := by decide +kernel
theorem dL_law_1195 : decode cL_law 1195 = .ok (.invokevirtual 129, 3) := by decide +kernel
theorem dL_law_1198 : decode cL_law 1198 = .ok (.if_icmp .eq 371, 3) := by decide +kernel
theorem dL_law_1201 : decode cL_law 1201 = .ok (.iconst 0, 1) := by decide +kernel
theorem dL_law_1202 : decode cL_law 1202 = .ok (.ireturn, 1) := by decide +kernel
theorem dL_law_1203 : decode cL_law 1203 = .ok (.aload_n 1, 1) := by decide +kernel
theorem dL_law_1204 : decode cL_law 1204 = .ok (.aload_n 0, 1) := by decide +kernel
theorem dL_law_1205 : decode cL_law 1205 = .ok (.iload_n 3, 1) := by decide +kernel
theorem dL_law_1206 : decode cL_law 1206 = .ok (.iconst 1, 1) := by decide +kernel
theorem dL_law_1207 : decode cL_law 1207 = .ok (.iadd, 1) := by decide +kernel
theorem dL_law_1208 : decode cL_law 1208 = .ok (.iaload, 1) := by decide +kernel
theorem dL_law_1209 : decode cL_law 1209 = .ok (.aload_n 0, 1) := by decide +kernel
theorem dL_law_1210 : decode cL_law 1210 = .ok (.iload_n 3, 1) := by decide +kernel
theorem dL_law_1211 : decode cL_law 1211 = .ok (.iconst 2, 1) := by decide +kernel
theorem dL_law_1212 : decode cL_law 1212 = .ok (.iadd, 1) := by decide +kernel
theorem dL_law_1213 : decode cL_law 1213 = .ok (.iaload, 1) := by decide +kernel
theorem dL_law_1214 : decode cL_law 1214 = .ok (.aload_n 0, 1) := by decide +kernel
theorem dL_law_1215 : decode cL_law 1215 = .ok (.iload_n 3, 1) := by decide +kernel
theorem dL_law_1216 : decode cL_law 1216 = .ok (.iconst 3, 1) := by decide +kernel
theorem dL_law_1217 : decode cL_law 1217 = .ok (.iadd, 1) := by decide +kernel
theorem dL_law_1218 : decode cL_law 1218 = .ok (.iaload, 1) := by decide +kernel
theorem dL_law_1219 : decode cL_law 1219 = .ok (.invokevirtual 130, 3) := by decide +kernel
theorem dL_law_1222 : decode cL_law 1222 = .ok (.aload_n 2, 1) := by decide +kernel
theorem dL_law_1223 : decode cL_law 1223 = .ok (.aload_n 0, 1) := by decide +kernel
theorem dL_law_1224 : decode cL_law 1224 = .ok (.iload_n 3, 1) := by decide +kernel
theorem dL_law_1225 : decode cL_law 1225 = .ok (.iconst 1, 1) := by decide +kernel
theorem dL_law_1226 : decode cL_law 1226 = .ok (.iadd, 1) := by decide +kernel
theorem dL_law_1227 : decode cL_law 1227 = .ok (.iaload, 1) := by decide +kernel
theorem dL_law_1228 : decode cL_law 1228 = .ok (.aload_n 0, 1) := by decide +kernel
theorem dL_law_1229 : decode cL_law 1229 = .ok (.iload_n 3, 1) := by decide +kernel
theorem dL_law_1230 : decode cL_law 1230 = .ok (.iconst 2, 1) := by decide +kernel
theorem dL_law_1231 : decode cL_law 1231 = .ok (.iadd, 1) := by decide +kernel
theorem dL_law_1232 : decode cL_law 1232 = .ok (.iaload, 1) := by decide +kernel
theorem dL_law_1233 : decode cL_law 1233 = .ok (.aload_n 0, 1) := by decide +kernel
theorem dL_law_1234 : decode cL_law 1234 = .ok (.iload_n 3, 1) := by decide +kernel
theorem dL_law_1235 : decode cL_law 1235 = .ok (.iconst 3, 1) := by decide +kernel
theorem dL_law_1236 : decode cL_law 1236 = .ok (.iadd, 1) := by decide +kernel
theorem dL_law_1237 : decode cL_law 1237 = .ok (.iaload, 1) := by decide +kernel
theorem dL_law_1238 : decode cL_law 1238 = .ok (.invokevirtual 133, 3) := by decide +kernel
theorem dL_law_1241 : decode cL_law 1241 = .ok (.if_icmp .eq 328, 3) := by decide +kernel
theorem dL_law_1244 : decode cL_law 1244 = .ok (.iconst 0, 1) := by decide +kernel
theorem dL_law_1245 : decode cL_law 1245 = .ok (.ireturn, 1) := by decide +kernel
theorem dL_law_1246 : decode cL_law 1246 = .ok (.aload_n 1, 1) := by decide +kernel
theorem dL_law_1247 : decode cL_law 1247 = .ok (.aload_n 0, 1) := by decide +kernel
theorem dL_law_1248 : decode cL_law 1248 = .ok (.iload_n 3, 1) := by decide +kernel
theorem dL_law_1249 : decode cL_law 1249 = .ok (.iconst 1, 1) := by decide +kernel
theorem dL_law_1250 : decode cL_law 1250 = .ok (.iadd, 1) := by decide +kernel
theorem dL_law_1251 : decode cL_law 1251 = .ok (.iaload, 1) := by decide +kernel
theorem dL_law_1252 : decode cL_law 1252 = .ok (.aload_n 0, 1) := by decide +kernel
theorem dL_law_1253 : decode cL_law 1253 = .ok (.iload_n 3, 1) := by decide +kernel
theorem dL_law_1254 : decode cL_law 1254 = .ok (.iconst 2, 1) := by decide +kernel
theorem dL_law_1255 : decode cL_law 1255 = .ok (.iadd, 1) := by decide +kernel
theorem dL_law_1256 : decode cL_law 1256 = .ok (.iaload, 1) := by decide +kernel
theorem dL_law_1257 : decode cL_law 1257 = .ok (.invokevirtual 134, 3) := by decide +kernel
theorem dL_law_1260 : decode cL_law 1260 = .ok (.aload_n 2, 1) := by decide +kernel
theorem dL_law_1261 : decode cL_law 1261 = .ok (.aload_n 0, 1) := by decide +kernel
theorem dL_law_1262 : decode cL_law 1262 = .ok (.iload_n 3, 1) := by decide +kernel
theorem dL_law_1263 : decode cL_law 1263 = .ok (.iconst 1, 1) := by decide +kernel
theorem dL_law_1264 : decode cL_law 1264 = .ok (.iadd, 1) := by decide +kernel
theorem dL_law_1265 : decode cL_law 1265 = .ok (.iaload, 1) := by decide +kernel
theorem dL_law_1266 : decode cL_law 1266 = .ok (.aload_n 0, 1) := by decide +kernel
theorem dL_law_1267 : decode cL_law 1267 = .ok (.iload_n 3, 1) := by decide +kernel
theorem dL_law_1268 : decode cL_law 1268 = .ok (.iconst 2, 1) := by decide +kernel
theorem dL_law_1269 : decode cL_law 1269 = .ok (.iadd, 1) := by decide +kernel
theorem dL_law_1270 : decode cL_law 1270 = .ok (.iaload, 1) := by decide +kernel
theorem dL_law_1271 : decode cL_law 1271 = .ok (.invokevirtual 137, 3) := by decide +kernel
theorem dL_law_1274 : decode cL_law 1274 = .ok (.if_icmp .eq 295, 3) := by decide +kernel
theorem dL_law_1277 : decode cL_law 1277 = .ok (.iconst 0, 1) := by decide +kernel
theorem dL_law_1278 : decode cL_law 1278 = .ok (.ireturn, 1) := by decide +kernel
theorem dL_law_1279 : decode cL_law 1279 = .ok (.aload_n 1, 1) := by decide +kernel
theorem dL_law_1280 : decode cL_law 1280 = .ok (.aload_n 0, 1) := by decide +kernel
theorem dL_law_1281 : decode cL_law 1281 = .ok (.iload_n 3, 1) := by decide +kernel
theorem dL_law_1282 : decode cL_law 1282 = .ok (.iconst 1, 1) := by decide +kernel
theorem dL_law_1283 : decode cL_law 1283 = .ok (.iadd, 1) := by decide +kernel
theorem dL_law_1284 : decode cL_law 1284 = .ok (.iaload, 1) := by decide +kernel
theorem dL_law_1285 : decode cL_law 1285 = .ok (.aload_n 0, 1) := by decide +kernel
theorem dL_law_1286 : decode cL_law 1286 = .ok (.iload_n 3, 1) := by decide +kernel
theorem dL_law_1287 : decode cL_law 1287 = .ok (.iconst 2, 1) := by decide +kernel
theorem dL_law_1288 : decode cL_law 1288 = .ok (.iadd, 1) := by decide +kernel
theorem dL_law_1289 : decode cL_law 1289 = .ok (.iaload, 1) := by decide +kernel
theorem dL_law_1290 : decode cL_law 1290 = .ok (.invokevirtual 138, 3) := by decide +kernel
theorem dL_law_1293 : decode cL_law 1293 = .ok (.aload_n 2, 1) := by decide +kernel
theorem dL_law_1294 : decode cL_law 1294 = .ok (.aload_n 0, 1) := by decide +kernel
theorem dL_law_1295 : decode cL_law 1295 = .ok (.iload_n 3, 1) := by decide +kernel
theorem dL_law_1296 : decode cL_law 1296 = .ok (.iconst 1, 1) := by decide +kernel
theorem dL_law_1297 : decode cL_law 1297 = .ok (.iadd, 1) := by decide +kernel
theorem dL_law_1298 : decode cL_law 1298 = .ok (.iaload, 1) := by decide +kernel
theorem dL_law_1299 : decode cL_law 1299 = .ok (.aload_n 0, 1) := by decide +kernel
theorem dL_law_1300 : decode cL_law 1300 = .ok (.iload_n 3, 1) := by decide +kernel
theorem dL_law_1301 : decode cL_law 1301 = .ok (.iconst 2, 1) := by decide +kernel
theorem dL_law_1302 : decode cL_law 1302 = .ok (.iadd, 1) := by decide +kernel
theorem dL_law_1303 : decode cL_law 1303 = .ok (.iaload, 1) := by decide +kernel
theorem dL_law_1304 : decode cL_law 1304 = .ok (.invokevirtual 141, 3) := by decide +kernel
theorem dL_law_1307 : decode cL_law 1307 = .ok (.if_icmp .eq 262, 3) := by decide +kernel
theorem dL_law_1310 : decode cL_law 1310 = .ok (.iconst 0, 1) := by decide +kernel
theorem dL_law_1311 : decode cL_law 1311 = .ok (.ireturn, 1) := by decide +kernel
theorem dL_law_1312 : decode cL_law 1312 = .ok (.aload_n 1, 1) := by decide +kernel
theorem dL_law_1313 : decode cL_law 1313 = .ok (.aload_n 0, 1) := by decide +kernel
theorem dL_law_1314 : decode cL_law 1314 = .ok (.iload_n 3, 1) := by decide +kernel
theorem dL_law_1315 : decode cL_law 1315 = .ok (.iconst 1, 1) := by decide +kernel
theorem dL_law_1316 : decode cL_law 1316 = .ok (.iadd, 1) := by decide +kernel
theorem dL_law_1317 : decode cL_law 1317 = .ok (.iaload, 1) := by decide +kernel
theorem dL_law_1318 : decode cL_law 1318 = .ok (.aload_n 0, 1) := by decide +kernel
theorem dL_law_1319 : decode cL_law 1319 = .ok (.iload_n 3, 1) := by decide +kernel
theorem dL_law_1320 : decode cL_law 1320 = .ok (.iconst 2, 1) := by decide +kernel
theorem dL_law_1321 : decode cL_law 1321 = .ok (.iadd, 1) := by decide +kernel
theorem dL_law_1322 : decode cL_law 1322 = .ok (.iaload, 1) := by decide +kernel
theorem dL_law_1323 : decode cL_law 1323 = .ok (.aload_n 0, 1) := by decide +kernel
theorem dL_law_1324 : decode cL_law 1324 = .ok (.iload_n 3, 1) := by decide +kernel
theorem dL_law_1325 : decode cL_law 1325 = .ok (.iconst 3, 1) := by decide +kernel
theorem dL_law_1326 : decode cL_law 1326 = .ok (.iadd, 1) := by decide +kernel
theorem dL_law_1327 : decode cL_law 1327 = .ok (.iaload, 1) := by decide +kernel
theorem dL_law_1328 : decode cL_law 1328 = .ok (.aload_n 0, 1) := by decide +kernel
theorem dL_law_1329 : decode cL_law 1329 = .ok (.iload_n 3, 1) := by decide +kernel
theorem dL_law_1330 : decode cL_law 1330 = .ok (.iconst 4, 1) := by decide +kernel
theorem dL_law_1331 : decode cL_law 1331 = .ok (.iadd, 1) := by decide +kernel
theorem dL_law_1332 : decode cL_law 1332 = .ok (.iaload, 1) := by decide +kernel
theorem dL_law_1333 : decode cL_law 1333 = .ok (.ifCond .eq 7, 3) := by decide +kernel
theorem dL_law_1336 : decode cL_law 1336 = .ok (.iconst 1, 1) := by decide +kernel
theorem dL_law_1337 : decode cL_law 1337 = .ok (.goto 4, 3) := by decide +kernel
theorem dL_law_1340 : decode cL_law 1340 = .ok (.iconst 0, 1) := by decide +kernel
theorem dL_law_1341 : decode cL_law 1341 = .ok (.aload_n 0, 1) := by decide +kernel
theorem dL_law_1342 : decode cL_law 1342 = .ok (.iload_n 3, 1) := by decide +kernel
theorem dL_law_1343 : decode cL_law 1343 = .ok (.iconst 5, 1) := by decide +kernel
theorem dL_law_1344 : decode cL_law 1344 = .ok (.iadd, 1) := by decide +kernel
theorem dL_law_1345 : decode cL_law 1345 = .ok (.iaload, 1) := by decide +kernel
theorem dL_law_1346 : decode cL_law 1346 = .ok (.invokevirtual 142, 3) := by decide +kernel
theorem dL_law_1349 : decode cL_law 1349 = .ok (.aload_n 2, 1) := by decide +kernel
theorem dL_law_1350 : decode cL_law 1350 = .ok (.aload_n 0, 1) := by decide +kernel
theorem dL_law_1351 : decode cL_law 1351 = .ok (.iload_n 3, 1) := by decide +kernel
theorem dL_law_1352 : decode cL_law 1352 = .ok (.iconst 1, 1) := by decide +kernel
theorem dL_law_1353 : decode cL_law 1353 = .ok (.iadd, 1) := by decide +kernel
theorem dL_law_1354 : decode cL_law 1354 = .ok (.iaload, 1) := by decide +kernel
theorem dL_law_1355 : decode cL_law 1355 = .ok (.aload_n 0, 1) := by decide +kernel
theorem dL_law_1356 : decode cL_law 1356 = .ok (.iload_n 3, 1) := by decide +kernel
theorem dL_law_1357 : decode cL_law 1357 = .ok (.iconst 2, 1) := by decide +kernel
theorem dL_law_1358 : decode cL_law 1358 = .ok (.iadd, 1) := by decide +kernel
theorem dL_law_1359 : decode cL_law 1359 = .ok (.iaload, 1) := by decide +kernel
theorem dL_law_1360 : decode cL_law 1360 = .ok (.aload_n 0, 1) := by decide +kernel
theorem dL_law_1361 : decode cL_law 1361 = .ok (.iload_n 3, 1) := by decide +kernel
theorem dL_law_1362 : decode cL_law 1362 = .ok (.iconst 3, 1) := by decide +kernel
theorem dL_law_1363 : decode cL_law 1363 = .ok (.iadd, 1) := by decide +kernel
theorem dL_law_1364 : decode cL_law 1364 = .ok (.iaload, 1) := by decide +kernel
theorem dL_law_1365 : decode cL_law 1365 = .ok (.aload_n 0, 1) := by decide +kernel
theorem dL_law_1366 : decode cL_law 1366 = .ok (.iload_n 3, 1) := by decide +kernel
theorem dL_law_1367 : decode cL_law 1367 = .ok (.iconst 4, 1) := by decide +kernel
theorem dL_law_1368 : decode cL_law 1368 = .ok (.iadd, 1) := by decide +kernel
theorem dL_law_1369 : decode cL_law 1369 = .ok (.iaload, 1) := by decide +kernel
theorem dL_law_1370 : decode cL_law 1370 = .ok (.ifCond .eq 7, 3) := by decide +kernel
theorem dL_law_1373 : decode cL_law 1373 = .ok (.iconst 1, 1) := by decide +kernel
theorem dL_law_1374 : decode cL_law 1374 = .ok (.goto 4, 3) := by decide +kernel
theorem dL_law_1377 : decode cL_law 1377 = .ok (.iconst 0, 1) := by decide +kernel
theorem dL_law_1378 : decode cL_law 1378 = .ok (.aload_n 0, 1) := by decide +kernel
theorem dL_law_1379 : decode cL_law 1379 = .ok (.iload_n 3, 1) := by decide +kernel
theorem dL_law_1380 : decode cL_law 1380 = .ok (.iconst 5, 1) := by decide +kernel
theorem dL_law_1381 : decode cL_law 1381 = .ok (.iadd, 1) := by decide +kernel
theorem dL_law_1382 : decode cL_law 1382 = .ok (.iaload, 1) := by decide +kernel
theorem dL_law_1383 : decode cL_law 1383 = .ok (.invokevirtual 146, 3) := by decide +kernel
theorem dL_law_1386 : decode cL_law 1386 = .ok (.if_icmp .eq 183, 3) := by decide +kernel
theorem dL_law_1389 : decode cL_law 1389 = .ok (.iconst 0, 1) := by decide +kernel
theorem dL_law_1390 : decode cL_law 1390 = .ok (.ireturn, 1) := by decide +kernel
theorem dL_law_1391 : decode cL_law 1391 = .ok (.aload_n 1, 1) := by decide +kernel
theorem dL_law_1392 : decode cL_law 1392 = .ok (.aload_n 0, 1) := by decide +kernel
theorem dL_law_1393 : decode cL_law 1393 = .ok (.iload_n 3, 1) := by decide +kernel
theorem dL_law_1394 : decode cL_law 1394 = .ok (.iconst 1, 1) := by decide +kernel
theorem dL_law_1395 : decode cL_law 1395 = .ok (.iadd, 1) := by decide +kernel
theorem dL_law_1396 : decode cL_law 1396 = .ok (.iaload, 1) := by decide +kernel
theorem dL_law_1397 : decode cL_law 1397 = .ok (.invokevirtual 147, 3) := by decide +kernel
theorem dL_law_1400 : decode cL_law 1400 = .ok (.aload_n 2, 1) := by decide +kernel
theorem dL_law_1401 : decode cL_law 1401 = .ok (.aload_n 0, 1) := by decide +kernel
theorem dL_law_1402 : decode cL_law 1402 = .ok (.iload_n 3, 1) := by decide +kernel
theorem dL_law_1403 : decode cL_law 1403 = .ok (.iconst 1, 1) := by decide +kernel
theorem dL_law_1404 : decode cL_law 1404 = .ok (.iadd, 1) := by decide +kernel
theorem dL_law_1405 : decode cL_law 1405 = .ok (.iaload, 1) := by decide +kernel
theorem dL_law_1406 : decode cL_law 1406 = .ok (.invokevirtual 150, 3) := by decide +kernel
theorem dL_law_1409 : decode cL_law 1409 = .ok (.if_icmp .eq 160, 3) := by decide +kernel
theorem dL_law_1412 : decode cL_law 1412 = .ok (.iconst 0, 1) := by decide +kernel
theorem dL_law_1413 : decode cL_law 1413 = .ok (.ireturn, 1) := by decide +kernel
theorem dL_law_1414 : decode cL_law 1414 = .ok (.aload_n 1, 1) := by decide +kernel
theorem dL_law_1415 : decode cL_law 1415 = .ok (.aload_n 0, 1) := by decide +kernel
theorem dL_law_1416 : decode cL_law 1416 = .ok (.iload_n 3, 1) := by decide +kernel
theorem dL_law_1417 : decode cL_law 1417 = .ok (.iconst 1, 1) := by decide +kernel
theorem dL_law_1418 : decode cL_law 1418 = .ok (.iadd, 1) := by decide +kernel
theorem dL_law_1419 : decode cL_law 1419 = .ok (.iaload, 1) := by decide +kernel
theorem dL_law_1420 : decode cL_law 1420 = .ok (.aload_n 0, 1) := by decide +kernel
theorem dL_law_1421 : decode cL_law 1421 = .ok (.iload_n 3, 1) := by decide +kernel
theorem dL_law_1422 : decode cL_law 1422 = .ok (.iconst 2, 1) := by decide +kernel
theorem dL_law_1423 : decode cL_law 1423 = .ok (.iadd, 1) := by decide +kernel
theorem dL_law_1424 : decode cL_law 1424 = .ok (.iaload, 1) := by decide +kernel
theorem dL_law_1425 : decode cL_law 1425 = .ok (.invokevirtual 151, 3) := by decide +kernel
theorem dL_law_1428 : decode cL_law 1428 = .ok (.aload_n 2, 1) := by decide +kernel
theorem dL_law_1429 : decode cL_law 1429 = .ok (.aload_n 0, 1) := by decide +kernel
theorem dL_law_1430 : decode cL_law 1430 = .ok (.iload_n 3, 1) := by decide +kernel
theorem dL_law_1431 : decode cL_law 1431 = .ok (.iconst 1, 1) := by decide +kernel
theorem dL_law_1432 : decode cL_law 1432 = .ok (.iadd, 1) := by decide +kernel
theorem dL_law_1433 : decode cL_law 1433 = .ok (.iaload, 1) := by decide +kernel
theorem dL_law_1434 : decode cL_law 1434 = .ok (.aload_n 0, 1) := by decide +kernel
theorem dL_law_1435 : decode cL_law 1435 = .ok (.iload_n 3, 1) := by decide +kernel
theorem dL_law_1436 : decode cL_law 1436 = .ok (.iconst 2, 1) := by decide +kernel
theorem dL_law_1437 : decode cL_law 1437 = .ok (.iadd, 1) := by decide +kernel
theorem dL_law_1438 : decode cL_law 1438 = .ok (.iaload, 1) := by decide +kernel
theorem dL_law_1439 : decode cL_law 1439 = .ok (.invokevirtual 154, 3) := by decide +kernel
theorem dL_law_1442 : decode cL_law 1442 = .ok (.if_icmp .eq 127, 3) := by decide +kernel
theorem dL_law_1445 : decode cL_law 1445 = .ok (.iconst 0, 1) := by decide +kernel
theorem dL_law_1446 : decode cL_law 1446 = .ok (.ireturn, 1) := by decide +kernel
theorem dL_law_1447 : decode cL_law 1447 = .ok (.aload_n 1, 1) := by decide +kernel
theorem dL_law_1448 : decode cL_law 1448 = .ok (.aload_n 0, 1) := by decide +kernel
theorem dL_law_1449 : decode cL_law 1449 = .ok (.iload_n 3, 1) := by decide +kernel
theorem dL_law_1450 : decode cL_law 1450 = .ok (.iconst 1, 1) := by decide +kernel
theorem dL_law_1451 : decode cL_law 1451 = .ok (.iadd, 1) := by decide +kernel
theorem dL_law_1452 : decode cL_law 1452 = .ok (.iaload, 1) := by decide +kernel
theorem dL_law_1453 : decode cL_law 1453 = .ok (.aload_n 0, 1) := by decide +kernel
theorem dL_law_1454 : decode cL_law 1454 = .ok (.iload_n 3, 1) := by decide +kernel
theorem dL_law_1455 : decode cL_law 1455 = .ok (.iconst 2, 1) := by decide +kernel
theorem dL_law_1456 : decode cL_law 1456 = .ok (.iadd, 1) := by decide +kernel
theorem dL_law_1457 : decode cL_law 1457 = .ok (.iaload, 1) := by decide +kernel
theorem dL_law_1458 : decode cL_law 1458 = .ok (.aload_n 0, 1) := by decide +kernel
theorem dL_law_1459 : decode cL_law 1459 = .ok (.iload_n 3, 1) := by decide +kernel
theorem dL_law_1460 : decode cL_law 1460 = .ok (.iconst 3, 1) := by decide +kernel
theorem dL_law_1461 : decode cL_law 1461 = .ok (.iadd, 1) := by decide +kernel
theorem dL_law_1462 : decode cL_law 1462 = .ok (.iaload, 1) := by decide +kernel
theorem dL_law_1463 : decode cL_law 1463 = .ok (.invokevirtual 155, 3) := by decide +kernel
theorem dL_law_1466 : decode cL_law 1466 = .ok (.aload_n 2, 1) := by decide +kernel
theorem dL_law_1467 : decode cL_law 1467 = .ok (.aload_n 0, 1) := by decide +kernel
theorem dL_law_1468 : decode cL_law 1468 = .ok (.iload_n 3, 1) := by decide +kernel
theorem dL_law_1469 : decode cL_law 1469 = .ok (.iconst 1, 1) := by decide +kernel
theorem dL_law_1470 : decode cL_law 1470 = .ok (.iadd, 1) := by decide +kernel
theorem dL_law_1471 : decode cL_law 1471 = .ok (.iaload, 1) := by decide +kernel
theorem dL_law_1472 : decode cL_law 1472 = .ok (.aload_n 0, 1) := by decide +kernel
theorem dL_law_1473 : decode cL_law 1473 = .ok (.iload_n 3, 1) := by decide +kernel
theorem dL_law_1474 : decode cL_law 1474 = .ok (.iconst 2, 1) := by decide +kernel
theorem dL_law_1475 : decode cL_law 1475 = .ok (.iadd, 1) := by decide +kernel
theorem dL_law_1476 : decode cL_law 1476 = .ok (.iaload, 1) := by decide +kernel
theorem dL_law_1477 : decode cL_law 1477 = .ok (.aload_n 0, 1) := by decide +kernel
theorem dL_law_1478 : decode cL_law 1478 = .ok (.iload_n 3, 1) := by decide +kernel
theorem dL_law_1479 : decode cL_law 1479 = .ok (.iconst 3, 1) := by decide +kernel
theorem dL_law_1480 : decode cL_law 1480 = .ok (.iadd, 1) := by decide +kernel
theorem dL_law_1481 : decode cL_law 1481 = .ok (.iaload, 1) := by decide +kernel
theorem dL_law_1482 : decode cL_law 1482 = .ok (.invokevirtual 158, 3) := by decide +kernel
theorem dL_law_1485 : decode cL_law 1485 = .ok (.if_icmp .eq 84, 3) := by decide +kernel
theorem dL_law_1488 : decode cL_law 1488 = .ok (.iconst 0, 1) := by decide +kernel
theorem dL_law_1489 : decode cL_law 1489 = .ok (.ireturn, 1) := by decide +kernel
theorem dL_law_1490 : decode cL_law 1490 = .ok (.aload_n 1, 1) := by decide +kernel
theorem dL_law_1491 : decode cL_law 1491 = .ok (.aload_n 0, 1) := by decide +kernel
theorem dL_law_1492 : decode cL_law 1492 = .ok (.iload_n 3, 1) := by decide +kernel
theorem dL_law_1493 : decode cL_law 1493 = .ok (.iconst 1, 1) := by decide +kernel
theorem dL_law_1494 : decode cL_law 1494 = .ok (.iadd, 1) := by decide +kernel
theorem dL_law_1495 : decode cL_law 1495 = .ok (.iaload, 1) := by decide +kernel
theorem dL_law_1496 : decode cL_law 1496 = .ok (.invokevirtual 159, 3) := by decide +kernel
theorem dL_law_1499 : decode cL_law 1499 = .ok (.aload_n 2, 1) := by decide +kernel
theorem dL_law_1500 : decode cL_law 1500 = .ok (.aload_n 0, 1) := by decide +kernel
theorem dL_law_1501 : decode cL_law 1501 = .ok (.iload_n 3, 1) := by decide +kernel
theorem dL_law_1502 : decode cL_law 1502 = .ok (.iconst 1, 1) := by decide +kernel
theorem dL_law_1503 : decode cL_law 1503 = .ok (.iadd, 1) := by decide +kernel
theorem dL_law_1504 : decode cL_law 1504 = .ok (.iaload, 1) := by decide +kernel
theorem dL_law_1505 : decode cL_law 1505 = .ok (.invokevirtual 162, 3) := by decide +kernel
theorem dL_law_1508 : decode cL_law 1508 = .ok (.if_icmp .eq 61, 3) := by decide +kernel
theorem dL_law_1511 : decode cL_law 1511 = .ok (.iconst 0, 1) := by decide +kernel
theorem dL_law_1512 : decode cL_law 1512 = .ok (.ireturn, 1) := by decide +kernel
theorem dL_law_1513 : decode cL_law 1513 = .ok (.aload_n 1, 1) := by decide +kernel
theorem dL_law_1514 : decode cL_law 1514 = .ok (.aload_n 0, 1) := by decide +kernel
theorem dL_law_1515 : decode cL_law 1515 = .ok (.iload_n 3, 1) := by decide +kernel
theorem dL_law_1516 : decode cL_law 1516 = .ok (.iconst 1, 1) := by decide +kernel
theorem dL_law_1517 : decode cL_law 1517 = .ok (.iadd, 1) := by decide +kernel
theorem dL_law_1518 : decode cL_law 1518 = .ok (.iaload, 1) := by decide +kernel
theorem dL_law_1519 : decode cL_law 1519 = .ok (.aload_n 0, 1) := by decide +kernel
theorem dL_law_1520 : decode cL_law 1520 = .ok (.iload_n 3, 1) := by decide +kernel
theorem dL_law_1521 : decode cL_law 1521 = .ok (.iconst 2, 1) := by decide +kernel
theorem dL_law_1522 : decode cL_law 1522 = .ok (.iadd, 1) := by decide +kernel
theorem dL_law_1523 : decode cL_law 1523 = .ok (.iaload, 1) := by decide +kernel
theorem dL_law_1524 : decode cL_law 1524 = .ok (.invokevirtual 163, 3) := by decide +kernel
theorem dL_law_1527 : decode cL_law 1527 = .ok (.aload_n 2, 1) := by decide +kernel
theorem dL_law_1528 : decode cL_law 1528 = .ok (.aload_n 0, 1) := by decide +kernel
theorem dL_law_1529 : decode cL_law 1529 = .ok (.iload_n 3, 1) := by decide +kernel
theorem dL_law_1530 : decode cL_law 1530 = .ok (.iconst 1, 1) := by decide +kernel
theorem dL_law_1531 : decode cL_law 1531 = .ok (.iadd, 1) := by decide +kernel
theorem dL_law_1532 : decode cL_law 1532 = .ok (.iaload, 1) := by decide +kernel
theorem dL_law_1533 : decode cL_law 1533 = .ok (.aload_n 0, 1) := by decide +kernel
theorem dL_law_1534 : decode cL_law 1534 = .ok (.iload_n 3, 1) := by decide +kernel
theorem dL_law_1535 : decode cL_law 1535 = .ok (.iconst 2, 1) := by decide +kernel
theorem dL_law_1536 : decode cL_law 1536 = .ok (.iadd, 1) := by decide +kernel
theorem dL_law_1537 : decode cL_law 1537 = .ok (.iaload, 1) := by decide +kernel
theorem dL_law_1538 : decode cL_law 1538 = .ok (.invokevirtual 166, 3) := by decide +kernel
theorem dL_law_1541 : decode cL_law 1541 = .ok (.if_icmp .eq 28, 3) := by decide +kernel
theorem dL_law_1544 : decode cL_law 1544 = .ok (.iconst 0, 1) := by decide +kernel
theorem dL_law_1545 : decode cL_law 1545 = .ok (.ireturn, 1) := by decide +kernel
theorem dL_law_1546 : decode cL_law 1546 = .ok (.aload_n 1, 1) := by decide +kernel
theorem dL_law_1547 : decode cL_law 1547 = .ok (.aload_n 0, 1) := by decide +kernel
theorem dL_law_1548 : decode cL_law 1548 = .ok (.iload_n 3, 1) := by decide +kernel
theorem dL_law_1549 : decode cL_law 1549 = .ok (.iconst 1, 1) := by decide +kernel
theorem dL_law_1550 : decode cL_law 1550 = .ok (.iadd, 1) := by decide +kernel
theorem dL_law_1551 : decode cL_law 1551 = .ok (.iaload, 1) := by decide +kernel
theorem dL_law_1552 : decode cL_law 1552 = .ok (.invokevirtual 167, 3) := by decide +kernel
theorem dL_law_1555 : decode cL_law 1555 = .ok (.aload_n 2, 1) := by decide +kernel
theorem dL_law_1556 : decode cL_law 1556 = .ok (.aload_n 0, 1) := by decide +kernel
theorem dL_law_1557 : decode cL_law 1557 = .ok (.iload_n 3, 1) := by decide +kernel
theorem dL_law_1558 : decode cL_law 1558 = .ok (.iconst 1, 1) := by decide +kernel
theorem dL_law_1559 : decode cL_law 1559 = .ok (.iadd, 1) := by decide +kernel
theorem dL_law_1560 : decode cL_law 1560 = .ok (.iaload, 1) := by decide +kernel
theorem dL_law_1561 : decode cL_law 1561 = .ok (.invokevirtual 170, 3) := by decide +kernel
theorem dL_law_1564 : decode cL_law 1564 = .ok (.if_icmp .eq 5, 3) := by decide +kernel
theorem dL_law_1567 : decode cL_law 1567 = .ok (.iconst 0, 1) := by decide +kernel
theorem dL_law_1568 : decode cL_law 1568 = .ok (.ireturn, 1) := by decide +kernel
theorem dL_law_1569 : decode cL_law 1569 = .ok (.iinc 3 6, 3) := by decide +kernel
theorem dL_law_1572 : decode cL_law 1572 = .ok (.goto (-1554), 3) := by decide +kernel
theorem dL_law_1575 : decode cL_law 1575 = .ok (.iconst 1, 1) := by decide +kernel
theorem dL_law_1576 : decode cL_law 1576 = .ok (.ireturn, 1) := by decide +kernel
end
section
theorem dX12_init_0 : decode cX12_init 0 = .ok (.aload_n 0, 1) := by decide +kernel
theorem dX12_init_1 : decode cX12_init 1 = .ok (.invokespecial 1, 3) := by decide +kernel
theorem dX12_init_4 : decode cX12_init 4 = .ok (.aload_n 0, 1) := by decide +kernel
theorem dX12_init_5 : decode cX12_init 5 = .ok (.bipush 12, 2) := by decide +kernel
theorem dX12_init_7 : decode cX12_init 7 = .ok (.putfield 7, 3) := by decide +kernel
theorem dX12_init_10 : decode cX12_init 10 = .ok (.aload_n 0, 1) := by decide +kernel
theorem dX12_init_11 : decode cX12_init 11 = .ok (.bipush 80, 2) := by decide +kernel
theorem dX12_init_13 : decode cX12_init 13 = .ok (.newarray .int, 2) := by decide +kernel
theorem dX12_init_15 : decode cX12_init 15 = .ok (.putfield 13, 3) := by decide +kernel
theorem dX12_init_18 : decode cX12_init 18 = .ok (.aload_n 0, 1) := by decide +kernel
theorem dX12_init_19 : decode cX12_init 19 = .ok (.bipush 60, 2) := by decide +kernel
theorem dX12_init_21 : decode cX12_init 21 = .ok (.newarray .int, 2) := by decide +kernel
theorem dX12_init_23 : decode cX12_init 23 = .ok (.putfield 17, 3) := by decide +kernel
theorem dX12_init_26 : decode cX12_init 26 = .ok (.aload_n 0, 1) := by decide +kernel
theorem dX12_init_27 : decode cX12_init 27 = .ok (.sipush 480, 3) := by decide +kernel
theorem dX12_init_30 : decode cX12_init 30 = .ok (.newarray .int, 2) := by decide +kernel
theorem dX12_init_32 : decode cX12_init 32 = .ok (.putfield 20, 3) := by decide +kernel
theorem dX12_init_35 : decode cX12_init 35 = .ok (.aload_n 0, 1) := by decide +kernel
theorem dX12_init_36 : decode cX12_init 36 = .ok (.bipush 60, 2) := by decide +kernel
theorem dX12_init_38 : decode cX12_init 38 = .ok (.newarray .int, 2) := by decide +kernel
theorem dX12_init_40 : decode cX12_init 40 = .ok (.putfield 23, 3) := by decide +kernel
theorem dX12_init_43 : decode cX12_init 43 = .ok (.aload_n 0, 1) := by decide +kernel
theorem dX12_init_44 : decode cX12_init 44 = .ok (.bipush 60, 2) := by decide +kernel
theorem dX12_init_46 : decode cX12_init 46 = .ok (.newarray .boolean, 2) := by decide +kernel
theorem dX12_init_48 : decode cX12_init 48 = .ok (.putfield 26, 3) := by decide +kernel
theorem dX12_init_51 : decode cX12_init 51 = .ok (.aload_n 0, 1) := by decide +kernel
theorem dX12_init_52 : decode cX12_init 52 = .ok (.bipush 60, 2) := by decide +kernel
theorem dX12_init_54 : decode cX12_init 54 = .ok (.newarray .boolean, 2) := by decide +kernel
theorem dX12_init_56 : decode cX12_init 56 = .ok (.putfield 30, 3) := by decide +kernel
theorem dX12_init_59 : decode cX12_init 59 = .ok (.aload_n 0, 1) := by decide +kernel
theorem dX12_init_60 : decode cX12_init 60 = .ok (.bipush 6, 2) := by decide +kernel
theorem dX12_init_62 : decode cX12_init 62 = .ok (.newarray .int, 2) := by decide +kernel
theorem dX12_init_64 : decode cX12_init 64 = .ok (.putfield 33, 3) := by decide +kernel
theorem dX12_init_67 : decode cX12_init 67 = .ok (.aload_n 0, 1) := by decide +kernel
theorem dX12_init_68 : decode cX12_init 68 = .ok (.bipush 6, 2) := by decide +kernel
theorem dX12_init_70 : decode cX12_init 70 = .ok (.newarray .int, 2) := by decide +kernel
theorem dX12_init_72 : decode cX12_init 72 = .ok (.putfield 36, 3) := by decide +kernel
theorem dX12_init_75 : decode cX12_init 75 = .ok (.aload_n 0, 1) := by decide +kernel
theorem dX12_init_76 : decode cX12_init 76 = .ok (.bipush 13, 2) := by decide +kernel
theorem dX12_init_78 : decode cX12_init 78 = .ok (.newarray .int, 2) := by decide +kernel
theorem dX12_init_80 : decode cX12_init 80 = .ok (.putfield 39, 3) := by decide +kernel
theorem dX12_init_83 : decode cX12_init 83 = .ok (.aload_n 0, 1) := by decide +kernel
theorem dX12_init_84 : decode cX12_init 84 = .ok (.bipush 78, 2) := by decide +kernel
theorem dX12_init_86 : decode cX12_init 86 = .ok (.newarray .int, 2) := by decide +kernel
theorem dX12_init_88 : decode cX12_init 88 = .ok (.putfield 42, 3) := by decide +kernel
theorem dX12_init_91 : decode cX12_init 91 = .ok (.aload_n 0, 1) := by decide +kernel
theorem dX12_init_92 : decode cX12_init 92 = .ok (.bipush 78, 2) := by decide +kernel
theorem dX12_init_94 : decode cX12_init 94 = .ok (.newarray .int, 2) := by decide +kernel
theorem dX12_init_96 : decode cX12_init 96 = .ok (.putfield 45, 3) := by decide +kernel
theorem dX12_init_99 : decode cX12_init 99 = .ok (.aload_n 0, 1) := by decide +kernel
theorem dX12_init_100 : decode cX12_init 100 = .ok (.bipush 78, 2) := by decide +kernel
theorem dX12_init_102 : decode cX12_init 102 = .ok (.newarray .int, 2) := by decide +kernel
theorem dX12_init_104 : decode cX12_init 104 = .ok (.putfield 48, 3) := by decide +kernel
theorem dX12_init_107 : decode cX12_init 107 = .ok (.aload_n 0, 1) := by decide +kernel
theorem dX12_init_108 : decode cX12_init 108 = .ok (.bipush 78, 2) := by decide +kernel
theorem dX12_init_110 : decode cX12_init 110 = .ok (.newarray .int, 2) := by decide +kernel
theorem dX12_init_112 : decode cX12_init 112 = .ok (.putfield 51, 3) := by decide +kernel
theorem dX12_init_115 : decode cX12_init 115 = .ok (.aload_n 0, 1) := by decide +kernel
theorem dX12_init_116 : decode cX12_init 116 = .ok (.bipush 80, 2) := by decide +kernel
theorem dX12_init_118 : decode cX12_init 118 = .ok (.newarray .int, 2) := by decide +kernel
theorem dX12_init_120 : decode cX12_init 120 = .ok (.putfield 54, 3) := by decide +kernel
theorem dX12_init_123 : decode cX12_init 123 = .ok (.aload_n 0, 1) := by decide +kernel
theorem dX12_init_124 : decode cX12_init 124 = .ok (.bipush 80, 2) := by decide +kernel
theorem dX12_init_126 : decode cX12_init 126 = .ok (.newarray .int, 2) := by decide +kernel
theorem dX12_init_128 : decode cX12_init 128 = .ok (.putfield 57, 3) := by decide +kernel
theorem dX12_init_131 : decode cX12_init 131 = .ok (.aload_n 0, 1) := by decide +kernel
theorem dX12_init_132 : decode cX12_init 132 = .ok (.bipush 80, 2) := by decide +kernel
theorem dX12_init_134 : decode cX12_init 134 = .ok (.newarray .int, 2) := by decide +kernel
theorem dX12_init_136 : decode cX12_init 136 = .ok (.putfield 60, 3) := by decide +kernel
theorem dX12_init_139 : decode cX12_init 139 = .ok (.aload_n 0, 1) := by decide +kernel
theorem dX12_init_140 : decode cX12_init 140 = .ok (.bipush 80, 2) := by decide +kernel
theorem dX12_init_142 : decode cX12_init 142 = .ok (.newarray .int, 2) := by decide +kernel
theorem dX12_init_144 : decode cX12_init 144 = .ok (.putfield 63, 3) := by decide +kernel
theorem dX12_init_147 : decode cX12_init 147 = .ok (.aload_n 0, 1) := by decide +kernel
theorem dX12_init_148 : decode cX12_init 148 = .ok (.bipush 80, 2) := by decide +kernel
theorem dX12_init_150 : decode cX12_init 150 = .ok (.newarray .int, 2) := by decide +kernel
theorem dX12_init_152 : decode cX12_init 152 = .ok (.putfield 66, 3) := by decide +kernel
theorem dX12_init_155 : decode cX12_init 155 = .ok (.aload_n 0, 1) := by decide +kernel
theorem dX12_init_156 : decode cX12_init 156 = .ok (.bipush 60, 2) := by decide +kernel
theorem dX12_init_158 : decode cX12_init 158 = .ok (.newarray .int, 2) := by decide +kernel
theorem dX12_init_160 : decode cX12_init 160 = .ok (.putfield 69, 3) := by decide +kernel
theorem dX12_init_163 : decode cX12_init 163 = .ok (.aload_n 0, 1) := by decide +kernel
theorem dX12_init_164 : decode cX12_init 164 = .ok (.bipush 60, 2) := by decide +kernel
theorem dX12_init_166 : decode cX12_init 166 = .ok (.newarray .boolean, 2) := by decide +kernel
theorem dX12_init_168 : decode cX12_init 168 = .ok (.putfield 72, 3) := by decide +kernel
theorem dX12_init_171 : decode cX12_init 171 = .ok (.aload_n 0, 1) := by decide +kernel
theorem dX12_init_172 : decode cX12_init 172 = .ok (.bipush 8, 2) := by decide +kernel
theorem dX12_init_174 : decode cX12_init 174 = .ok (.newarray .int, 2) := by decide +kernel
theorem dX12_init_176 : decode cX12_init 176 = .ok (.putfield 75, 3) := by decide +kernel
theorem dX12_init_179 : decode cX12_init 179 = .ok (.aload_n 0, 1) := by decide +kernel
theorem dX12_init_180 : decode cX12_init 180 = .ok (.bipush 8, 2) := by decide +kernel
theorem dX12_init_182 : decode cX12_init 182 = .ok (.newarray .int, 2) := by decide +kernel
theorem dX12_init_184 : decode cX12_init 184 = .ok (.putfield 78, 3) := by decide +kernel
theorem dX12_init_187 : decode cX12_init 187 = .ok (.aload_n 0, 1) := by decide +kernel
theorem dX12_init_188 : decode cX12_init 188 = .ok (.bipush 81, 2) := by decide +kernel
theorem dX12_init_190 : decode cX12_init 190 = .ok (.newarray .int, 2) := by decide +kernel
theorem dX12_init_192 : decode cX12_init 192 = .ok (.putfield 81, 3) := by decide +kernel
theorem dX12_init_195 : decode cX12_init 195 = .ok (.aload_n 0, 1) := by decide +kernel
theorem dX12_init_196 : decode cX12_init 196 = .ok (.bipush 16, 2) := by decide +kernel
theorem dX12_init_198 : decode cX12_init 198 = .ok (.newarray .int, 2) := by decide +kernel
theorem dX12_init_200 : decode cX12_init 200 = .ok (.putfield 84, 3) := by decide +kernel
theorem dX12_init_203 : decode cX12_init 203 = .ok (.aload_n 0, 1) := by decide +kernel
theorem dX12_init_204 : decode cX12_init 204 = .ok (.iconst 4, 1) := by decide +kernel
theorem dX12_init_205 : decode cX12_init 205 = .ok (.newarray .int, 2) := by decide +kernel
theorem dX12_init_207 : decode cX12_init 207 = .ok (.putfield 87, 3) := by decide +kernel
theorem dX12_init_210 : decode cX12_init 210 = .ok (.aload_n 0, 1) := by decide +kernel
theorem dX12_init_211 : decode cX12_init 211 = .ok (.iconst 4, 1) := by decide +kernel
theorem dX12_init_212 : decode cX12_init 212 = .ok (.newarray .int, 2) := by decide +kernel
theorem dX12_init_214 : decode cX12_init 214 = .ok (.putfield 90, 3) := by decide +kernel
theorem dX12_init_217 : decode cX12_init 217 = .ok (.aload_n 0, 1) := by decide +kernel
theorem dX12_init_218 : decode cX12_init 218 = .ok (.iconst 4, 1) := by decide +kernel
theorem dX12_init_219 : decode cX12_init 219 = .ok (.newarray .int, 2) := by decide +kernel
theorem dX12_init_221 : decode cX12_init 221 = .ok (.putfield 93, 3) := by decide +kernel
theorem dX12_init_224 : decode cX12_init 224 = .ok (.aload_n 0, 1) := by decide +kernel
theorem dX12_init_225 : decode cX12_init 225 = .ok (.bipush 8, 2) := by decide +kernel
theorem dX12_init_227 : decode cX12_init 227 = .ok (.newarray .int, 2) := by decide +kernel
theorem dX12_init_229 : decode cX12_init 229 = .ok (.putfield 96, 3) := by decide +kernel
theorem dX12_init_232 : decode cX12_init 232 = .ok (.aload_n 0, 1) := by decide +kernel
theorem dX12_init_233 : decode cX12_init 233 = .ok (.bipush 6, 2) := by decide +kernel
theorem dX12_init_235 : decode cX12_init 235 = .ok (.newarray .int, 2) := by decide +kernel
theorem dX12_init_237 : decode cX12_init 237 = .ok (.putfield 99, 3) := by decide +kernel
theorem dX12_init_240 : decode cX12_init 240 = .ok (.aload_n 0, 1) := by decide +kernel
theorem dX12_init_241 : decode cX12_init 241 = .ok (.bipush 9, 2) := by decide +kernel
theorem dX12_init_243 : decode cX12_init 243 = .ok (.newarray .int, 2) := by decide +kernel
theorem dX12_init_245 : decode cX12_init 245 = .ok (.putfield 102, 3) := by decide +kernel
theorem dX12_init_248 : decode cX12_init 248 = .ok (.aload_n 0, 1) := by decide +kernel
theorem dX12_init_249 : decode cX12_init 249 = .ok (.bipush 9, 2) := by decide +kernel
theorem dX12_init_251 : decode cX12_init 251 = .ok (.newarray .int, 2) := by decide +kernel
theorem dX12_init_253 : decode cX12_init 253 = .ok (.putfield 105, 3) := by decide +kernel
theorem dX12_init_256 : decode cX12_init 256 = .ok (.aload_n 0, 1) := by decide +kernel
theorem dX12_init_257 : decode cX12_init 257 = .ok (.bipush 60, 2) := by decide +kernel
theorem dX12_init_259 : decode cX12_init 259 = .ok (.newarray .int, 2) := by decide +kernel
theorem dX12_init_261 : decode cX12_init 261 = .ok (.putfield 108, 3) := by decide +kernel
theorem dX12_init_264 : decode cX12_init 264 = .ok (.aload_n 0, 1) := by decide +kernel
theorem dX12_init_265 : decode cX12_init 265 = .ok (.bipush 66, 2) := by decide +kernel
theorem dX12_init_267 : decode cX12_init 267 = .ok (.newarray .int, 2) := by decide +kernel
theorem dX12_init_269 : decode cX12_init 269 = .ok (.putfield 111, 3) := by decide +kernel
theorem dX12_init_272 : decode cX12_init 272 = .ok (.aload_n 0, 1) := by decide +kernel
theorem dX12_init_273 : decode cX12_init 273 = .ok (.bipush 20, 2) := by decide +kernel
theorem dX12_init_275 : decode cX12_init 275 = .ok (.newarray .int, 2) := by decide +kernel
theorem dX12_init_277 : decode cX12_init 277 = .ok (.putfield 114, 3) := by decide +kernel
theorem dX12_init_280 : decode cX12_init 280 = .ok (.return_, 1) := by decide +kernel
theorem dX12_in_0 : decode cX12_in 0 = .ok (.iload_n 0, 1) := by decide +kernel
theorem dX12_in_1 : decode cX12_in 1 = .ok (.iload_n 1, 1) := by decide +kernel
theorem dX12_in_2 : decode cX12_in 2 = .ok (.if_icmp .lt 12, 3) := by decide +kernel
theorem dX12_in_5 : decode cX12_in 5 = .ok (.iload_n 0, 1) := by decide +kernel
theorem dX12_in_6 : decode cX12_in 6 = .ok (.iload_n 2, 1) := by decide +kernel
theorem dX12_in_7 : decode cX12_in 7 = .ok (.if_icmp .gt 7, 3) := by decide +kernel
theorem dX12_in_10 : decode cX12_in 10 = .ok (.iconst 1, 1) := by decide +kernel
theorem dX12_in_11 : decode cX12_in 11 = .ok (.goto 4, 3) := by decide +kernel
theorem dX12_in_14 : decode cX12_in 14 = .ok (.iconst 0, 1) := by decide +kernel
theorem dX12_in_15 : decode cX12_in 15 = .ok (.ireturn, 1) := by decide +kernel
theorem dX12_isTongue_0 : decode cX12_isTongue 0 = .ok (.iload_n 1, 1) := by decide +kernel
theorem dX12_isTongue_1 : decode cX12_isTongue 1 = .ok (.iconst 0, 1) := by decide +kernel
theorem dX12_isTongue_2 : decode cX12_isTongue 2 = .ok (.aload_n 0, 1) := by decide +kernel
theorem dX12_isTongue_3 : decode cX12_isTongue 3 = .ok (.getfield 120, 3) := by decide +kernel
theorem dX12_isTongue_6 : decode cX12_isTongue 6 = .ok (.iconst 1, 1) := by decide +kernel
theorem dX12_isTongue_7 : decode cX12_isTongue 7 = .ok (.isub, 1) := by decide +kernel
theorem dX12_isTongue_8 : decode cX12_isTongue 8 = .ok (.invokestatic 123, 3) := by decide +kernel
theorem dX12_isTongue_11 : decode cX12_isTongue 11 = .ok (.ireturn, 1) := by decide +kernel
theorem dX12_isMeaning_0 : decode cX12_isMeaning 0 = .ok (.iload_n 0, 1) := by decide +kernel
theorem dX12_isMeaning_1 : decode cX12_isMeaning 1 = .ok (.iconst 0, 1) := by decide +kernel
theorem dX12_isMeaning_2 : decode cX12_isMeaning 2 = .ok (.bipush 9, 2) := by decide +kernel
theorem dX12_isMeaning_4 : decode cX12_isMeaning 4 = .ok (.invokestatic 123, 3) := by decide +kernel
theorem dX12_isMeaning_7 : decode cX12_isMeaning 7 = .ok (.ireturn, 1) := by decide +kernel
theorem dX12_isLaw_0 : decode cX12_isLaw 0 = .ok (.iload_n 1, 1) := by decide +kernel
theorem dX12_isLaw_1 : decode cX12_isLaw 1 = .ok (.iconst 0, 1) := by decide +kernel
theorem dX12_isLaw_2 : decode cX12_isLaw 2 = .ok (.aload_n 0, 1) := by decide +kernel
theorem dX12_isLaw_3 : decode cX12_isLaw 3 = .ok (.getfield 127, 3) := by decide +kernel
theorem dX12_isLaw_6 : decode cX12_isLaw 6 = .ok (.iconst 1, 1) := by decide +kernel
theorem dX12_isLaw_7 : decode cX12_isLaw 7 = .ok (.isub, 1) := by decide +kernel
theorem dX12_isLaw_8 : decode cX12_isLaw 8 = .ok (.invokestatic 123, 3) := by decide +kernel
theorem dX12_isLaw_11 : decode cX12_isLaw 11 = .ok (.ireturn, 1) := by decide +kernel
theorem dX12_hasWord_0 : decode cX12_hasWord 0 = .ok (.aload_n 0, 1) := by decide +kernel
theorem dX12_hasWord_1 : decode cX12_hasWord 1 = .ok (.iload_n 1, 1) := by decide +kernel
theorem dX12_hasWord_2 : decode cX12_hasWord 2 = .ok (.invokevirtual 130, 3) := by decide +kernel
theorem dX12_hasWord_5 : decode cX12_hasWord 5 = .ok (.ifCond .eq 28, 3) := by decide +kernel
theorem dX12_hasWord_8 : decode cX12_hasWord 8 = .ok (.iload_n 2, 1) := by decide +kernel
theorem dX12_hasWord_9 : decode cX12_hasWord 9 = .ok (.invokestatic 134, 3) := by decide +kernel
theorem dX12_hasWord_12 : decode cX12_hasWord 12 = .ok (.ifCond .eq 21, 3) := by decide +kernel
theorem dX12_hasWord_15 : decode cX12_hasWord 15 = .ok (.aload_n 0, 1) := by decide +kernel
theorem dX12_hasWord_16 : decode cX12_hasWord 16 = .ok (.getfield 17, 3) := by decide +kernel
theorem dX12_hasWord_19 : decode cX12_hasWord 19 = .ok (.bipush 10, 2) := by decide +kernel
theorem dX12_hasWord_21 : decode cX12_hasWord 21 = .ok (.iload_n 1, 1) := by decide +kernel
theorem dX12_hasWord_22 : decode cX12_hasWord 22 = .ok (.imul, 1) := by decide +kernel
theorem dX12_hasWord_23 : decode cX12_hasWord 23 = .ok (.iload_n 2, 1) := by decide +kernel
theorem dX12_hasWord_24 : decode cX12_hasWord 24 = .ok (.iadd, 1) := by decide +kernel
theorem dX12_hasWord_25 : decode cX12_hasWord 25 = .ok (.iaload, 1) := by decide +kernel
theorem dX12_hasWord_26 : decode cX12_hasWord 26 = .ok (.ifCond .le 7, 3) := by decide +kernel
theorem dX12_hasWord_29 : decode cX12_hasWord 29 = .ok (.iconst 1, 1) := by decide +kernel
theorem dX12_hasWord_30 : decode cX12_hasWord 30 = .ok (.goto 4, 3) := by decide +kernel
theorem dX12_hasWord_33 : decode cX12_hasWord 33 = .ok (.iconst 0, 1) := by decide +kernel
theorem dX12_hasWord_34 : decode cX12_hasWord 34 = .ok (.ireturn, 1) := by decide +kernel
theorem dX12_tongue_0 : decode cX12_tongue 0 = .ok (.aload_n 0, 1) := by decide +kernel
theorem dX12_tongue_1 : decode cX12_tongue 1 = .ok (.getfield 120, 3) := by decide +kernel
theorem dX12_tongue_4 : decode cX12_tongue 4 = .ok (.bipush 6, 2) := by decide +kernel
theorem dX12_tongue_6 : decode cX12_tongue 6 = .ok (.if_icmp .ne 6, 3) := by decide +kernel
theorem dX12_tongue_9 : decode cX12_tongue 9 = .ok (.bipush (-4), 2) := by decide +kernel
theorem dX12_tongue_11 : decode cX12_tongue 11 = .ok (.ireturn, 1) := by decide +kernel
theorem dX12_tongue_12 : decode cX12_tongue 12 = .ok (.aload_n 0, 1) := by decide +kernel
theorem dX12_tongue_13 : decode cX12_tongue 13 = .ok (.getfield 33, 3) := by decide +kernel
theorem dX12_tongue_16 : decode cX12_tongue 16 = .ok (.aload_n 0, 1) := by decide +kernel
theorem dX12_tongue_17 : decode cX12_tongue 17 = .ok (.getfield 120, 3) := by decide +kernel
theorem dX12_tongue_20 : decode cX12_tongue 20 = .ok (.iconst (-1), 1) := by decide +kernel
theorem dX12_tongue_21 : decode cX12_tongue 21 = .ok (.iastore, 1) := by decide +kernel
theorem dX12_tongue_22 : decode cX12_tongue 22 = .ok (.aload_n 0, 1) := by decide +kernel
theorem dX12_tongue_23 : decode cX12_tongue 23 = .ok (.dup, 1) := by decide +kernel
theorem dX12_tongue_24 : decode cX12_tongue 24 = .ok (.getfield 120, 3) := by decide +kernel
theorem dX12_tongue_27 : decode cX12_tongue 27 = .ok (.iconst 1, 1) := by decide +kernel
theorem dX12_tongue_28 : decode cX12_tongue 28 = .ok (.iadd, 1) := by decide +kernel
theorem dX12_tongue_29 : decode cX12_tongue 29 = .ok (.putfield 120, 3) := by decide +kernel
theorem dX12_tongue_32 : decode cX12_tongue 32 = .ok (.aload_n 0, 1) := by decide +kernel
theorem dX12_tongue_33 : decode cX12_tongue 33 = .ok (.getfield 120, 3) := by decide +kernel
theorem dX12_tongue_36 : decode cX12_tongue 36 = .ok (.iconst 1, 1) := by decide +kernel
theorem dX12_tongue_37 : decode cX12_tongue 37 = .ok (.isub, 1) := by decide +kernel
theorem dX12_tongue_38 : decode cX12_tongue 38 = .ok (.ireturn, 1) := by decide +kernel
theorem dX12_years_0 : decode cX12_years 0 = .ok (.iload_n 1, 1) := by decide +kernel
theorem dX12_years_1 : decode cX12_years 1 = .ok (.iconst 1, 1) := by decide +kernel
theorem dX12_years_2 : decode cX12_years 2 = .ok (.sipush 500, 3) := by decide +kernel
theorem dX12_years_5 : decode cX12_years 5 = .ok (.invokestatic 123, 3) := by decide +kernel
theorem dX12_years_8 : decode cX12_years 8 = .ok (.ifCond .eq 15, 3) := by decide +kernel
theorem dX12_years_11 : decode cX12_years 11 = .ok (.aload_n 0, 1) := by decide +kernel
theorem dX12_years_12 : decode cX12_years 12 = .ok (.getfield 137, 3) := by decide +kernel
theorem dX12_years_15 : decode cX12_years 15 = .ok (.iload_n 1, 1) := by decide +kernel
theorem dX12_years_16 : decode cX12_years 16 = .ok (.iadd, 1) := by decide +kernel
theorem dX12_years_17 : decode cX12_years 17 = .ok (.sipush 9999, 3) := by decide +kernel
theorem dX12_years_20 : decode cX12_years 20 = .ok (.if_icmp .le 6, 3) := by decide +kernel
theorem dX12_years_23 : decode cX12_years 23 = .ok (.bipush (-2), 2) := by decide +kernel
theorem dX12_years_25 : decode cX12_years 25 = .ok (.ireturn, 1) := by decide +kernel
theorem dX12_years_26 : decode cX12_years 26 = .ok (.aload_n 0, 1) := by decide +kernel
theorem dX12_years_27 : decode cX12_years 27 = .ok (.dup, 1) := by decide +kernel
theorem dX12_years_28 : decode cX12_years 28 = .ok (.getfield 137, 3) := by decide +kernel
theorem dX12_years_31 : decode cX12_years 31 = .ok (.iload_n 1, 1) := by decide +kernel
theorem dX12_years_32 : decode cX12_years 32 = .ok (.iadd, 1) := by decide +kernel
theorem dX12_years_33 : decode cX12_years 33 = .ok (.putfield 137, 3) := by decide +kernel
theorem dX12_years_36 : decode cX12_years 36 = .ok (.aload_n 0, 1) := by decide +kernel
theorem dX12_years_37 : decode cX12_years 37 = .ok (.getfield 137, 3) := by decide +kernel
theorem dX12_years_40 : decode cX12_years 40 = .ok (.ireturn, 1) := by decide +kernel
theorem dX12_feed_0 : decode cX12_feed 0 = .ok (.iload_n 3, 1) := by decide +kernel
theorem dX12_feed_1 : decode cX12_feed 1 = .ok (.iconst 1, 1) := by decide +kernel
theorem dX12_feed_2 : decode cX12_feed 2 = .ok (.bipush 8, 2) := by decide +kernel
theorem dX12_feed_4 : decode cX12_feed 4 = .ok (.invokestatic 123, 3) := by decide +kernel
theorem dX12_feed_7 : decode cX12_feed 7 = .ok (.ifCond .ne 6, 3) := by decide +kernel
theorem dX12_feed_10 : decode cX12_feed 10 = .ok (.bipush (-2), 2) := by decide +kernel
theorem dX12_feed_12 : decode cX12_feed 12 = .ok (.ireturn, 1) := by decide +kernel
theorem dX12_feed_13 : decode cX12_feed 13 = .ok (.aload_n 0, 1) := by decide +kernel
theorem dX12_feed_14 : decode cX12_feed 14 = .ok (.getfield 140, 3) := by decide +kernel
theorem dX12_feed_17 : decode cX12_feed 17 = .ok (.iload_n 3, 1) := by decide +kernel
theorem dX12_feed_18 : decode cX12_feed 18 = .ok (.iadd, 1) := by decide +kernel
theorem dX12_feed_19 : decode cX12_feed 19 = .ok (.bipush 80, 2) := by decide +kernel
theorem dX12_feed_21 : decode cX12_feed 21 = .ok (.if_icmp .le 6, 3) := by decide +kernel
theorem dX12_feed_24 : decode cX12_feed 24 = .ok (.bipush (-4), 2) := by decide +kernel
theorem dX12_feed_26 : decode cX12_feed 26 = .ok (.ireturn, 1) := by decide +kernel
theorem dX12_feed_27 : decode cX12_feed 27 = .ok (.iload_n 3, 1) := by decide +kernel
theorem dX12_feed_28 : decode cX12_feed 28 = .ok (.iconst 1, 1) := by decide +kernel
theorem dX12_feed_29 : decode cX12_feed 29 = .ok (.isub, 1) := by decide +kernel
theorem dX12_feed_30 : decode cX12_feed 30 = .ok (.istore 4, 2) := by decide +kernel
theorem dX12_feed_32 : decode cX12_feed 32 = .ok (.iload 4, 2) := by decide +kernel
theorem dX12_feed_34 : decode cX12_feed 34 = .ok (.ifCond .lt 40, 3) := by decide +kernel
theorem dX12_feed_37 : decode cX12_feed 37 = .ok (.aload_n 0, 1) := by decide +kernel
theorem dX12_feed_38 : decode cX12_feed 38 = .ok (.getfield 13, 3) := by decide +kernel
theorem dX12_feed_41 : decode cX12_feed 41 = .ok (.aload_n 0, 1) := by decide +kernel
theorem dX12_feed_42 : decode cX12_feed 42 = .ok (.getfield 140, 3) := by decide +kernel
theorem dX12_feed_45 : decode cX12_feed 45 = .ok (.lload_n 1, 1) := by decide +kernel
theorem dX12_feed_46 : decode cX12_feed 46 = .ok (.bipush 8, 2) := by decide +kernel
theorem dX12_feed_48 : decode cX12_feed 48 = .ok (.iload 4, 2) := by decide +kernel
theorem dX12_feed_50 : decode cX12_feed 50 = .ok (.imul, 1) := by decide +kernel
theorem dX12_feed_51 : decode cX12_feed 51 = .ok (.lshr, 1) := by decide +kernel
theorem dX12_feed_52 : decode cX12_feed 52 = .ok (.ldc2_w 143, 3) := by decide +kernel
theorem dX12_feed_55 : decode cX12_feed 55 = .ok (.land, 1) := by decide +kernel
theorem dX12_feed_56 : decode cX12_feed 56 = .ok (.l2i, 1) := by decide +kernel
theorem dX12_feed_57 : decode cX12_feed 57 = .ok (.iastore, 1) := by decide +kernel
theorem dX12_feed_58 : decode cX12_feed 58 = .ok (.aload_n 0, 1) := by decide +kernel
theorem dX12_feed_59 : decode cX12_feed 59 = .ok (.dup, 1) := by decide +kernel
theorem dX12_feed_60 : decode cX12_feed 60 = .ok (.getfield 140, 3) := by decide +kernel
theorem dX12_feed_63 : decode cX12_feed 63 = .ok (.iconst 1, 1) := by decide +kernel
theorem dX12_feed_64 : decode cX12_feed 64 = .ok (.iadd, 1) := by decide +kernel
theorem dX12_feed_65 : decode cX12_feed 65 = .ok (.putfield 140, 3) := by decide +kernel
theorem dX12_feed_68 : decode cX12_feed 68 = .ok (.iinc 4 (-1), 3) := by decide +kernel
theorem dX12_feed_71 : decode cX12_feed 71 = .ok (.goto (-39), 3) := by decide +kernel
theorem dX12_feed_74 : decode cX12_feed 74 = .ok (.aload_n 0, 1) := by decide +kernel
theorem dX12_feed_75 : decode cX12_feed 75 = .ok (.getfield 140, 3) := by decide +kernel
theorem dX12_feed_78 : decode cX12_feed 78 = .ok (.ireturn, 1) := by decide +kernel
theorem dX12_here_0 : decode cX12_here 0 = .ok (.aload_n 0, 1) := by decide +kernel
theorem dX12_here_1 : decode cX12_here 1 = .ok (.getfield 145, 3) := by decide +kernel
theorem dX12_here_4 : decode cX12_here 4 = .ok (.aload_n 0, 1) := by decide +kernel
theorem dX12_here_5 : decode cX12_here 5 = .ok (.getfield 148, 3) := by decide +kernel
theorem dX12_here_8 : decode cX12_here 8 = .ok (.if_icmp .ge 15, 3) := by decide +kernel
theorem dX12_here_11 : decode cX12_here 11 = .ok (.aload_n 0, 1) := by decide +kernel
theorem dX12_here_12 : decode cX12_here 12 = .ok (.getfield 13, 3) := by decide +kernel
theorem dX12_here_15 : decode cX12_here 15 = .ok (.aload_n 0, 1) := by decide +kernel
theorem dX12_here_16 : decode cX12_here 16 = .ok (.getfield 145, 3) := by decide +kernel
theorem dX12_here_19 : decode cX12_here 19 = .ok (.iaload, 1) := by decide +kernel
theorem dX12_here_20 : decode cX12_here 20 = .ok (.goto 4, 3) := by decide +kernel
theorem dX12_here_23 : decode cX12_here 23 = .ok (.iconst (-1), 1) := by decide +kernel
theorem dX12_here_24 : decode cX12_here 24 = .ok (.ireturn, 1) := by decide +kernel
theorem dX12_must_0 : decode cX12_must 0 = .ok (.aload_n 0, 1) := by decide +kernel
theorem dX12_must_1 : decode cX12_must 1 = .ok (.aload_n 0, 1) := by decide +kernel
theorem dX12_must_2 : decode cX12_must 2 = .ok (.getfield 151, 3) := by decide +kernel
theorem dX12_must_5 : decode cX12_must 5 = .ok (.ifCond .ne 11, 3) := by decide +kernel
theorem dX12_must_8 : decode cX12_must 8 = .ok (.aload_n 0, 1) := by decide +kernel
theorem dX12_must_9 : decode cX12_must 9 = .ok (.invokevirtual 155, 3) := by decide +kernel
theorem dX12_must_12 : decode cX12_must 12 = .ok (.iload_n 1, 1) := by decide +kernel
theorem dX12_must_13 : decode cX12_must 13 = .ok (.if_icmp .eq 7, 3) := by decide +kernel
theorem dX12_must_16 : decode cX12_must 16 = .ok (.iconst 1, 1) := by decide +kernel
theorem dX12_must_17 : decode cX12_must 17 = .ok (.goto 4, 3) := by decide +kernel
theorem dX12_must_20 : decode cX12_must 20 = .ok (.iconst 0, 1) := by decide +kernel
theorem dX12_must_21 : decode cX12_must 21 = .ok (.putfield 151, 3) := by decide +kernel
theorem dX12_must_24 : decode cX12_must 24 = .ok (.aload_n 0, 1) := by decide +kernel
theorem dX12_must_25 : decode cX12_must 25 = .ok (.dup, 1) := by decide +kernel
theorem dX12_must_26 : decode cX12_must 26 = .ok (.getfield 145, 3) := by decide +kernel
theorem dX12_must_29 : decode cX12_must 29 = .ok (.aload_n 0, 1) := by decide +kernel
theorem dX12_must_30 : decode cX12_must 30 = .ok (.getfield 151, 3) := by decide +kernel
theorem dX12_must_33 : decode cX12_must 33 = .ok (.ifCond .eq 7, 3) := by decide +kernel
theorem dX12_must_36 : decode cX12_must 36 = .ok (.iconst 0, 1) := by decide +kernel
theorem dX12_must_37 : decode cX12_must 37 = .ok (.goto 4, 3) := by decide +kernel
theorem dX12_must_40 : decode cX12_must 40 = .ok (.iconst 1, 1) := by decide +kernel
theorem dX12_must_41 : decode cX12_must 41 = .ok (.iadd, 1) := by decide +kernel
theorem dX12_must_42 : decode cX12_must 42 = .ok (.putfield 145, 3) := by decide +kernel
theorem dX12_must_45 : decode cX12_must 45 = .ok (.return_, 1) := by decide +kernel
theorem dX12_part_0 : decode cX12_part 0 = .ok (.aload_n 0, 1) := by decide +kernel
theorem dX12_part_1 : decode cX12_part 1 = .ok (.invokevirtual 155, 3) := by decide +kernel
theorem dX12_part_4 : decode cX12_part 4 = .ok (.istore_n 1, 1) := by decide +kernel
theorem dX12_part_5 : decode cX12_part 5 = .ok (.iload_n 1, 1) := by decide +kernel
theorem dX12_part_6 : decode cX12_part 6 = .ok (.bipush 97, 2) := by decide +kernel
theorem dX12_part_8 : decode cX12_part 8 = .ok (.bipush 122, 2) := by decide +kernel
theorem dX12_part_10 : decode cX12_part 10 = .ok (.invokestatic 123, 3) := by decide +kernel
theorem dX12_part_13 : decode cX12_part 13 = .ok (.ifCond .eq 10, 3) := by decide +kernel
theorem dX12_part_16 : decode cX12_part 16 = .ok (.iload_n 1, 1) := by decide +kernel
theorem dX12_part_17 : decode cX12_part 17 = .ok (.bipush 96, 2) := by decide +kernel
theorem dX12_part_19 : decode cX12_part 19 = .ok (.isub, 1) := by decide +kernel
theorem dX12_part_20 : decode cX12_part 20 = .ok (.goto 26, 3) := by decide +kernel
theorem dX12_part_23 : decode cX12_part 23 = .ok (.iload_n 1, 1) := by decide +kernel
theorem dX12_part_24 : decode cX12_part 24 = .ok (.bipush 86, 2) := by decide +kernel
theorem dX12_part_26 : decode cX12_part 26 = .ok (.if_icmp .ne 8, 3) := by decide +kernel
theorem dX12_part_29 : decode cX12_part 29 = .ok (.bipush 27, 2) := by decide +kernel
theorem dX12_part_31 : decode cX12_part 31 = .ok (.goto 15, 3) := by decide +kernel
theorem dX12_part_34 : decode cX12_part 34 = .ok (.iload_n 1, 1) := by decide +kernel
theorem dX12_part_35 : decode cX12_part 35 = .ok (.bipush 67, 2) := by decide +kernel
theorem dX12_part_37 : decode cX12_part 37 = .ok (.if_icmp .ne 8, 3) := by decide +kernel
theorem dX12_part_40 : decode cX12_part 40 = .ok (.bipush 28, 2) := by decide +kernel
theorem dX12_part_42 : decode cX12_part 42 = .ok (.goto 4, 3) := by decide +kernel
theorem dX12_part_45 : decode cX12_part 45 = .ok (.iconst 0, 1) := by decide +kernel
theorem dX12_part_46 : decode cX12_part 46 = .ok (.istore_n 2, 1) := by decide +kernel
theorem dX12_part_47 : decode cX12_part 47 = .ok (.aload_n 0, 1) := by decide +kernel
theorem dX12_part_48 : decode cX12_part 48 = .ok (.dup, 1) := by decide +kernel
theorem dX12_part_49 : decode cX12_part 49 = .ok (.getfield 145, 3) := by decide +kernel
theorem dX12_part_52 : decode cX12_part 52 = .ok (.iload_n 2, 1) := by decide +kernel
theorem dX12_part_53 : decode cX12_part 53 = .ok (.ifCond .ne 7, 3) := by decide +kernel
theorem dX12_part_56 : decode cX12_part 56 = .ok (.iconst 0, 1) := by decide +kernel
theorem dX12_part_57 : decode cX12_part 57 = .ok (.goto 4, 3) := by decide +kernel
theorem dX12_part_60 : decode cX12_part 60 = .ok (.iconst 1, 1) := by decide +kernel
theorem dX12_part_61 : decode cX12_part 61 = .ok (.iadd, 1) := by decide +kernel
theorem dX12_part_62 : decode cX12_part 62 = .ok (.putfield 145, 3) := by decide +kernel
theorem dX12_part_65 : decode cX12_part 65 = .ok (.iload_n 2, 1) := by decide +kernel
theorem dX12_part_66 : decode cX12_part 66 = .ok (.ireturn, 1) := by decide +kernel
theorem dX12_side_0 : decode cX12_side 0 = .ok (.aload_n 0, 1) := by decide +kernel
theorem dX12_side_1 : decode cX12_side 1 = .ok (.invokevirtual 155, 3) := by decide +kernel
theorem dX12_side_4 : decode cX12_side 4 = .ok (.bipush 35, 2) := by decide +kernel
theorem dX12_side_6 : decode cX12_side 6 = .ok (.if_icmp .ne 16, 3) := by decide +kernel
theorem dX12_side_9 : decode cX12_side 9 = .ok (.aload_n 0, 1) := by decide +kernel
theorem dX12_side_10 : decode cX12_side 10 = .ok (.dup, 1) := by decide +kernel
theorem dX12_side_11 : decode cX12_side 11 = .ok (.getfield 145, 3) := by decide +kernel
theorem dX12_side_14 : decode cX12_side 14 = .ok (.iconst 1, 1) := by decide +kernel
theorem dX12_side_15 : decode cX12_side 15 = .ok (.iadd, 1) := by decide +kernel
theorem dX12_side_16 : decode cX12_side 16 = .ok (.putfield 145, 3) := by decide +kernel
theorem dX12_side_19 : decode cX12_side 19 = .ok (.bipush 29, 2) := by decide +kernel
theorem dX12_side_21 : decode cX12_side 21 = .ok (.ireturn, 1) := by decide +kernel
theorem dX12_side_22 : decode cX12_side 22 = .ok (.aload_n 0, 1) := by decide +kernel
theorem dX12_side_23 : decode cX12_side 23 = .ok (.invokevirtual 159, 3) := by decide +kernel
theorem dX12_side_26 : decode cX12_side 26 = .ok (.ireturn, 1) := by decide +kernel
theorem dX12_reads_0 : decode cX12_reads 0 = .ok (.aload_n 0, 1) := by decide +kernel
theorem dX12_reads_1 : decode cX12_reads 1 = .ok (.getfield 42, 3) := by decide +kernel
theorem dX12_reads_4 : decode cX12_reads 4 = .ok (.iload_n 1, 1) := by decide +kernel
theorem dX12_reads_5 : decode cX12_reads 5 = .ok (.aload_n 0, 1) := by decide +kernel
theorem dX12_reads_6 : decode cX12_reads 6 = .ok (.invokevirtual 159, 3) := by decide +kernel
theorem dX12_reads_9 : decode cX12_reads 9 = .ok (.iastore, 1) := by decide +kernel
theorem dX12_reads_10 : decode cX12_reads 10 = .ok (.aload_n 0, 1) := by decide +kernel
theorem dX12_reads_11 : decode cX12_reads 11 = .ok (.aload_n 0, 1) := by decide +kernel
theorem dX12_reads_12 : decode cX12_reads 12 = .ok (.getfield 42, 3) := by decide +kernel
theorem dX12_reads_15 : decode cX12_reads 15 = .ok (.iload_n 1, 1) := by decide +kernel
theorem dX12_reads_16 : decode cX12_reads 16 = .ok (.iaload, 1) := by decide +kernel
theorem dX12_reads_17 : decode cX12_reads 17 = .ok (.ifCond .ne 7, 3) := by decide +kernel
theorem dX12_reads_20 : decode cX12_reads 20 = .ok (.iconst 1, 1) := by decide +kernel
theorem dX12_reads_21 : decode cX12_reads 21 = .ok (.goto 4, 3) := by decide +kernel
theorem dX12_reads_24 : decode cX12_reads 24 = .ok (.iconst 0, 1) := by decide +kernel
theorem dX12_reads_25 : decode cX12_reads 25 = .ok (.putfield 151, 3) := by decide +kernel
theorem dX12_reads_28 : decode cX12_reads 28 = .ok (.aload_n 0, 1) := by decide +kernel
theorem dX12_reads_29 : decode cX12_reads 29 = .ok (.bipush 62, 2) := by decide +kernel
theorem dX12_reads_31 : decode cX12_reads 31 = .ok (.invokevirtual 162, 3) := by decide +kernel
theorem dX12_reads_34 : decode cX12_reads 34 = .ok (.aload_n 0, 1) := by decide +kernel
theorem dX12_reads_35 : decode cX12_reads 35 = .ok (.invokevirtual 155, 3) := by decide +kernel
theorem dX12_reads_38 : decode cX12_reads 38 = .ok (.istore_n 2, 1) := by decide +kernel
theorem dX12_reads_39 : decode cX12_reads 39 = .ok (.aload_n 0, 1) := by decide +kernel
theorem dX12_reads_40 : decode cX12_reads 40 = .ok (.aload_n 0, 1) := by decide +kernel
theorem dX12_reads_41 : decode cX12_reads 41 = .ok (.getfield 151, 3) := by decide +kernel
theorem dX12_reads_44 : decode cX12_reads 44 = .ok (.ifCond .ne 20, 3) := by decide +kernel
theorem dX12_reads_47 : decode cX12_reads 47 = .ok (.iload_n 2, 1) := by decide +kernel
theorem dX12_reads_48 : decode cX12_reads 48 = .ok (.bipush 97, 2) := by decide +kernel
theorem dX12_reads_50 : decode cX12_reads 50 = .ok (.bipush 122, 2) := by decide +kernel
theorem dX12_reads_52 : decode cX12_reads 52 = .ok (.invokestatic 123, 3) := by decide +kernel
theorem dX12_reads_55 : decode cX12_reads 55 = .ok (.ifCond .ne 13, 3) := by decide +kernel
theorem dX12_reads_58 : decode cX12_reads 58 = .ok (.iload_n 2, 1) := by decide +kernel
theorem dX12_reads_59 : decode cX12_reads 59 = .ok (.bipush 48, 2) := by decide +kernel
theorem dX12_reads_61 : decode cX12_reads 61 = .ok (.if_icmp .eq 7, 3) := by decide +kernel
theorem dX12_reads_64 : decode cX12_reads 64 = .ok (.iconst 1, 1) := by decide +kernel
theorem dX12_reads_65 : decode cX12_reads 65 = .ok (.goto 4, 3) := by decide +kernel
theorem dX12_reads_68 : decode cX12_reads 68 = .ok (.iconst 0, 1) := by decide +kernel
theorem dX12_reads_69 : decode cX12_reads 69 = .ok (.putfield 151, 3) := by decide +kernel
theorem dX12_reads_72 : decode cX12_reads 72 = .ok (.aload_n 0, 1) := by decide +kernel
theorem dX12_reads_73 : decode cX12_reads 73 = .ok (.getfield 45, 3) := by decide +kernel
theorem dX12_reads_76 : decode cX12_reads 76 = .ok (.iload_n 1, 1) := by decide +kernel
theorem dX12_reads_77 : decode cX12_reads 77 = .ok (.iload_n 2, 1) := by decide +kernel
theorem dX12_reads_78 : decode cX12_reads 78 = .ok (.bipush 48, 2) := by decide +kernel
theorem dX12_reads_80 : decode cX12_reads 80 = .ok (.if_icmp .ne 7, 3) := by decide +kernel
theorem dX12_reads_83 : decode cX12_reads 83 = .ok (.iconst 0, 1) := by decide +kernel
theorem dX12_reads_84 : decode cX12_reads 84 = .ok (.goto 7, 3) := by decide +kernel
theorem dX12_reads_87 : decode cX12_reads 87 = .ok (.iload_n 2, 1) := by decide +kernel
theorem dX12_reads_88 : decode cX12_reads 88 = .ok (.bipush 96, 2) := by decide +kernel
theorem dX12_reads_90 : decode cX12_reads 90 = .ok (.isub, 1) := by decide +kernel
theorem dX12_reads_91 : decode cX12_reads 91 = .ok (.iastore, 1) := by decide +kernel
theorem dX12_reads_92 : decode cX12_reads 92 = .ok (.aload_n 0, 1) := by decide +kernel
theorem dX12_reads_93 : decode cX12_reads 93 = .ok (.dup, 1) := by decide +kernel
theorem dX12_reads_94 : decode cX12_reads 94 = .ok (.getfield 145, 3) := by decide +kernel
theorem dX12_reads_97 : decode cX12_reads 97 = .ok (.aload_n 0, 1) := by decide +kernel
theorem dX12_reads_98 : decode cX12_reads 98 = .ok (.getfield 151, 3) := by decide +kernel
theorem dX12_reads_101 : decode cX12_reads 101 = .ok (.ifCond .eq 7, 3) := by decide +kernel
theorem dX12_reads_104 : decode cX12_reads 104 = .ok (.iconst 0, 1) := by decide +kernel
theorem dX12_reads_105 : decode cX12_reads 105 = .ok (.goto 4, 3) := by decide +kernel
theorem dX12_reads_108 : decode cX12_reads 108 = .ok (.iconst 1, 1) := by decide +kernel
theorem dX12_reads_109 : decode cX12_reads 109 = .ok (.iadd, 1) := by decide +kernel
theorem dX12_reads_110 : decode cX12_reads 110 = .ok (.putfield 145, 3) := by decide +kernel
theorem dX12_reads_113 : decode cX12_reads 113 = .ok (.aload_n 0, 1) := by decide +kernel
theorem dX12_reads_114 : decode cX12_reads 114 = .ok (.getfield 48, 3) := by decide +kernel
theorem dX12_reads_117 : decode cX12_reads 117 = .ok (.iload_n 1, 1) := by decide +kernel
theorem dX12_reads_118 : decode cX12_reads 118 = .ok (.iconst 0, 1) := by decide +kernel
theorem dX12_reads_119 : decode cX12_reads 119 = .ok (.iastore, 1) := by decide +kernel
theorem dX12_reads_120 : decode cX12_reads 120 = .ok (.aload_n 0, 1) := by decide +kernel
theorem dX12_reads_121 : decode cX12_reads 121 = .ok (.getfield 51, 3) := by decide +kernel
theorem dX12_reads_124 : decode cX12_reads 124 = .ok (.iload_n 1, 1) := by decide +kernel
theorem dX12_reads_125 : decode cX12_reads 125 = .ok (.iconst 0, 1) := by decide +kernel
theorem dX12_reads_126 : decode cX12_reads 126 = .ok (.iastore, 1) := by decide +kernel
theorem dX12_reads_127 : decode cX12_reads 127 = .ok (.aload_n 0, 1) := by decide +kernel
theorem dX12_reads_128 : decode cX12_reads 128 = .ok (.getfield 151, 3) := by decide +kernel
theorem dX12_reads_131 : decode cX12_reads 131 = .ok (.ifCond .ne 59, 3) := by decide +kernel
theorem dX12_reads_134 : decode cX12_reads 134 = .ok (.aload_n 0, 1) := by decide +kernel
theorem dX12_reads_135 : decode cX12_reads 135 = .ok (.invokevirtual 155, 3) := by decide +kernel
theorem dX12_reads_138 : decode cX12_reads 138 = .ok (.bipush 47, 2) := by decide +kernel
theorem dX12_reads_140 : decode cX12_reads 140 = .ok (.if_icmp .ne 50, 3) := by decide +kernel
theorem dX12_reads_143 : decode cX12_reads 143 = .ok (.aload_n 0, 1) := by decide +kernel
theorem dX12_reads_144 : decode cX12_reads 144 = .ok (.dup, 1) := by decide +kernel
theorem dX12_reads_145 : decode cX12_reads 145 = .ok (.getfield 145, 3) := by decide +kernel
theorem dX12_reads_148 : decode cX12_reads 148 = .ok (.iconst 1, 1) := by decide +kernel
theorem dX12_reads_149 : decode cX12_reads 149 = .ok (.iadd, 1) := by decide +kernel
theorem dX12_reads_150 : decode cX12_reads 150 = .ok (.putfield 145, 3) := by decide +kernel
theorem dX12_reads_153 : decode cX12_reads 153 = .ok (.aload_n 0, 1) := by decide +kernel
theorem dX12_reads_154 : decode cX12_reads 154 = .ok (.getfield 48, 3) := by decide +kernel
theorem dX12_reads_157 : decode cX12_reads 157 = .ok (.iload_n 1, 1) := by decide +kernel
theorem dX12_reads_158 : decode cX12_reads 158 = .ok (.aload_n 0, 1) := by decide +kernel
theorem dX12_reads_159 : decode cX12_reads 159 = .ok (.invokevirtual 166, 3) := by decide +kernel
theorem dX12_reads_162 : decode cX12_reads 162 = .ok (.iastore, 1) := by decide +kernel
theorem dX12_reads_163 : decode cX12_reads 163 = .ok (.aload_n 0, 1) := by decide +kernel
theorem dX12_reads_164 : decode cX12_reads 164 = .ok (.bipush 95, 2) := by decide +kernel
theorem dX12_reads_166 : decode cX12_reads 166 = .ok (.invokevirtual 162, 3) := by decide +kernel
theorem dX12_reads_169 : decode cX12_reads 169 = .ok (.aload_n 0, 1) := by decide +kernel
theorem dX12_reads_170 : decode cX12_reads 170 = .ok (.getfield 51, 3) := by decide +kernel
theorem dX12_reads_173 : decode cX12_reads 173 = .ok (.iload_n 1, 1) := by decide +kernel
theorem dX12_reads_174 : decode cX12_reads 174 = .ok (.aload_n 0, 1) := by decide +kernel
theorem dX12_reads_175 : decode cX12_reads 175 = .ok (.getfield 151, 3) := by decide +kernel
theorem dX12_reads_178 : decode cX12_reads 178 = .ok (.ifCond .eq 7, 3) := by decide +kernel
theorem dX12_reads_181 : decode cX12_reads 181 = .ok (.iconst 0, 1) := by decide +kernel
theorem dX12_reads_182 : decode cX12_reads 182 = .ok (.goto 7, 3) := by decide +kernel
theorem dX12_reads_185 : decode cX12_reads 185 = .ok (.aload_n 0, 1) := by decide +kernel
theorem dX12_reads_186 : decode cX12_reads 186 = .ok (.invokevirtual 166, 3) := by decide +kernel
theorem dX12_reads_189 : decode cX12_reads 189 = .ok (.iastore, 1) := by decide +kernel
theorem dX12_reads_190 : decode cX12_reads 190 = .ok (.return_, 1) := by decide +kernel
theorem dX12_law_0 : decode cX12_law 0 = .ok (.aload_n 0, 1) := by decide +kernel
theorem dX12_law_1 : decode cX12_law 1 = .ok (.getfield 127, 3) := by decide +kernel
theorem dX12_law_4 : decode cX12_law 4 = .ok (.bipush 12, 2) := by decide +kernel
theorem dX12_law_6 : decode cX12_law 6 = .ok (.if_icmp .ne 6, 3) := by decide +kernel
theorem dX12_law_9 : decode cX12_law 9 = .ok (.bipush (-4), 2) := by decide +kernel
theorem dX12_law_11 : decode cX12_law 11 = .ok (.ireturn, 1) := by decide +kernel
theorem dX12_law_12 : decode cX12_law 12 = .ok (.aload_n 0, 1) := by decide +kernel
theorem dX12_law_13 : decode cX12_law 13 = .ok (.aload_n 0, 1) := by decide +kernel
theorem dX12_law_14 : decode cX12_law 14 = .ok (.getfield 140, 3) := by decide +kernel
theorem dX12_law_17 : decode cX12_law 17 = .ok (.putfield 148, 3) := by decide +kernel
theorem dX12_law_20 : decode cX12_law 20 = .ok (.aload_n 0, 1) := by decide +kernel
theorem dX12_law_21 : decode cX12_law 21 = .ok (.iconst 0, 1) := by decide +kernel
theorem dX12_law_22 : decode cX12_law 22 = .ok (.putfield 140, 3) := by decide +kernel
theorem dX12_law_25 : decode cX12_law 25 = .ok (.aload_n 0, 1) := by decide +kernel
theorem dX12_law_26 : decode cX12_law 26 = .ok (.iconst 0, 1) := by decide +kernel
theorem dX12_law_27 : decode cX12_law 27 = .ok (.putfield 145, 3) := by decide +kernel
theorem dX12_law_30 : decode cX12_law 30 = .ok (.aload_n 0, 1) := by decide +kernel
theorem dX12_law_31 : decode cX12_law 31 = .ok (.iconst 0, 1) := by decide +kernel
theorem dX12_law_32 : decode cX12_law 32 = .ok (.putfield 151, 3) := by decide +kernel
theorem dX12_law_35 : decode cX12_law 35 = .ok (.iconst 0, 1) := by decide +kernel
theorem dX12_law_36 : decode cX12_law 36 = .ok (.istore_n 1, 1) := by decide +kernel
theorem dX12_law_37 : decode cX12_law 37 = .ok (.aload_n 0, 1) := by decide +kernel
theorem dX12_law_38 : decode cX12_law 38 = .ok (.bipush 6, 2) := by decide +kernel
theorem dX12_law_40 : decode cX12_law 40 = .ok (.aload_n 0, 1) := by decide +kernel
theorem dX12_law_41 : decode cX12_law 41 = .ok (.getfield 127, 3) := by decide +kernel
theorem dX12_law_44 : decode cX12_law 44 = .ok (.imul, 1) := by decide +kernel
theorem dX12_law_45 : decode cX12_law 45 = .ok (.invokevirtual 169, 3) := by decide +kernel
theorem dX12_law_48 : decode cX12_law 48 = .ok (.iinc 1 1, 3) := by decide +kernel
theorem dX12_law_51 : decode cX12_law 51 = .ok (.aload_n 0, 1) := by decide +kernel
theorem dX12_law_52 : decode cX12_law 52 = .ok (.getfield 151, 3) := by decide +kernel
theorem dX12_law_55 : decode cX12_law 55 = .ok (.ifCond .ne 47, 3) := by decide +kernel
theorem dX12_law_58 : decode cX12_law 58 = .ok (.iload_n 1, 1) := by decide +kernel
theorem dX12_law_59 : decode cX12_law 59 = .ok (.bipush 6, 2) := by decide +kernel
theorem dX12_law_61 : decode cX12_law 61 = .ok (.if_icmp .ge 41, 3) := by decide +kernel
theorem dX12_law_64 : decode cX12_law 64 = .ok (.aload_n 0, 1) := by decide +kernel
theorem dX12_law_65 : decode cX12_law 65 = .ok (.invokevirtual 155, 3) := by decide +kernel
theorem dX12_law_68 : decode cX12_law 68 = .ok (.bipush 44, 2) := by decide +kernel
theorem dX12_law_70 : decode cX12_law 70 = .ok (.if_icmp .ne 32, 3) := by decide +kernel
theorem dX12_law_73 : decode cX12_law 73 = .ok (.aload_n 0, 1) := by decide +kernel
theorem dX12_law_74 : decode cX12_law 74 = .ok (.dup, 1) := by decide +kernel
theorem dX12_law_75 : decode cX12_law 75 = .ok (.getfield 145, 3) := by decide +kernel
theorem dX12_law_78 : decode cX12_law 78 = .ok (.iconst 1, 1) := by decide +kernel
theorem dX12_law_79 : decode cX12_law 79 = .ok (.iadd, 1) := by decide +kernel
theorem dX12_law_80 : decode cX12_law 80 = .ok (.putfield 145, 3) := by decide +kernel
theorem dX12_law_83 : decode cX12_law 83 = .ok (.aload_n 0, 1) := by decide +kernel
theorem dX12_law_84 : decode cX12_law 84 = .ok (.bipush 6, 2) := by decide +kernel
theorem dX12_law_86 : decode cX12_law 86 = .ok (.aload_n 0, 1) := by decide +kernel
theorem dX12_law_87 : decode cX12_law 87 = .ok (.getfield 127, 3) := by decide +kernel
theorem dX12_law_90 : decode cX12_law 90 = .ok (.imul, 1) := by decide +kernel
theorem dX12_law_91 : decode cX12_law 91 = .ok (.iload_n 1, 1) := by decide +kernel
theorem dX12_law_92 : decode cX12_law 92 = .ok (.iadd, 1) := by decide +kernel
theorem dX12_law_93 : decode cX12_law 93 = .ok (.invokevirtual 169, 3) := by decide +kernel
theorem dX12_law_96 : decode cX12_law 96 = .ok (.iinc 1 1, 3) := by decide +kernel
theorem dX12_law_99 : decode cX12_law 99 = .ok (.goto (-48), 3) := by decide +kernel
theorem dX12_law_102 : decode cX12_law 102 = .ok (.aload_n 0, 1) := by decide +kernel
theorem dX12_law_103 : decode cX12_law 103 = .ok (.getfield 151, 3) := by decide +kernel
theorem dX12_law_106 : decode cX12_law 106 = .ok (.ifCond .ne 14, 3) := by decide +kernel
theorem dX12_law_109 : decode cX12_law 109 = .ok (.aload_n 0, 1) := by decide +kernel
theorem dX12_law_110 : decode cX12_law 110 = .ok (.getfield 145, 3) := by decide +kernel
theorem dX12_law_113 : decode cX12_law 113 = .ok (.aload_n 0, 1) := by decide +kernel
theorem dX12_law_114 : decode cX12_law 114 = .ok (.getfield 148, 3) := by decide +kernel
theorem dX12_law_117 : decode cX12_law 117 = .ok (.if_icmp .eq 11, 3) := by decide +kernel
theorem dX12_law_120 : decode cX12_law 120 = .ok (.bipush (-10), 2) := by decide +kernel
theorem dX12_law_122 : decode cX12_law 122 = .ok (.aload_n 0, 1) := by decide +kernel
theorem dX12_law_123 : decode cX12_law 123 = .ok (.getfield 145, 3) := by decide +kernel
theorem dX12_law_126 : decode cX12_law 126 = .ok (.isub, 1) := by decide +kernel
theorem dX12_law_127 : decode cX12_law 127 = .ok (.ireturn, 1) := by decide +kernel
theorem dX12_law_128 : decode cX12_law 128 = .ok (.aload_n 0, 1) := by decide +kernel
theorem dX12_law_129 : decode cX12_law 129 = .ok (.getfield 39, 3) := by decide +kernel
theorem dX12_law_132 : decode cX12_law 132 = .ok (.aload_n 0, 1) := by decide +kernel
theorem dX12_law_133 : decode cX12_law 133 = .ok (.getfield 127, 3) := by decide +kernel
theorem dX12_law_136 : decode cX12_law 136 = .ok (.iload_n 1, 1) := by decide +kernel
theorem dX12_law_137 : decode cX12_law 137 = .ok (.iastore, 1) := by decide +kernel
theorem dX12_law_138 : decode cX12_law 138 = .ok (.aload_n 0, 1) := by decide +kernel
theorem dX12_law_139 : decode cX12_law 139 = .ok (.dup, 1) := by decide +kernel
theorem dX12_law_140 : decode cX12_law 140 = .ok (.getfield 127, 3) := by decide +kernel
theorem dX12_law_143 : decode cX12_law 143 = .ok (.iconst 1, 1) := by decide +kernel
theorem dX12_law_144 : decode cX12_law 144 = .ok (.iadd, 1) := by decide +kernel
theorem dX12_law_145 : decode cX12_law 145 = .ok (.putfield 127, 3) := by decide +kernel
theorem dX12_law_148 : decode cX12_law 148 = .ok (.aload_n 0, 1) := by decide +kernel
theorem dX12_law_149 : decode cX12_law 149 = .ok (.getfield 127, 3) := by decide +kernel
theorem dX12_law_152 : decode cX12_law 152 = .ok (.iconst 1, 1) := by decide +kernel
theorem dX12_law_153 : decode cX12_law 153 = .ok (.isub, 1) := by decide +kernel
theorem dX12_law_154 : decode cX12_law 154 = .ok (.ireturn, 1) := by decide +kernel
theorem dX12_isVowel_0 : decode cX12_isVowel 0 = .ok (.iload_n 0, 1) := by decide +kernel
theorem dX12_isVowel_1 : decode cX12_isVowel 1 = .ok (.iconst 1, 1) := by decide +kernel
theorem dX12_isVowel_2 : decode cX12_isVowel 2 = .ok (.if_icmp .eq 26, 3) := by decide +kernel
theorem dX12_isVowel_5 : decode cX12_isVowel 5 = .ok (.iload_n 0, 1) := by decide +kernel
theorem dX12_isVowel_6 : decode cX12_isVowel 6 = .ok (.iconst 5, 1) := by decide +kernel
theorem dX12_isVowel_7 : decode cX12_isVowel 7 = .ok (.if_icmp .eq 21, 3) := by decide +kernel
theorem dX12_isVowel_10 : decode cX12_isVowel 10 = .ok (.iload_n 0, 1) := by decide +kernel
theorem dX12_isVowel_11 : decode cX12_isVowel 11 = .ok (.bipush 9, 2) := by decide +kernel
theorem dX12_isVowel_13 : decode cX12_isVowel 13 = .ok (.if_icmp .eq 15, 3) := by decide +kernel
theorem dX12_isVowel_16 : decode cX12_isVowel 16 = .ok (.iload_n 0, 1) := by decide +kernel
theorem dX12_isVowel_17 : decode cX12_isVowel 17 = .ok (.bipush 15, 2) := by decide +kernel
theorem dX12_isVowel_19 : decode cX12_isVowel 19 = .ok (.if_icmp .eq 9, 3) := by decide +kernel
theorem dX12_isVowel_22 : decode cX12_isVowel 22 = .ok (.iload_n 0, 1) := by decide +kernel
theorem dX12_isVowel_23 : decode cX12_isVowel 23 = .ok (.bipush 21, 2) := by decide +kernel
theorem dX12_isVowel_25 : decode cX12_isVowel 25 = .ok (.if_icmp .ne 7, 3) := by decide +kernel
theorem dX12_isVowel_28 : decode cX12_isVowel 28 = .ok (.iconst 1, 1) := by decide +kernel
theorem dX12_isVowel_29 : decode cX12_isVowel 29 = .ok (.goto 4, 3) := by decide +kernel
theorem dX12_isVowel_32 : decode cX12_isVowel 32 = .ok (.iconst 0, 1) := by decide +kernel
theorem dX12_isVowel_33 : decode cX12_isVowel 33 = .ok (.ireturn, 1) := by decide +kernel
theorem dX12_isAs_0 : decode cX12_isAs 0 = .ok (.iload_n 0, 1) := by decide +kernel
theorem dX12_isAs_1 : decode cX12_isAs 1 = .ok (.iload_n 1, 1) := by decide +kernel
theorem dX12_isAs_2 : decode cX12_isAs 2 = .ok (.if_icmp .eq 29, 3) := by decide +kernel
theorem dX12_isAs_5 : decode cX12_isAs 5 = .ok (.iload_n 0, 1) := by decide +kernel
theorem dX12_isAs_6 : decode cX12_isAs 6 = .ok (.bipush 27, 2) := by decide +kernel
theorem dX12_isAs_8 : decode cX12_isAs 8 = .ok (.if_icmp .ne 10, 3) := by decide +kernel
theorem dX12_isAs_11 : decode cX12_isAs 11 = .ok (.iload_n 1, 1) := by decide +kernel
theorem dX12_isAs_12 : decode cX12_isAs 12 = .ok (.invokestatic 172, 3) := by decide +kernel
theorem dX12_isAs_15 : decode cX12_isAs 15 = .ok (.ifCond .ne 16, 3) := by decide +kernel
theorem dX12_isAs_18 : decode cX12_isAs 18 = .ok (.iload_n 0, 1) := by decide +kernel
theorem dX12_isAs_19 : decode cX12_isAs 19 = .ok (.bipush 28, 2) := by decide +kernel
theorem dX12_isAs_21 : decode cX12_isAs 21 = .ok (.if_icmp .ne 14, 3) := by decide +kernel
theorem dX12_isAs_24 : decode cX12_isAs 24 = .ok (.iload_n 1, 1) := by decide +kernel
theorem dX12_isAs_25 : decode cX12_isAs 25 = .ok (.invokestatic 172, 3) := by decide +kernel
theorem dX12_isAs_28 : decode cX12_isAs 28 = .ok (.ifCond .ne 7, 3) := by decide +kernel
theorem dX12_isAs_31 : decode cX12_isAs 31 = .ok (.iconst 1, 1) := by decide +kernel
theorem dX12_isAs_32 : decode cX12_isAs 32 = .ok (.goto 4, 3) := by decide +kernel
theorem dX12_isAs_35 : decode cX12_isAs 35 = .ok (.iconst 0, 1) := by decide +kernel
theorem dX12_isAs_36 : decode cX12_isAs 36 = .ok (.ireturn, 1) := by decide +kernel
theorem dX12_stands_0 : decode cX12_stands 0 = .ok (.iload_n 2, 1) := by decide +kernel
theorem dX12_stands_1 : decode cX12_stands 1 = .ok (.iconst 0, 1) := by decide +kernel
theorem dX12_stands_2 : decode cX12_stands 2 = .ok (.aload_n 0, 1) := by decide +kernel
theorem dX12_stands_3 : decode cX12_stands 3 = .ok (.getfield 175, 3) := by decide +kernel
theorem dX12_stands_6 : decode cX12_stands 6 = .ok (.iconst 1, 1) := by decide +kernel
theorem dX12_stands_7 : decode cX12_stands 7 = .ok (.isub, 1) := by decide +kernel
theorem dX12_stands_8 : decode cX12_stands 8 = .ok (.invokestatic 123, 3) := by decide +kernel
theorem dX12_stands_11 : decode cX12_stands 11 = .ok (.istore_n 3, 1) := by decide +kernel
theorem dX12_stands_12 : decode cX12_stands 12 = .ok (.iload_n 1, 1) := by decide +kernel
theorem dX12_stands_13 : decode cX12_stands 13 = .ok (.ifCond .eq 33, 3) := by decide +kernel
theorem dX12_stands_16 : decode cX12_stands 16 = .ok (.iload_n 1, 1) := by decide +kernel
theorem dX12_stands_17 : decode cX12_stands 17 = .ok (.bipush 29, 2) := by decide +kernel
theorem dX12_stands_19 : decode cX12_stands 19 = .ok (.if_icmp .ne 10, 3) := by decide +kernel
theorem dX12_stands_22 : decode cX12_stands 22 = .ok (.iload_n 3, 1) := by decide +kernel
theorem dX12_stands_23 : decode cX12_stands 23 = .ok (.ifCond .ne 27, 3) := by decide +kernel
theorem dX12_stands_26 : decode cX12_stands 26 = .ok (.goto 20, 3) := by decide +kernel
theorem dX12_stands_29 : decode cX12_stands 29 = .ok (.iload_n 3, 1) := by decide +kernel
theorem dX12_stands_30 : decode cX12_stands 30 = .ok (.ifCond .eq 20, 3) := by decide +kernel
theorem dX12_stands_33 : decode cX12_stands 33 = .ok (.iload_n 1, 1) := by decide +kernel
theorem dX12_stands_34 : decode cX12_stands 34 = .ok (.aload_n 0, 1) := by decide +kernel
theorem dX12_stands_35 : decode cX12_stands 35 = .ok (.getfield 78, 3) := by decide +kernel
theorem dX12_stands_38 : decode cX12_stands 38 = .ok (.iload_n 2, 1) := by decide +kernel
theorem dX12_stands_39 : decode cX12_stands 39 = .ok (.iaload, 1) := by decide +kernel
theorem dX12_stands_40 : decode cX12_stands 40 = .ok (.invokestatic 178, 3) := by decide +kernel
theorem dX12_stands_43 : decode cX12_stands 43 = .ok (.ifCond .eq 7, 3) := by decide +kernel
theorem dX12_stands_46 : decode cX12_stands 46 = .ok (.iconst 1, 1) := by decide +kernel
theorem dX12_stands_47 : decode cX12_stands 47 = .ok (.goto 4, 3) := by decide +kernel
theorem dX12_stands_50 : decode cX12_stands 50 = .ok (.iconst 0, 1) := by decide +kernel
theorem dX12_stands_51 : decode cX12_stands 51 = .ok (.ireturn, 1) := by decide +kernel
theorem dX12_changeOf_0 : decode cX12_changeOf 0 = .ok (.bipush 6, 2) := by decide +kernel
theorem dX12_changeOf_2 : decode cX12_changeOf 2 = .ok (.iload_n 1, 1) := by decide +kernel
theorem dX12_changeOf_3 : decode cX12_changeOf 3 = .ok (.imul, 1) := by decide +kernel
theorem dX12_changeOf_4 : decode cX12_changeOf 4 = .ok (.istore_n 3, 1) := by decide +kernel
theorem dX12_changeOf_5 : decode cX12_changeOf 5 = .ok (.iload_n 3, 1) := by decide +kernel
theorem dX12_changeOf_6 : decode cX12_changeOf 6 = .ok (.bipush 6, 2) := by decide +kernel
theorem dX12_changeOf_8 : decode cX12_changeOf 8 = .ok (.iload_n 1, 1) := by decide +kernel
theorem dX12_changeOf_9 : decode cX12_changeOf 9 = .ok (.imul, 1) := by decide +kernel
theorem dX12_changeOf_10 : decode cX12_changeOf 10 = .ok (.aload_n 0, 1) := by decide +kernel
theorem dX12_changeOf_11 : decode cX12_changeOf 11 = .ok (.getfield 39, 3) := by decide +kernel
theorem dX12_changeOf_14 : decode cX12_changeOf 14 = .ok (.iload_n 1, 1) := by decide +kernel
theorem dX12_changeOf_15 : decode cX12_changeOf 15 = .ok (.iaload, 1) := by decide +kernel
theorem dX12_changeOf_16 : decode cX12_changeOf 16 = .ok (.iadd, 1) := by decide +kernel
theorem dX12_changeOf_17 : decode cX12_changeOf 17 = .ok (.if_icmp .ge 61, 3) := by decide +kernel
theorem dX12_changeOf_20 : decode cX12_changeOf 20 = .ok (.aload_n 0, 1) := by decide +kernel
theorem dX12_changeOf_21 : decode cX12_changeOf 21 = .ok (.getfield 42, 3) := by decide +kernel
theorem dX12_changeOf_24 : decode cX12_changeOf 24 = .ok (.iload_n 3, 1) := by decide +kernel
theorem dX12_changeOf_25 : decode cX12_changeOf 25 = .ok (.iaload, 1) := by decide +kernel
theorem dX12_changeOf_26 : decode cX12_changeOf 26 = .ok (.aload_n 0, 1) := by decide +kernel
theorem dX12_changeOf_27 : decode cX12_changeOf 27 = .ok (.getfield 78, 3) := by decide +kernel
theorem dX12_changeOf_30 : decode cX12_changeOf 30 = .ok (.iload_n 2, 1) := by decide +kernel
theorem dX12_changeOf_31 : decode cX12_changeOf 31 = .ok (.iaload, 1) := by decide +kernel
theorem dX12_changeOf_32 : decode cX12_changeOf 32 = .ok (.invokestatic 178, 3) := by decide +kernel
theorem dX12_changeOf_35 : decode cX12_changeOf 35 = .ok (.ifCond .eq 37, 3) := by decide +kernel
theorem dX12_changeOf_38 : decode cX12_changeOf 38 = .ok (.aload_n 0, 1) := by decide +kernel
theorem dX12_changeOf_39 : decode cX12_changeOf 39 = .ok (.aload_n 0, 1) := by decide +kernel
theorem dX12_changeOf_40 : decode cX12_changeOf 40 = .ok (.getfield 48, 3) := by decide +kernel
theorem dX12_changeOf_43 : decode cX12_changeOf 43 = .ok (.iload_n 3, 1) := by decide +kernel
theorem dX12_changeOf_44 : decode cX12_changeOf 44 = .ok (.iaload, 1) := by decide +kernel
theorem dX12_changeOf_45 : decode cX12_changeOf 45 = .ok (.iload_n 2, 1) := by decide +kernel
theorem dX12_changeOf_46 : decode cX12_changeOf 46 = .ok (.iconst 1, 1) := by decide +kernel
theorem dX12_changeOf_47 : decode cX12_changeOf 47 = .ok (.isub, 1) := by decide +kernel
theorem dX12_changeOf_48 : decode cX12_changeOf 48 = .ok (.invokevirtual 182, 3) := by decide +kernel
theorem dX12_changeOf_51 : decode cX12_changeOf 51 = .ok (.ifCond .eq 21, 3) := by decide +kernel
theorem dX12_changeOf_54 : decode cX12_changeOf 54 = .ok (.aload_n 0, 1) := by decide +kernel
theorem dX12_changeOf_55 : decode cX12_changeOf 55 = .ok (.aload_n 0, 1) := by decide +kernel
theorem dX12_changeOf_56 : decode cX12_changeOf 56 = .ok (.getfield 51, 3) := by decide +kernel
theorem dX12_changeOf_59 : decode cX12_changeOf 59 = .ok (.iload_n 3, 1) := by decide +kernel
theorem dX12_changeOf_60 : decode cX12_changeOf 60 = .ok (.iaload, 1) := by decide +kernel
theorem dX12_changeOf_61 : decode cX12_changeOf 61 = .ok (.iload_n 2, 1) := by decide +kernel
theorem dX12_changeOf_62 : decode cX12_changeOf 62 = .ok (.iconst 1, 1) := by decide +kernel
theorem dX12_changeOf_63 : decode cX12_changeOf 63 = .ok (.iadd, 1) := by decide +kernel
theorem dX12_changeOf_64 : decode cX12_changeOf 64 = .ok (.invokevirtual 182, 3) := by decide +kernel
theorem dX12_changeOf_67 : decode cX12_changeOf 67 = .ok (.ifCond .eq 5, 3) := by decide +kernel
theorem dX12_changeOf_70 : decode cX12_changeOf 70 = .ok (.iload_n 3, 1) := by decide +kernel
theorem dX12_changeOf_71 : decode cX12_changeOf 71 = .ok (.ireturn, 1) := by decide +kernel
theorem dX12_changeOf_72 : decode cX12_changeOf 72 = .ok (.iinc 3 1, 3) := by decide +kernel
theorem dX12_changeOf_75 : decode cX12_changeOf 75 = .ok (.goto (-70), 3) := by decide +kernel
theorem dX12_changeOf_78 : decode cX12_changeOf 78 = .ok (.iconst (-1), 1) := by decide +kernel
theorem dX12_changeOf_79 : decode cX12_changeOf 79 = .ok (.ireturn, 1) := by decide +kernel
theorem dX12_applies_0 : decode cX12_applies 0 = .ok (.iconst 0, 1) := by decide +kernel
theorem dX12_applies_1 : decode cX12_applies 1 = .ok (.istore_n 2, 1) := by decide +kernel
theorem dX12_applies_2 : decode cX12_applies 2 = .ok (.iload_n 2, 1) := by decide +kernel
theorem dX12_applies_3 : decode cX12_applies 3 = .ok (.aload_n 0, 1) := by decide +kernel
theorem dX12_applies_4 : decode cX12_applies 4 = .ok (.getfield 175, 3) := by decide +kernel
theorem dX12_applies_7 : decode cX12_applies 7 = .ok (.if_icmp .ge 21, 3) := by decide +kernel
theorem dX12_applies_10 : decode cX12_applies 10 = .ok (.aload_n 0, 1) := by decide +kernel
theorem dX12_applies_11 : decode cX12_applies 11 = .ok (.getfield 78, 3) := by decide +kernel
theorem dX12_applies_14 : decode cX12_applies 14 = .ok (.iload_n 2, 1) := by decide +kernel
theorem dX12_applies_15 : decode cX12_applies 15 = .ok (.aload_n 0, 1) := by decide +kernel
theorem dX12_applies_16 : decode cX12_applies 16 = .ok (.getfield 75, 3) := by decide +kernel
theorem dX12_applies_19 : decode cX12_applies 19 = .ok (.iload_n 2, 1) := by decide +kernel
theorem dX12_applies_20 : decode cX12_applies 20 = .ok (.iaload, 1) := by decide +kernel
theorem dX12_applies_21 : decode cX12_applies 21 = .ok (.iastore, 1) := by decide +kernel
theorem dX12_applies_22 : decode cX12_applies 22 = .ok (.iinc 2 1, 3) := by decide +kernel
theorem dX12_applies_25 : decode cX12_applies 25 = .ok (.goto (-23), 3) := by decide +kernel
theorem dX12_applies_28 : decode cX12_applies 28 = .ok (.iconst 0, 1) := by decide +kernel
theorem dX12_applies_29 : decode cX12_applies 29 = .ok (.istore_n 2, 1) := by decide +kernel
theorem dX12_applies_30 : decode cX12_applies 30 = .ok (.iconst 0, 1) := by decide +kernel
theorem dX12_applies_31 : decode cX12_applies 31 = .ok (.istore_n 3, 1) := by decide +kernel
theorem dX12_applies_32 : decode cX12_applies 32 = .ok (.iload_n 3, 1) := by decide +kernel
theorem dX12_applies_33 : decode cX12_applies 33 = .ok (.aload_n 0, 1) := by decide +kernel
theorem dX12_applies_34 : decode cX12_applies 34 = .ok (.getfield 175, 3) := by decide +kernel
theorem dX12_applies_37 : decode cX12_applies 37 = .ok (.if_icmp .ge 57, 3) := by decide +kernel
theorem dX12_applies_40 : decode cX12_applies 40 = .ok (.aload_n 0, 1) := by decide +kernel
theorem dX12_applies_41 : decode cX12_applies 41 = .ok (.iload_n 1, 1) := by decide +kernel
theorem dX12_applies_42 : decode cX12_applies 42 = .ok (.iload_n 3, 1) := by decide +kernel
theorem dX12_applies_43 : decode cX12_applies 43 = .ok (.invokevirtual 185, 3) := by decide +kernel
theorem dX12_applies_46 : decode cX12_applies 46 = .ok (.istore 4, 2) := by decide +kernel
theorem dX12_applies_48 : decode cX12_applies 48 = .ok (.iload 4, 2) := by decide +kernel
theorem dX12_applies_50 : decode cX12_applies 50 = .ok (.iconst (-1), 1) := by decide +kernel
theorem dX12_applies_51 : decode cX12_applies 51 = .ok (.if_icmp .ne 12, 3) := by decide +kernel
theorem dX12_applies_54 : decode cX12_applies 54 = .ok (.aload_n 0, 1) := by decide +kernel
theorem dX12_applies_55 : decode cX12_applies 55 = .ok (.getfield 78, 3) := by decide +kernel
theorem dX12_applies_58 : decode cX12_applies 58 = .ok (.iload_n 3, 1) := by decide +kernel
theorem dX12_applies_59 : decode cX12_applies 59 = .ok (.iaload, 1) := by decide +kernel
theorem dX12_applies_60 : decode cX12_applies 60 = .ok (.goto 10, 3) := by decide +kernel
theorem dX12_applies_63 : decode cX12_applies 63 = .ok (.aload_n 0, 1) := by decide +kernel
theorem dX12_applies_64 : decode cX12_applies 64 = .ok (.getfield 45, 3) := by decide +kernel
theorem dX12_applies_67 : decode cX12_applies 67 = .ok (.iload 4, 2) := by decide +kernel
theorem dX12_applies_69 : decode cX12_applies 69 = .ok (.iaload, 1) := by decide +kernel
theorem dX12_applies_70 : decode cX12_applies 70 = .ok (.istore 5, 2) := by decide +kernel
theorem dX12_applies_72 : decode cX12_applies 72 = .ok (.iload 5, 2) := by decide +kernel
theorem dX12_applies_74 : decode cX12_applies 74 = .ok (.ifCond .le 14, 3) := by decide +kernel
theorem dX12_applies_77 : decode cX12_applies 77 = .ok (.aload_n 0, 1) := by decide +kernel
theorem dX12_applies_78 : decode cX12_applies 78 = .ok (.getfield 75, 3) := by decide +kernel
theorem dX12_applies_81 : decode cX12_applies 81 = .ok (.iload_n 2, 1) := by decide +kernel
theorem dX12_applies_82 : decode cX12_applies 82 = .ok (.iload 5, 2) := by decide +kernel
theorem dX12_applies_84 : decode cX12_applies 84 = .ok (.iastore, 1) := by decide +kernel
theorem dX12_applies_85 : decode cX12_applies 85 = .ok (.iinc 2 1, 3) := by decide +kernel
theorem dX12_applies_88 : decode cX12_applies 88 = .ok (.iinc 3 1, 3) := by decide +kernel
theorem dX12_applies_91 : decode cX12_applies 91 = .ok (.goto (-59), 3) := by decide +kernel
theorem dX12_applies_94 : decode cX12_applies 94 = .ok (.iload_n 2, 1) := by decide +kernel
theorem dX12_applies_95 : decode cX12_applies 95 = .ok (.ifCond .ne 34, 3) := by decide +kernel
theorem dX12_applies_98 : decode cX12_applies 98 = .ok (.iconst 0, 1) := by decide +kernel
theorem dX12_applies_99 : decode cX12_applies 99 = .ok (.istore_n 3, 1) := by decide +kernel
theorem dX12_applies_100 : decode cX12_applies 100 = .ok (.iload_n 3, 1) := by decide +kernel
theorem dX12_applies_101 : decode cX12_applies 101 = .ok (.aload_n 0, 1) := by decide +kernel
theorem dX12_applies_102 : decode cX12_applies 102 = .ok (.getfield 175, 3) := by decide +kernel
theorem dX12_applies_105 : decode cX12_applies 105 = .ok (.if_icmp .ge 21, 3) := by decide +kernel
theorem dX12_applies_108 : decode cX12_applies 108 = .ok (.aload_n 0, 1) := by decide +kernel
theorem dX12_applies_109 : decode cX12_applies 109 = .ok (.getfield 75, 3) := by decide +kernel
theorem dX12_applies_112 : decode cX12_applies 112 = .ok (.iload_n 3, 1) := by decide +kernel
theorem dX12_applies_113 : decode cX12_applies 113 = .ok (.aload_n 0, 1) := by decide +kernel
theorem dX12_applies_114 : decode cX12_applies 114 = .ok (.getfield 78, 3) := by decide +kernel
theorem dX12_applies_117 : decode cX12_applies 117 = .ok (.iload_n 3, 1) := by decide +kernel
theorem dX12_applies_118 : decode cX12_applies 118 = .ok (.iaload, 1) := by decide +kernel
theorem dX12_applies_119 : decode cX12_applies 119 = .ok (.iastore, 1) := by decide +kernel
theorem dX12_applies_120 : decode cX12_applies 120 = .ok (.iinc 3 1, 3) := by decide +kernel
theorem dX12_applies_123 : decode cX12_applies 123 = .ok (.goto (-23), 3) := by decide +kernel
theorem dX12_applies_126 : decode cX12_applies 126 = .ok (.goto 8, 3) := by decide +kernel
theorem dX12_applies_129 : decode cX12_applies 129 = .ok (.aload_n 0, 1) := by decide +kernel
theorem dX12_applies_130 : decode cX12_applies 130 = .ok (.iload_n 2, 1) := by decide +kernel
theorem dX12_applies_131 : decode cX12_applies 131 = .ok (.putfield 175, 3) := by decide +kernel
theorem dX12_applies_134 : decode cX12_applies 134 = .ok (.return_, 1) := by decide +kernel
theorem dX12_takes_0 : decode cX12_takes 0 = .ok (.aload_n 0, 1) := by decide +kernel
theorem dX12_takes_1 : decode cX12_takes 1 = .ok (.aload_n 0, 1) := by decide +kernel
theorem dX12_takes_2 : decode cX12_takes 2 = .ok (.getfield 17, 3) := by decide +kernel
theorem dX12_takes_5 : decode cX12_takes 5 = .ok (.bipush 10, 2) := by decide +kernel
theorem dX12_takes_7 : decode cX12_takes 7 = .ok (.iload_n 1, 1) := by decide +kernel
theorem dX12_takes_8 : decode cX12_takes 8 = .ok (.imul, 1) := by decide +kernel
theorem dX12_takes_9 : decode cX12_takes 9 = .ok (.iload_n 2, 1) := by decide +kernel
theorem dX12_takes_10 : decode cX12_takes 10 = .ok (.iadd, 1) := by decide +kernel
theorem dX12_takes_11 : decode cX12_takes 11 = .ok (.iaload, 1) := by decide +kernel
theorem dX12_takes_12 : decode cX12_takes 12 = .ok (.putfield 175, 3) := by decide +kernel
theorem dX12_takes_15 : decode cX12_takes 15 = .ok (.iconst 0, 1) := by decide +kernel
theorem dX12_takes_16 : decode cX12_takes 16 = .ok (.istore_n 3, 1) := by decide +kernel
theorem dX12_takes_17 : decode cX12_takes 17 = .ok (.iload_n 3, 1) := by decide +kernel
theorem dX12_takes_18 : decode cX12_takes 18 = .ok (.aload_n 0, 1) := by decide +kernel
theorem dX12_takes_19 : decode cX12_takes 19 = .ok (.getfield 175, 3) := by decide +kernel
theorem dX12_takes_22 : decode cX12_takes 22 = .ok (.if_icmp .ge 31, 3) := by decide +kernel
theorem dX12_takes_25 : decode cX12_takes 25 = .ok (.aload_n 0, 1) := by decide +kernel
theorem dX12_takes_26 : decode cX12_takes 26 = .ok (.getfield 75, 3) := by decide +kernel
theorem dX12_takes_29 : decode cX12_takes 29 = .ok (.iload_n 3, 1) := by decide +kernel
theorem dX12_takes_30 : decode cX12_takes 30 = .ok (.aload_n 0, 1) := by decide +kernel
theorem dX12_takes_31 : decode cX12_takes 31 = .ok (.getfield 20, 3) := by decide +kernel
theorem dX12_takes_34 : decode cX12_takes 34 = .ok (.bipush 80, 2) := by decide +kernel
theorem dX12_takes_36 : decode cX12_takes 36 = .ok (.iload_n 1, 1) := by decide +kernel
theorem dX12_takes_37 : decode cX12_takes 37 = .ok (.imul, 1) := by decide +kernel
theorem dX12_takes_38 : decode cX12_takes 38 = .ok (.bipush 8, 2) := by decide +kernel
theorem dX12_takes_40 : decode cX12_takes 40 = .ok (.iload_n 2, 1) := by decide +kernel
theorem dX12_takes_41 : decode cX12_takes 41 = .ok (.imul, 1) := by decide +kernel
theorem dX12_takes_42 : decode cX12_takes 42 = .ok (.iadd, 1) := by decide +kernel
theorem dX12_takes_43 : decode cX12_takes 43 = .ok (.iload_n 3, 1) := by decide +kernel
theorem dX12_takes_44 : decode cX12_takes 44 = .ok (.iadd, 1) := by decide +kernel
theorem dX12_takes_45 : decode cX12_takes 45 = .ok (.iaload, 1) := by decide +kernel
theorem dX12_takes_46 : decode cX12_takes 46 = .ok (.iastore, 1) := by decide +kernel
theorem dX12_takes_47 : decode cX12_takes 47 = .ok (.iinc 3 1, 3) := by decide +kernel
theorem dX12_takes_50 : decode cX12_takes 50 = .ok (.goto (-33), 3) := by decide +kernel
theorem dX12_takes_53 : decode cX12_takes 53 = .ok (.return_, 1) := by decide +kernel
theorem dX12_isWord_0 : decode cX12_isWord 0 = .ok (.aload_n 0, 1) := by decide +kernel
theorem dX12_isWord_1 : decode cX12_isWord 1 = .ok (.getfield 175, 3) := by decide +kernel
theorem dX12_isWord_4 : decode cX12_isWord 4 = .ok (.aload_n 0, 1) := by decide +kernel
theorem dX12_isWord_5 : decode cX12_isWord 5 = .ok (.getfield 17, 3) := by decide +kernel
theorem dX12_isWord_8 : decode cX12_isWord 8 = .ok (.bipush 10, 2) := by decide +kernel
theorem dX12_isWord_10 : decode cX12_isWord 10 = .ok (.iload_n 1, 1) := by decide +kernel
theorem dX12_isWord_11 : decode cX12_isWord 11 = .ok (.imul, 1) := by decide +kernel
theorem dX12_isWord_12 : decode cX12_isWord 12 = .ok (.iload_n 2, 1) := by decide +kernel
theorem dX12_isWord_13 : decode cX12_isWord 13 = .ok (.iadd, 1) := by decide +kernel
theorem dX12_isWord_14 : decode cX12_isWord 14 = .ok (.iaload, 1) := by decide +kernel
theorem dX12_isWord_15 : decode cX12_isWord 15 = .ok (.if_icmp .ne 7, 3) := by decide +kernel
theorem dX12_isWord_18 : decode cX12_isWord 18 = .ok (.iconst 1, 1) := by decide +kernel
theorem dX12_isWord_19 : decode cX12_isWord 19 = .ok (.goto 4, 3) := by decide +kernel
theorem dX12_isWord_22 : decode cX12_isWord 22 = .ok (.iconst 0, 1) := by decide +kernel
theorem dX12_isWord_23 : decode cX12_isWord 23 = .ok (.istore_n 3, 1) := by decide +kernel
theorem dX12_isWord_24 : decode cX12_isWord 24 = .ok (.iconst 0, 1) := by decide +kernel
theorem dX12_isWord_25 : decode cX12_isWord 25 = .ok (.istore 4, 2) := by decide +kernel
theorem dX12_isWord_27 : decode cX12_isWord 27 = .ok (.iload 4, 2) := by decide +kernel
theorem dX12_isWord_29 : decode cX12_isWord 29 = .ok (.aload_n 0, 1) := by decide +kernel
theorem dX12_isWord_30 : decode cX12_isWord 30 = .ok (.getfield 175, 3) := by decide +kernel
theorem dX12_isWord_33 : decode cX12_isWord 33 = .ok (.if_icmp .ge 46, 3) := by decide +kernel
theorem dX12_isWord_36 : decode cX12_isWord 36 = .ok (.iload_n 3, 1) := by decide +kernel
theorem dX12_isWord_37 : decode cX12_isWord 37 = .ok (.ifCond .eq 42, 3) := by decide +kernel
theorem dX12_isWord_40 : decode cX12_isWord 40 = .ok (.aload_n 0, 1) := by decide +kernel
theorem dX12_isWord_41 : decode cX12_isWord 41 = .ok (.getfield 75, 3) := by decide +kernel
theorem dX12_isWord_44 : decode cX12_isWord 44 = .ok (.iload 4, 2) := by decide +kernel
theorem dX12_isWord_46 : decode cX12_isWord 46 = .ok (.iaload, 1) := by decide +kernel
theorem dX12_isWord_47 : decode cX12_isWord 47 = .ok (.aload_n 0, 1) := by decide +kernel
theorem dX12_isWord_48 : decode cX12_isWord 48 = .ok (.getfield 20, 3) := by decide +kernel
theorem dX12_isWord_51 : decode cX12_isWord 51 = .ok (.bipush 80, 2) := by decide +kernel
theorem dX12_isWord_53 : decode cX12_isWord 53 = .ok (.iload_n 1, 1) := by decide +kernel
theorem dX12_isWord_54 : decode cX12_isWord 54 = .ok (.imul, 1) := by decide +kernel
theorem dX12_isWord_55 : decode cX12_isWord 55 = .ok (.bipush 8, 2) := by decide +kernel
theorem dX12_isWord_57 : decode cX12_isWord 57 = .ok (.iload_n 2, 1) := by decide +kernel
theorem dX12_isWord_58 : decode cX12_isWord 58 = .ok (.imul, 1) := by decide +kernel
theorem dX12_isWord_59 : decode cX12_isWord 59 = .ok (.iadd, 1) := by decide +kernel
theorem dX12_isWord_60 : decode cX12_isWord 60 = .ok (.iload 4, 2) := by decide +kernel
theorem dX12_isWord_62 : decode cX12_isWord 62 = .ok (.iadd, 1) := by decide +kernel
theorem dX12_isWord_63 : decode cX12_isWord 63 = .ok (.iaload, 1) := by decide +kernel
theorem dX12_isWord_64 : decode cX12_isWord 64 = .ok (.if_icmp .ne 7, 3) := by decide +kernel
theorem dX12_isWord_67 : decode cX12_isWord 67 = .ok (.iconst 1, 1) := by decide +kernel
theorem dX12_isWord_68 : decode cX12_isWord 68 = .ok (.goto 4, 3) := by decide +kernel
theorem dX12_isWord_71 : decode cX12_isWord 71 = .ok (.iconst 0, 1) := by decide +kernel
theorem dX12_isWord_72 : decode cX12_isWord 72 = .ok (.istore_n 3, 1) := by decide +kernel
theorem dX12_isWord_73 : decode cX12_isWord 73 = .ok (.iinc 4 1, 3) := by decide +kernel
theorem dX12_isWord_76 : decode cX12_isWord 76 = .ok (.goto (-49), 3) := by decide +kernel
theorem dX12_isWord_79 : decode cX12_isWord 79 = .ok (.iload_n 3, 1) := by decide +kernel
theorem dX12_isWord_80 : decode cX12_isWord 80 = .ok (.ireturn, 1) := by decide +kernel
theorem dX12_puts_0 : decode cX12_puts 0 = .ok (.aload_n 0, 1) := by decide +kernel
theorem dX12_puts_1 : decode cX12_puts 1 = .ok (.getfield 17, 3) := by decide +kernel
theorem dX12_puts_4 : decode cX12_puts 4 = .ok (.bipush 10, 2) := by decide +kernel
theorem dX12_puts_6 : decode cX12_puts 6 = .ok (.iload_n 1, 1) := by decide +kernel
theorem dX12_puts_7 : decode cX12_puts 7 = .ok (.imul, 1) := by decide +kernel
theorem dX12_puts_8 : decode cX12_puts 8 = .ok (.iload_n 2, 1) := by decide +kernel
theorem dX12_puts_9 : decode cX12_puts 9 = .ok (.iadd, 1) := by decide +kernel
theorem dX12_puts_10 : decode cX12_puts 10 = .ok (.aload_n 0, 1) := by decide +kernel
theorem dX12_puts_11 : decode cX12_puts 11 = .ok (.getfield 175, 3) := by decide +kernel
theorem dX12_puts_14 : decode cX12_puts 14 = .ok (.iastore, 1) := by decide +kernel
theorem dX12_puts_15 : decode cX12_puts 15 = .ok (.iconst 0, 1) := by decide +kernel
theorem dX12_puts_16 : decode cX12_puts 16 = .ok (.istore_n 3, 1) := by decide +kernel
theorem dX12_puts_17 : decode cX12_puts 17 = .ok (.iload_n 3, 1) := by decide +kernel
theorem dX12_puts_18 : decode cX12_puts 18 = .ok (.aload_n 0, 1) := by decide +kernel
theorem dX12_puts_19 : decode cX12_puts 19 = .ok (.getfield 175, 3) := by decide +kernel
theorem dX12_puts_22 : decode cX12_puts 22 = .ok (.if_icmp .ge 31, 3) := by decide +kernel
theorem dX12_puts_25 : decode cX12_puts 25 = .ok (.aload_n 0, 1) := by decide +kernel
theorem dX12_puts_26 : decode cX12_puts 26 = .ok (.getfield 20, 3) := by decide +kernel
theorem dX12_puts_29 : decode cX12_puts 29 = .ok (.bipush 80, 2) := by decide +kernel
theorem dX12_puts_31 : decode cX12_puts 31 = .ok (.iload_n 1, 1) := by decide +kernel
theorem dX12_puts_32 : decode cX12_puts 32 = .ok (.imul, 1) := by decide +kernel
theorem dX12_puts_33 : decode cX12_puts 33 = .ok (.bipush 8, 2) := by decide +kernel
theorem dX12_puts_35 : decode cX12_puts 35 = .ok (.iload_n 2, 1) := by decide +kernel
theorem dX12_puts_36 : decode cX12_puts 36 = .ok (.imul, 1) := by decide +kernel
theorem dX12_puts_37 : decode cX12_puts 37 = .ok (.iadd, 1) := by decide +kernel
theorem dX12_puts_38 : decode cX12_puts 38 = .ok (.iload_n 3, 1) := by decide +kernel
theorem dX12_puts_39 : decode cX12_puts 39 = .ok (.iadd, 1) := by decide +kernel
theorem dX12_puts_40 : decode cX12_puts 40 = .ok (.aload_n 0, 1) := by decide +kernel
theorem dX12_puts_41 : decode cX12_puts 41 = .ok (.getfield 75, 3) := by decide +kernel
theorem dX12_puts_44 : decode cX12_puts 44 = .ok (.iload_n 3, 1) := by decide +kernel
theorem dX12_puts_45 : decode cX12_puts 45 = .ok (.iaload, 1) := by decide +kernel
theorem dX12_puts_46 : decode cX12_puts 46 = .ok (.iastore, 1) := by decide +kernel
theorem dX12_puts_47 : decode cX12_puts 47 = .ok (.iinc 3 1, 3) := by decide +kernel
theorem dX12_puts_50 : decode cX12_puts 50 = .ok (.goto (-33), 3) := by decide +kernel
theorem dX12_puts_53 : decode cX12_puts 53 = .ok (.return_, 1) := by decide +kernel
theorem dX12_happens_0 : decode cX12_happens 0 = .ok (.aload_n 0, 1) := by decide +kernel
theorem dX12_happens_1 : decode cX12_happens 1 = .ok (.getfield 54, 3) := by decide +kernel
theorem dX12_happens_4 : decode cX12_happens 4 = .ok (.aload_n 0, 1) := by decide +kernel
theorem dX12_happens_5 : decode cX12_happens 5 = .ok (.getfield 189, 3) := by decide +kernel
theorem dX12_happens_8 : decode cX12_happens 8 = .ok (.iload_n 1, 1) := by decide +kernel
theorem dX12_happens_9 : decode cX12_happens 9 = .ok (.iastore, 1) := by decide +kernel
theorem dX12_happens_10 : decode cX12_happens 10 = .ok (.aload_n 0, 1) := by decide +kernel
theorem dX12_happens_11 : decode cX12_happens 11 = .ok (.getfield 57, 3) := by decide +kernel
theorem dX12_happens_14 : decode cX12_happens 14 = .ok (.aload_n 0, 1) := by decide +kernel
theorem dX12_happens_15 : decode cX12_happens 15 = .ok (.getfield 189, 3) := by decide +kernel
theorem dX12_happens_18 : decode cX12_happens 18 = .ok (.aload_n 0, 1) := by decide +kernel
theorem dX12_happens_19 : decode cX12_happens 19 = .ok (.getfield 137, 3) := by decide +kernel
theorem dX12_happens_22 : decode cX12_happens 22 = .ok (.iastore, 1) := by decide +kernel
theorem dX12_happens_23 : decode cX12_happens 23 = .ok (.aload_n 0, 1) := by decide +kernel
theorem dX12_happens_24 : decode cX12_happens 24 = .ok (.getfield 60, 3) := by decide +kernel
theorem dX12_happens_27 : decode cX12_happens 27 = .ok (.aload_n 0, 1) := by decide +kernel
theorem dX12_happens_28 : decode cX12_happens 28 = .ok (.getfield 189, 3) := by decide +kernel
theorem dX12_happens_31 : decode cX12_happens 31 = .ok (.iload_n 2, 1) := by decide +kernel
theorem dX12_happens_32 : decode cX12_happens 32 = .ok (.iastore, 1) := by decide +kernel
theorem dX12_happens_33 : decode cX12_happens 33 = .ok (.aload_n 0, 1) := by decide +kernel
theorem dX12_happens_34 : decode cX12_happens 34 = .ok (.getfield 63, 3) := by decide +kernel
theorem dX12_happens_37 : decode cX12_happens 37 = .ok (.aload_n 0, 1) := by decide +kernel
theorem dX12_happens_38 : decode cX12_happens 38 = .ok (.getfield 189, 3) := by decide +kernel
theorem dX12_happens_41 : decode cX12_happens 41 = .ok (.iload_n 3, 1) := by decide +kernel
theorem dX12_happens_42 : decode cX12_happens 42 = .ok (.iastore, 1) := by decide +kernel
theorem dX12_happens_43 : decode cX12_happens 43 = .ok (.aload_n 0, 1) := by decide +kernel
theorem dX12_happens_44 : decode cX12_happens 44 = .ok (.getfield 66, 3) := by decide +kernel
theorem dX12_happens_47 : decode cX12_happens 47 = .ok (.aload_n 0, 1) := by decide +kernel
theorem dX12_happens_48 : decode cX12_happens 48 = .ok (.getfield 189, 3) := by decide +kernel
theorem dX12_happens_51 : decode cX12_happens 51 = .ok (.iload 4, 2) := by decide +kernel
theorem dX12_happens_53 : decode cX12_happens 53 = .ok (.iastore, 1) := by decide +kernel
theorem dX12_happens_54 : decode cX12_happens 54 = .ok (.aload_n 0, 1) := by decide +kernel
theorem dX12_happens_55 : decode cX12_happens 55 = .ok (.dup, 1) := by decide +kernel
theorem dX12_happens_56 : decode cX12_happens 56 = .ok (.getfield 189, 3) := by decide +kernel
theorem dX12_happens_59 : decode cX12_happens 59 = .ok (.iconst 1, 1) := by decide +kernel
theorem dX12_happens_60 : decode cX12_happens 60 = .ok (.iadd, 1) := by decide +kernel
theorem dX12_happens_61 : decode cX12_happens 61 = .ok (.putfield 189, 3) := by decide +kernel
theorem dX12_happens_64 : decode cX12_happens 64 = .ok (.return_, 1) := by decide +kernel
theorem dX12_coin_0 : decode cX12_coin 0 = .ok (.aload_n 0, 1) := by decide +kernel
theorem dX12_coin_1 : decode cX12_coin 1 = .ok (.iload_n 1, 1) := by decide +kernel
theorem dX12_coin_2 : decode cX12_coin 2 = .ok (.invokevirtual 130, 3) := by decide +kernel
theorem dX12_coin_5 : decode cX12_coin 5 = .ok (.ifCond .eq 10, 3) := by decide +kernel
theorem dX12_coin_8 : decode cX12_coin 8 = .ok (.iload_n 2, 1) := by decide +kernel
theorem dX12_coin_9 : decode cX12_coin 9 = .ok (.invokestatic 134, 3) := by decide +kernel
theorem dX12_coin_12 : decode cX12_coin 12 = .ok (.ifCond .ne 5, 3) := by decide +kernel
theorem dX12_coin_15 : decode cX12_coin 15 = .ok (.iconst (-1), 1) := by decide +kernel
theorem dX12_coin_16 : decode cX12_coin 16 = .ok (.ireturn, 1) := by decide +kernel
theorem dX12_coin_17 : decode cX12_coin 17 = .ok (.aload_n 0, 1) := by decide +kernel
theorem dX12_coin_18 : decode cX12_coin 18 = .ok (.getfield 189, 3) := by decide +kernel
theorem dX12_coin_21 : decode cX12_coin 21 = .ok (.bipush 80, 2) := by decide +kernel
theorem dX12_coin_23 : decode cX12_coin 23 = .ok (.if_icmp .ne 6, 3) := by decide +kernel
theorem dX12_coin_26 : decode cX12_coin 26 = .ok (.bipush (-4), 2) := by decide +kernel
theorem dX12_coin_28 : decode cX12_coin 28 = .ok (.ireturn, 1) := by decide +kernel
theorem dX12_coin_29 : decode cX12_coin 29 = .ok (.aload_n 0, 1) := by decide +kernel
theorem dX12_coin_30 : decode cX12_coin 30 = .ok (.getfield 140, 3) := by decide +kernel
theorem dX12_coin_33 : decode cX12_coin 33 = .ok (.istore_n 3, 1) := by decide +kernel
theorem dX12_coin_34 : decode cX12_coin 34 = .ok (.aload_n 0, 1) := by decide +kernel
theorem dX12_coin_35 : decode cX12_coin 35 = .ok (.iconst 0, 1) := by decide +kernel
theorem dX12_coin_36 : decode cX12_coin 36 = .ok (.putfield 140, 3) := by decide +kernel
theorem dX12_coin_39 : decode cX12_coin 39 = .ok (.iconst 0, 1) := by decide +kernel
theorem dX12_coin_40 : decode cX12_coin 40 = .ok (.istore 4, 2) := by decide +kernel
theorem dX12_coin_42 : decode cX12_coin 42 = .ok (.iload 4, 2) := by decide +kernel
theorem dX12_coin_44 : decode cX12_coin 44 = .ok (.iload_n 3, 1) := by decide +kernel
theorem dX12_coin_45 : decode cX12_coin 45 = .ok (.if_icmp .ge 56, 3) := by decide +kernel
theorem dX12_coin_48 : decode cX12_coin 48 = .ok (.iload 4, 2) := by decide +kernel
theorem dX12_coin_50 : decode cX12_coin 50 = .ok (.bipush 8, 2) := by decide +kernel
theorem dX12_coin_52 : decode cX12_coin 52 = .ok (.if_icmp .eq 20, 3) := by decide +kernel
theorem dX12_coin_55 : decode cX12_coin 55 = .ok (.aload_n 0, 1) := by decide +kernel
theorem dX12_coin_56 : decode cX12_coin 56 = .ok (.getfield 13, 3) := by decide +kernel
theorem dX12_coin_59 : decode cX12_coin 59 = .ok (.iload 4, 2) := by decide +kernel
theorem dX12_coin_61 : decode cX12_coin 61 = .ok (.iaload, 1) := by decide +kernel
theorem dX12_coin_62 : decode cX12_coin 62 = .ok (.bipush 97, 2) := by decide +kernel
theorem dX12_coin_64 : decode cX12_coin 64 = .ok (.bipush 122, 2) := by decide +kernel
theorem dX12_coin_66 : decode cX12_coin 66 = .ok (.invokestatic 123, 3) := by decide +kernel
theorem dX12_coin_69 : decode cX12_coin 69 = .ok (.ifCond .ne 9, 3) := by decide +kernel
theorem dX12_coin_72 : decode cX12_coin 72 = .ok (.bipush (-10), 2) := by decide +kernel
theorem dX12_coin_74 : decode cX12_coin 74 = .ok (.iload 4, 2) := by decide +kernel
theorem dX12_coin_76 : decode cX12_coin 76 = .ok (.isub, 1) := by decide +kernel
theorem dX12_coin_77 : decode cX12_coin 77 = .ok (.ireturn, 1) := by decide +kernel
theorem dX12_coin_78 : decode cX12_coin 78 = .ok (.aload_n 0, 1) := by decide +kernel
theorem dX12_coin_79 : decode cX12_coin 79 = .ok (.getfield 75, 3) := by decide +kernel
theorem dX12_coin_82 : decode cX12_coin 82 = .ok (.iload 4, 2) := by decide +kernel
theorem dX12_coin_84 : decode cX12_coin 84 = .ok (.aload_n 0, 1) := by decide +kernel
theorem dX12_coin_85 : decode cX12_coin 85 = .ok (.getfield 13, 3) := by decide +kernel
theorem dX12_coin_88 : decode cX12_coin 88 = .ok (.iload 4, 2) := by decide +kernel
theorem dX12_coin_90 : decode cX12_coin 90 = .ok (.iaload, 1) := by decide +kernel
theorem dX12_coin_91 : decode cX12_coin 91 = .ok (.bipush 96, 2) := by decide +kernel
theorem dX12_coin_93 : decode cX12_coin 93 = .ok (.isub, 1) := by decide +kernel
theorem dX12_coin_94 : decode cX12_coin 94 = .ok (.iastore, 1) := by decide +kernel
theorem dX12_coin_95 : decode cX12_coin 95 = .ok (.iinc 4 1, 3) := by decide +kernel
theorem dX12_coin_98 : decode cX12_coin 98 = .ok (.goto (-56), 3) := by decide +kernel
theorem dX12_coin_101 : decode cX12_coin 101 = .ok (.iload_n 3, 1) := by decide +kernel
theorem dX12_coin_102 : decode cX12_coin 102 = .ok (.ifCond .ne 6, 3) := by decide +kernel
theorem dX12_coin_105 : decode cX12_coin 105 = .ok (.bipush (-10), 2) := by decide +kernel
theorem dX12_coin_107 : decode cX12_coin 107 = .ok (.ireturn, 1) := by decide +kernel
theorem dX12_coin_108 : decode cX12_coin 108 = .ok (.aload_n 0, 1) := by decide +kernel
theorem dX12_coin_109 : decode cX12_coin 109 = .ok (.iload_n 3, 1) := by decide +kernel
theorem dX12_coin_110 : decode cX12_coin 110 = .ok (.putfield 175, 3) := by decide +kernel
theorem dX12_coin_113 : decode cX12_coin 113 = .ok (.aload_n 0, 1) := by decide +kernel
theorem dX12_coin_114 : decode cX12_coin 114 = .ok (.iload_n 1, 1) := by decide +kernel
theorem dX12_coin_115 : decode cX12_coin 115 = .ok (.iload_n 2, 1) := by decide +kernel
theorem dX12_coin_116 : decode cX12_coin 116 = .ok (.invokevirtual 192, 3) := by decide +kernel
theorem dX12_coin_119 : decode cX12_coin 119 = .ok (.aload_n 0, 1) := by decide +kernel
theorem dX12_coin_120 : decode cX12_coin 120 = .ok (.getfield 23, 3) := by decide +kernel
theorem dX12_coin_123 : decode cX12_coin 123 = .ok (.bipush 10, 2) := by decide +kernel
theorem dX12_coin_125 : decode cX12_coin 125 = .ok (.iload_n 1, 1) := by decide +kernel
theorem dX12_coin_126 : decode cX12_coin 126 = .ok (.imul, 1) := by decide +kernel
theorem dX12_coin_127 : decode cX12_coin 127 = .ok (.iload_n 2, 1) := by decide +kernel
theorem dX12_coin_128 : decode cX12_coin 128 = .ok (.iadd, 1) := by decide +kernel
theorem dX12_coin_129 : decode cX12_coin 129 = .ok (.aload_n 0, 1) := by decide +kernel
theorem dX12_coin_130 : decode cX12_coin 130 = .ok (.getfield 196, 3) := by decide +kernel
theorem dX12_coin_133 : decode cX12_coin 133 = .ok (.iastore, 1) := by decide +kernel
theorem dX12_coin_134 : decode cX12_coin 134 = .ok (.aload_n 0, 1) := by decide +kernel
theorem dX12_coin_135 : decode cX12_coin 135 = .ok (.getfield 26, 3) := by decide +kernel
theorem dX12_coin_138 : decode cX12_coin 138 = .ok (.bipush 10, 2) := by decide +kernel
theorem dX12_coin_140 : decode cX12_coin 140 = .ok (.iload_n 1, 1) := by decide +kernel
theorem dX12_coin_141 : decode cX12_coin 141 = .ok (.imul, 1) := by decide +kernel
theorem dX12_coin_142 : decode cX12_coin 142 = .ok (.iload_n 2, 1) := by decide +kernel
theorem dX12_coin_143 : decode cX12_coin 143 = .ok (.iadd, 1) := by decide +kernel
theorem dX12_coin_144 : decode cX12_coin 144 = .ok (.iconst 0, 1) := by decide +kernel
theorem dX12_coin_145 : decode cX12_coin 145 = .ok (.bastore, 1) := by decide +kernel
theorem dX12_coin_146 : decode cX12_coin 146 = .ok (.aload_n 0, 1) := by decide +kernel
theorem dX12_coin_147 : decode cX12_coin 147 = .ok (.dup, 1) := by decide +kernel
theorem dX12_coin_148 : decode cX12_coin 148 = .ok (.getfield 196, 3) := by decide +kernel
theorem dX12_coin_151 : decode cX12_coin 151 = .ok (.iconst 1, 1) := by decide +kernel
theorem dX12_coin_152 : decode cX12_coin 152 = .ok (.iadd, 1) := by decide +kernel
theorem dX12_coin_153 : decode cX12_coin 153 = .ok (.putfield 196, 3) := by decide +kernel
theorem dX12_coin_156 : decode cX12_coin 156 = .ok (.aload_n 0, 1) := by decide +kernel
theorem dX12_coin_157 : decode cX12_coin 157 = .ok (.bipush 6, 2) := by decide +kernel
theorem dX12_coin_159 : decode cX12_coin 159 = .ok (.iload_n 1, 1) := by decide +kernel
theorem dX12_coin_160 : decode cX12_coin 160 = .ok (.bipush (-5), 2) := by decide +kernel
theorem dX12_coin_162 : decode cX12_coin 162 = .ok (.iload_n 2, 1) := by decide +kernel
theorem dX12_coin_163 : decode cX12_coin 163 = .ok (.invokevirtual 199, 3) := by decide +kernel
theorem dX12_coin_166 : decode cX12_coin 166 = .ok (.aload_n 0, 1) := by decide +kernel
theorem dX12_coin_167 : decode cX12_coin 167 = .ok (.getfield 196, 3) := by decide +kernel
theorem dX12_coin_170 : decode cX12_coin 170 = .ok (.iconst 1, 1) := by decide +kernel
theorem dX12_coin_171 : decode cX12_coin 171 = .ok (.isub, 1) := by decide +kernel
theorem dX12_coin_172 : decode cX12_coin 172 = .ok (.ireturn, 1) := by decide +kernel
theorem dX12_sound_0 : decode cX12_sound 0 = .ok (.aload_n 0, 1) := by decide +kernel
theorem dX12_sound_1 : decode cX12_sound 1 = .ok (.iload_n 1, 1) := by decide +kernel
theorem dX12_sound_2 : decode cX12_sound 2 = .ok (.invokevirtual 130, 3) := by decide +kernel
theorem dX12_sound_5 : decode cX12_sound 5 = .ok (.ifCond .eq 11, 3) := by decide +kernel
theorem dX12_sound_8 : decode cX12_sound 8 = .ok (.aload_n 0, 1) := by decide +kernel
theorem dX12_sound_9 : decode cX12_sound 9 = .ok (.iload_n 2, 1) := by decide +kernel
theorem dX12_sound_10 : decode cX12_sound 10 = .ok (.invokevirtual 203, 3) := by decide +kernel
theorem dX12_sound_13 : decode cX12_sound 13 = .ok (.ifCond .ne 5, 3) := by decide +kernel
theorem dX12_sound_16 : decode cX12_sound 16 = .ok (.iconst (-1), 1) := by decide +kernel
theorem dX12_sound_17 : decode cX12_sound 17 = .ok (.ireturn, 1) := by decide +kernel
theorem dX12_sound_18 : decode cX12_sound 18 = .ok (.aload_n 0, 1) := by decide +kernel
theorem dX12_sound_19 : decode cX12_sound 19 = .ok (.getfield 189, 3) := by decide +kernel
theorem dX12_sound_22 : decode cX12_sound 22 = .ok (.bipush 80, 2) := by decide +kernel
theorem dX12_sound_24 : decode cX12_sound 24 = .ok (.if_icmp .ne 6, 3) := by decide +kernel
theorem dX12_sound_27 : decode cX12_sound 27 = .ok (.bipush (-4), 2) := by decide +kernel
theorem dX12_sound_29 : decode cX12_sound 29 = .ok (.ireturn, 1) := by decide +kernel
theorem dX12_sound_30 : decode cX12_sound 30 = .ok (.iconst 0, 1) := by decide +kernel
theorem dX12_sound_31 : decode cX12_sound 31 = .ok (.istore_n 3, 1) := by decide +kernel
theorem dX12_sound_32 : decode cX12_sound 32 = .ok (.iconst 0, 1) := by decide +kernel
theorem dX12_sound_33 : decode cX12_sound 33 = .ok (.istore 4, 2) := by decide +kernel
theorem dX12_sound_35 : decode cX12_sound 35 = .ok (.iload 4, 2) := by decide +kernel
theorem dX12_sound_37 : decode cX12_sound 37 = .ok (.bipush 10, 2) := by decide +kernel
theorem dX12_sound_39 : decode cX12_sound 39 = .ok (.if_icmp .ge 56, 3) := by decide +kernel
theorem dX12_sound_42 : decode cX12_sound 42 = .ok (.aload_n 0, 1) := by decide +kernel
theorem dX12_sound_43 : decode cX12_sound 43 = .ok (.iload_n 1, 1) := by decide +kernel
theorem dX12_sound_44 : decode cX12_sound 44 = .ok (.iload 4, 2) := by decide +kernel
theorem dX12_sound_46 : decode cX12_sound 46 = .ok (.invokevirtual 206, 3) := by decide +kernel
theorem dX12_sound_49 : decode cX12_sound 49 = .ok (.ifCond .eq 40, 3) := by decide +kernel
theorem dX12_sound_52 : decode cX12_sound 52 = .ok (.aload_n 0, 1) := by decide +kernel
theorem dX12_sound_53 : decode cX12_sound 53 = .ok (.iload_n 1, 1) := by decide +kernel
theorem dX12_sound_54 : decode cX12_sound 54 = .ok (.iload 4, 2) := by decide +kernel
theorem dX12_sound_56 : decode cX12_sound 56 = .ok (.invokevirtual 209, 3) := by decide +kernel
theorem dX12_sound_59 : decode cX12_sound 59 = .ok (.aload_n 0, 1) := by decide +kernel
theorem dX12_sound_60 : decode cX12_sound 60 = .ok (.iload_n 2, 1) := by decide +kernel
theorem dX12_sound_61 : decode cX12_sound 61 = .ok (.invokevirtual 212, 3) := by decide +kernel
theorem dX12_sound_64 : decode cX12_sound 64 = .ok (.iload_n 3, 1) := by decide +kernel
theorem dX12_sound_65 : decode cX12_sound 65 = .ok (.aload_n 0, 1) := by decide +kernel
theorem dX12_sound_66 : decode cX12_sound 66 = .ok (.iload_n 1, 1) := by decide +kernel
theorem dX12_sound_67 : decode cX12_sound 67 = .ok (.iload 4, 2) := by decide +kernel
theorem dX12_sound_69 : decode cX12_sound 69 = .ok (.invokevirtual 215, 3) := by decide +kernel
theorem dX12_sound_72 : decode cX12_sound 72 = .ok (.ifCond .eq 7, 3) := by decide +kernel
theorem dX12_sound_75 : decode cX12_sound 75 = .ok (.iconst 0, 1) := by decide +kernel
theorem dX12_sound_76 : decode cX12_sound 76 = .ok (.goto 4, 3) := by decide +kernel
theorem dX12_sound_79 : decode cX12_sound 79 = .ok (.iconst 1, 1) := by decide +kernel
theorem dX12_sound_80 : decode cX12_sound 80 = .ok (.iadd, 1) := by decide +kernel
theorem dX12_sound_81 : decode cX12_sound 81 = .ok (.istore_n 3, 1) := by decide +kernel
theorem dX12_sound_82 : decode cX12_sound 82 = .ok (.aload_n 0, 1) := by decide +kernel
theorem dX12_sound_83 : decode cX12_sound 83 = .ok (.iload_n 1, 1) := by decide +kernel
theorem dX12_sound_84 : decode cX12_sound 84 = .ok (.iload 4, 2) := by decide +kernel
theorem dX12_sound_86 : decode cX12_sound 86 = .ok (.invokevirtual 192, 3) := by decide +kernel
theorem dX12_sound_89 : decode cX12_sound 89 = .ok (.iinc 4 1, 3) := by decide +kernel
theorem dX12_sound_92 : decode cX12_sound 92 = .ok (.goto (-57), 3) := by decide +kernel
theorem dX12_sound_95 : decode cX12_sound 95 = .ok (.aload_n 0, 1) := by decide +kernel
theorem dX12_sound_96 : decode cX12_sound 96 = .ok (.iconst 1, 1) := by decide +kernel
theorem dX12_sound_97 : decode cX12_sound 97 = .ok (.iload_n 1, 1) := by decide +kernel
theorem dX12_sound_98 : decode cX12_sound 98 = .ok (.iload_n 2, 1) := by decide +kernel
theorem dX12_sound_99 : decode cX12_sound 99 = .ok (.bipush (-5), 2) := by decide +kernel
theorem dX12_sound_101 : decode cX12_sound 101 = .ok (.invokevirtual 199, 3) := by decide +kernel
theorem dX12_sound_104 : decode cX12_sound 104 = .ok (.iload_n 3, 1) := by decide +kernel
theorem dX12_sound_105 : decode cX12_sound 105 = .ok (.ireturn, 1) := by decide +kernel
theorem dX12_shorten_0 : decode cX12_shorten 0 = .ok (.aload_n 0, 1) := by decide +kernel
theorem dX12_shorten_1 : decode cX12_shorten 1 = .ok (.iload_n 1, 1) := by decide +kernel
theorem dX12_shorten_2 : decode cX12_shorten 2 = .ok (.iload_n 2, 1) := by decide +kernel
theorem dX12_shorten_3 : decode cX12_shorten 3 = .ok (.invokevirtual 206, 3) := by decide +kernel
theorem dX12_shorten_6 : decode cX12_shorten 6 = .ok (.ifCond .ne 5, 3) := by decide +kernel
theorem dX12_shorten_9 : decode cX12_shorten 9 = .ok (.iconst (-1), 1) := by decide +kernel
theorem dX12_shorten_10 : decode cX12_shorten 10 = .ok (.ireturn, 1) := by decide +kernel
theorem dX12_shorten_11 : decode cX12_shorten 11 = .ok (.aload_n 0, 1) := by decide +kernel
theorem dX12_shorten_12 : decode cX12_shorten 12 = .ok (.getfield 17, 3) := by decide +kernel
theorem dX12_shorten_15 : decode cX12_shorten 15 = .ok (.bipush 10, 2) := by decide +kernel
theorem dX12_shorten_17 : decode cX12_shorten 17 = .ok (.iload_n 1, 1) := by decide +kernel
theorem dX12_shorten_18 : decode cX12_shorten 18 = .ok (.imul, 1) := by decide +kernel
theorem dX12_shorten_19 : decode cX12_shorten 19 = .ok (.iload_n 2, 1) := by decide +kernel
theorem dX12_shorten_20 : decode cX12_shorten 20 = .ok (.iadd, 1) := by decide +kernel
theorem dX12_shorten_21 : decode cX12_shorten 21 = .ok (.iaload, 1) := by decide +kernel
theorem dX12_shorten_22 : decode cX12_shorten 22 = .ok (.iconst 1, 1) := by decide +kernel
theorem dX12_shorten_23 : decode cX12_shorten 23 = .ok (.if_icmp .ne 6, 3) := by decide +kernel
theorem dX12_shorten_26 : decode cX12_shorten 26 = .ok (.bipush (-3), 2) := by decide +kernel
theorem dX12_shorten_28 : decode cX12_shorten 28 = .ok (.ireturn, 1) := by decide +kernel
theorem dX12_shorten_29 : decode cX12_shorten 29 = .ok (.aload_n 0, 1) := by decide +kernel
theorem dX12_shorten_30 : decode cX12_shorten 30 = .ok (.getfield 189, 3) := by decide +kernel
theorem dX12_shorten_33 : decode cX12_shorten 33 = .ok (.bipush 80, 2) := by decide +kernel
theorem dX12_shorten_35 : decode cX12_shorten 35 = .ok (.if_icmp .ne 6, 3) := by decide +kernel
theorem dX12_shorten_38 : decode cX12_shorten 38 = .ok (.bipush (-4), 2) := by decide +kernel
theorem dX12_shorten_40 : decode cX12_shorten 40 = .ok (.ireturn, 1) := by decide +kernel
theorem dX12_shorten_41 : decode cX12_shorten 41 = .ok (.aload_n 0, 1) := by decide +kernel
theorem dX12_shorten_42 : decode cX12_shorten 42 = .ok (.getfield 17, 3) := by decide +kernel
theorem dX12_shorten_45 : decode cX12_shorten 45 = .ok (.bipush 10, 2) := by decide +kernel
theorem dX12_shorten_47 : decode cX12_shorten 47 = .ok (.iload_n 1, 1) := by decide +kernel
theorem dX12_shorten_48 : decode cX12_shorten 48 = .ok (.imul, 1) := by decide +kernel
theorem dX12_shorten_49 : decode cX12_shorten 49 = .ok (.iload_n 2, 1) := by decide +kernel
theorem dX12_shorten_50 : decode cX12_shorten 50 = .ok (.iadd, 1) := by decide +kernel
theorem dX12_shorten_51 : decode cX12_shorten 51 = .ok (.dup2, 1) := by decide +kernel
theorem dX12_shorten_52 : decode cX12_shorten 52 = .ok (.iaload, 1) := by decide +kernel
theorem dX12_shorten_53 : decode cX12_shorten 53 = .ok (.iconst 1, 1) := by decide +kernel
theorem dX12_shorten_54 : decode cX12_shorten 54 = .ok (.isub, 1) := by decide +kernel
theorem dX12_shorten_55 : decode cX12_shorten 55 = .ok (.iastore, 1) := by decide +kernel
theorem dX12_shorten_56 : decode cX12_shorten 56 = .ok (.aload_n 0, 1) := by decide +kernel
theorem dX12_shorten_57 : decode cX12_shorten 57 = .ok (.iconst 4, 1) := by decide +kernel
theorem dX12_shorten_58 : decode cX12_shorten 58 = .ok (.iload_n 1, 1) := by decide +kernel
theorem dX12_shorten_59 : decode cX12_shorten 59 = .ok (.bipush (-5), 2) := by decide +kernel
theorem dX12_shorten_61 : decode cX12_shorten 61 = .ok (.iload_n 2, 1) := by decide +kernel
theorem dX12_shorten_62 : decode cX12_shorten 62 = .ok (.invokevirtual 199, 3) := by decide +kernel
theorem dX12_shorten_65 : decode cX12_shorten 65 = .ok (.aload_n 0, 1) := by decide +kernel
theorem dX12_shorten_66 : decode cX12_shorten 66 = .ok (.getfield 17, 3) := by decide +kernel
theorem dX12_shorten_69 : decode cX12_shorten 69 = .ok (.bipush 10, 2) := by decide +kernel
theorem dX12_shorten_71 : decode cX12_shorten 71 = .ok (.iload_n 1, 1) := by decide +kernel
theorem dX12_shorten_72 : decode cX12_shorten 72 = .ok (.imul, 1) := by decide +kernel
theorem dX12_shorten_73 : decode cX12_shorten 73 = .ok (.iload_n 2, 1) := by decide +kernel
theorem dX12_shorten_74 : decode cX12_shorten 74 = .ok (.iadd, 1) := by decide +kernel
theorem dX12_shorten_75 : decode cX12_shorten 75 = .ok (.iaload, 1) := by decide +kernel
theorem dX12_shorten_76 : decode cX12_shorten 76 = .ok (.ireturn, 1) := by decide +kernel
theorem dX12_loan_0 : decode cX12_loan 0 = .ok (.aload_n 0, 1) := by decide +kernel
theorem dX12_loan_1 : decode cX12_loan 1 = .ok (.iload_n 2, 1) := by decide +kernel
theorem dX12_loan_2 : decode cX12_loan 2 = .ok (.iload_n 1, 1) := by decide +kernel
theorem dX12_loan_3 : decode cX12_loan 3 = .ok (.invokevirtual 206, 3) := by decide +kernel
theorem dX12_loan_6 : decode cX12_loan 6 = .ok (.ifCond .eq 11, 3) := by decide +kernel
theorem dX12_loan_9 : decode cX12_loan 9 = .ok (.aload_n 0, 1) := by decide +kernel
theorem dX12_loan_10 : decode cX12_loan 10 = .ok (.iload_n 3, 1) := by decide +kernel
theorem dX12_loan_11 : decode cX12_loan 11 = .ok (.invokevirtual 130, 3) := by decide +kernel
theorem dX12_loan_14 : decode cX12_loan 14 = .ok (.ifCond .ne 5, 3) := by decide +kernel
theorem dX12_loan_17 : decode cX12_loan 17 = .ok (.iconst (-1), 1) := by decide +kernel
theorem dX12_loan_18 : decode cX12_loan 18 = .ok (.ireturn, 1) := by decide +kernel
theorem dX12_loan_19 : decode cX12_loan 19 = .ok (.iload_n 2, 1) := by decide +kernel
theorem dX12_loan_20 : decode cX12_loan 20 = .ok (.iload_n 3, 1) := by decide +kernel
theorem dX12_loan_21 : decode cX12_loan 21 = .ok (.if_icmp .ne 6, 3) := by decide +kernel
theorem dX12_loan_24 : decode cX12_loan 24 = .ok (.bipush (-2), 2) := by decide +kernel
theorem dX12_loan_26 : decode cX12_loan 26 = .ok (.ireturn, 1) := by decide +kernel
theorem dX12_loan_27 : decode cX12_loan 27 = .ok (.aload_n 0, 1) := by decide +kernel
theorem dX12_loan_28 : decode cX12_loan 28 = .ok (.getfield 189, 3) := by decide +kernel
theorem dX12_loan_31 : decode cX12_loan 31 = .ok (.bipush 80, 2) := by decide +kernel
theorem dX12_loan_33 : decode cX12_loan 33 = .ok (.if_icmp .ne 6, 3) := by decide +kernel
theorem dX12_loan_36 : decode cX12_loan 36 = .ok (.bipush (-4), 2) := by decide +kernel
theorem dX12_loan_38 : decode cX12_loan 38 = .ok (.ireturn, 1) := by decide +kernel
theorem dX12_loan_39 : decode cX12_loan 39 = .ok (.aload_n 0, 1) := by decide +kernel
theorem dX12_loan_40 : decode cX12_loan 40 = .ok (.iload_n 2, 1) := by decide +kernel
theorem dX12_loan_41 : decode cX12_loan 41 = .ok (.iload_n 1, 1) := by decide +kernel
theorem dX12_loan_42 : decode cX12_loan 42 = .ok (.invokevirtual 209, 3) := by decide +kernel
theorem dX12_loan_45 : decode cX12_loan 45 = .ok (.aload_n 0, 1) := by decide +kernel
theorem dX12_loan_46 : decode cX12_loan 46 = .ok (.iload_n 3, 1) := by decide +kernel
theorem dX12_loan_47 : decode cX12_loan 47 = .ok (.iload_n 1, 1) := by decide +kernel
theorem dX12_loan_48 : decode cX12_loan 48 = .ok (.invokevirtual 192, 3) := by decide +kernel
theorem dX12_loan_51 : decode cX12_loan 51 = .ok (.aload_n 0, 1) := by decide +kernel
theorem dX12_loan_52 : decode cX12_loan 52 = .ok (.getfield 23, 3) := by decide +kernel
theorem dX12_loan_55 : decode cX12_loan 55 = .ok (.bipush 10, 2) := by decide +kernel
theorem dX12_loan_57 : decode cX12_loan 57 = .ok (.iload_n 3, 1) := by decide +kernel
theorem dX12_loan_58 : decode cX12_loan 58 = .ok (.imul, 1) := by decide +kernel
theorem dX12_loan_59 : decode cX12_loan 59 = .ok (.iload_n 1, 1) := by decide +kernel
theorem dX12_loan_60 : decode cX12_loan 60 = .ok (.iadd, 1) := by decide +kernel
theorem dX12_loan_61 : decode cX12_loan 61 = .ok (.aload_n 0, 1) := by decide +kernel
theorem dX12_loan_62 : decode cX12_loan 62 = .ok (.getfield 23, 3) := by decide +kernel
theorem dX12_loan_65 : decode cX12_loan 65 = .ok (.bipush 10, 2) := by decide +kernel
theorem dX12_loan_67 : decode cX12_loan 67 = .ok (.iload_n 2, 1) := by decide +kernel
theorem dX12_loan_68 : decode cX12_loan 68 = .ok (.imul, 1) := by decide +kernel
theorem dX12_loan_69 : decode cX12_loan 69 = .ok (.iload_n 1, 1) := by decide +kernel
theorem dX12_loan_70 : decode cX12_loan 70 = .ok (.iadd, 1) := by decide +kernel
theorem dX12_loan_71 : decode cX12_loan 71 = .ok (.iaload, 1) := by decide +kernel
theorem dX12_loan_72 : decode cX12_loan 72 = .ok (.iastore, 1) := by decide +kernel
theorem dX12_loan_73 : decode cX12_loan 73 = .ok (.aload_n 0, 1) := by decide +kernel
theorem dX12_loan_74 : decode cX12_loan 74 = .ok (.getfield 26, 3) := by decide +kernel
theorem dX12_loan_77 : decode cX12_loan 77 = .ok (.bipush 10, 2) := by decide +kernel
theorem dX12_loan_79 : decode cX12_loan 79 = .ok (.iload_n 3, 1) := by decide +kernel
theorem dX12_loan_80 : decode cX12_loan 80 = .ok (.imul, 1) := by decide +kernel
theorem dX12_loan_81 : decode cX12_loan 81 = .ok (.iload_n 1, 1) := by decide +kernel
theorem dX12_loan_82 : decode cX12_loan 82 = .ok (.iadd, 1) := by decide +kernel
theorem dX12_loan_83 : decode cX12_loan 83 = .ok (.iconst 1, 1) := by decide +kernel
theorem dX12_loan_84 : decode cX12_loan 84 = .ok (.bastore, 1) := by decide +kernel
theorem dX12_loan_85 : decode cX12_loan 85 = .ok (.aload_n 0, 1) := by decide +kernel
theorem dX12_loan_86 : decode cX12_loan 86 = .ok (.iconst 2, 1) := by decide +kernel
theorem dX12_loan_87 : decode cX12_loan 87 = .ok (.iload_n 3, 1) := by decide +kernel
theorem dX12_loan_88 : decode cX12_loan 88 = .ok (.bipush (-5), 2) := by decide +kernel
theorem dX12_loan_90 : decode cX12_loan 90 = .ok (.iload_n 1, 1) := by decide +kernel
theorem dX12_loan_91 : decode cX12_loan 91 = .ok (.invokevirtual 199, 3) := by decide +kernel
theorem dX12_loan_94 : decode cX12_loan 94 = .ok (.aload_n 0, 1) := by decide +kernel
theorem dX12_loan_95 : decode cX12_loan 95 = .ok (.getfield 23, 3) := by decide +kernel
theorem dX12_loan_98 : decode cX12_loan 98 = .ok (.bipush 10, 2) := by decide +kernel
theorem dX12_loan_100 : decode cX12_loan 100 = .ok (.iload_n 3, 1) := by decide +kernel
theorem dX12_loan_101 : decode cX12_loan 101 = .ok (.imul, 1) := by decide +kernel
theorem dX12_loan_102 : decode cX12_loan 102 = .ok (.iload_n 1, 1) := by decide +kernel
theorem dX12_loan_103 : decode cX12_loan 103 = .ok (.iadd, 1) := by decide +kernel
theorem dX12_loan_104 : decode cX12_loan 104 = .ok (.iaload, 1) := by decide +kernel
theorem dX12_loan_105 : decode cX12_loan 105 = .ok (.ireturn, 1) := by decide +kernel
theorem dX12_forget_0 : decode cX12_forget 0 = .ok (.aload_n 0, 1) := by decide +kernel
theorem dX12_forget_1 : decode cX12_forget 1 = .ok (.iload_n 1, 1) := by decide +kernel
theorem dX12_forget_2 : decode cX12_forget 2 = .ok (.iload_n 2, 1) := by decide +kernel
theorem dX12_forget_3 : decode cX12_forget 3 = .ok (.invokevirtual 206, 3) := by decide +kernel
theorem dX12_forget_6 : decode cX12_forget 6 = .ok (.ifCond .ne 5, 3) := by decide +kernel
theorem dX12_forget_9 : decode cX12_forget 9 = .ok (.iconst (-1), 1) := by decide +kernel
theorem dX12_forget_10 : decode cX12_forget 10 = .ok (.ireturn, 1) := by decide +kernel
theorem dX12_forget_11 : decode cX12_forget 11 = .ok (.aload_n 0, 1) := by decide +kernel
theorem dX12_forget_12 : decode cX12_forget 12 = .ok (.getfield 189, 3) := by decide +kernel
theorem dX12_forget_15 : decode cX12_forget 15 = .ok (.bipush 80, 2) := by decide +kernel
theorem dX12_forget_17 : decode cX12_forget 17 = .ok (.if_icmp .ne 6, 3) := by decide +kernel
theorem dX12_forget_20 : decode cX12_forget 20 = .ok (.bipush (-4), 2) := by decide +kernel
theorem dX12_forget_22 : decode cX12_forget 22 = .ok (.ireturn, 1) := by decide +kernel
theorem dX12_forget_23 : decode cX12_forget 23 = .ok (.aload_n 0, 1) := by decide +kernel
theorem dX12_forget_24 : decode cX12_forget 24 = .ok (.getfield 17, 3) := by decide +kernel
theorem dX12_forget_27 : decode cX12_forget 27 = .ok (.bipush 10, 2) := by decide +kernel
theorem dX12_forget_29 : decode cX12_forget 29 = .ok (.iload_n 1, 1) := by decide +kernel
theorem dX12_forget_30 : decode cX12_forget 30 = .ok (.imul, 1) := by decide +kernel
theorem dX12_forget_31 : decode cX12_forget 31 = .ok (.iload_n 2, 1) := by decide +kernel
theorem dX12_forget_32 : decode cX12_forget 32 = .ok (.iadd, 1) := by decide +kernel
theorem dX12_forget_33 : decode cX12_forget 33 = .ok (.iconst 0, 1) := by decide +kernel
theorem dX12_forget_34 : decode cX12_forget 34 = .ok (.iastore, 1) := by decide +kernel
theorem dX12_forget_35 : decode cX12_forget 35 = .ok (.aload_n 0, 1) := by decide +kernel
theorem dX12_forget_36 : decode cX12_forget 36 = .ok (.iconst 5, 1) := by decide +kernel
theorem dX12_forget_37 : decode cX12_forget 37 = .ok (.iload_n 1, 1) := by decide +kernel
theorem dX12_forget_38 : decode cX12_forget 38 = .ok (.bipush (-5), 2) := by decide +kernel
theorem dX12_forget_40 : decode cX12_forget 40 = .ok (.iload_n 2, 1) := by decide +kernel
theorem dX12_forget_41 : decode cX12_forget 41 = .ok (.invokevirtual 199, 3) := by decide +kernel
theorem dX12_forget_44 : decode cX12_forget 44 = .ok (.aload_n 0, 1) := by decide +kernel
theorem dX12_forget_45 : decode cX12_forget 45 = .ok (.getfield 23, 3) := by decide +kernel
theorem dX12_forget_48 : decode cX12_forget 48 = .ok (.bipush 10, 2) := by decide +kernel
theorem dX12_forget_50 : decode cX12_forget 50 = .ok (.iload_n 1, 1) := by decide +kernel
theorem dX12_forget_51 : decode cX12_forget 51 = .ok (.imul, 1) := by decide +kernel
theorem dX12_forget_52 : decode cX12_forget 52 = .ok (.iload_n 2, 1) := by decide +kernel
theorem dX12_forget_53 : decode cX12_forget 53 = .ok (.iadd, 1) := by decide +kernel
theorem dX12_forget_54 : decode cX12_forget 54 = .ok (.iaload, 1) := by decide +kernel
theorem dX12_forget_55 : decode cX12_forget 55 = .ok (.ireturn, 1) := by decide +kernel
theorem dX12_split_0 : decode cX12_split 0 = .ok (.aload_n 0, 1) := by decide +kernel
theorem dX12_split_1 : decode cX12_split 1 = .ok (.iload_n 1, 1) := by decide +kernel
theorem dX12_split_2 : decode cX12_split 2 = .ok (.invokevirtual 130, 3) := by decide +kernel
theorem dX12_split_5 : decode cX12_split 5 = .ok (.ifCond .ne 5, 3) := by decide +kernel
theorem dX12_split_8 : decode cX12_split 8 = .ok (.iconst (-1), 1) := by decide +kernel
theorem dX12_split_9 : decode cX12_split 9 = .ok (.ireturn, 1) := by decide +kernel
theorem dX12_split_10 : decode cX12_split 10 = .ok (.aload_n 0, 1) := by decide +kernel
theorem dX12_split_11 : decode cX12_split 11 = .ok (.getfield 120, 3) := by decide +kernel
theorem dX12_split_14 : decode cX12_split 14 = .ok (.bipush 6, 2) := by decide +kernel
theorem dX12_split_16 : decode cX12_split 16 = .ok (.if_icmp .eq 12, 3) := by decide +kernel
theorem dX12_split_19 : decode cX12_split 19 = .ok (.aload_n 0, 1) := by decide +kernel
theorem dX12_split_20 : decode cX12_split 20 = .ok (.getfield 189, 3) := by decide +kernel
theorem dX12_split_23 : decode cX12_split 23 = .ok (.bipush 80, 2) := by decide +kernel
theorem dX12_split_25 : decode cX12_split 25 = .ok (.if_icmp .ne 6, 3) := by decide +kernel
theorem dX12_split_28 : decode cX12_split 28 = .ok (.bipush (-4), 2) := by decide +kernel
theorem dX12_split_30 : decode cX12_split 30 = .ok (.ireturn, 1) := by decide +kernel
theorem dX12_split_31 : decode cX12_split 31 = .ok (.aload_n 0, 1) := by decide +kernel
theorem dX12_split_32 : decode cX12_split 32 = .ok (.getfield 120, 3) := by decide +kernel
theorem dX12_split_35 : decode cX12_split 35 = .ok (.istore_n 2, 1) := by decide +kernel
theorem dX12_split_36 : decode cX12_split 36 = .ok (.iconst 0, 1) := by decide +kernel
theorem dX12_split_37 : decode cX12_split 37 = .ok (.istore_n 3, 1) := by decide +kernel
theorem dX12_split_38 : decode cX12_split 38 = .ok (.iload_n 3, 1) := by decide +kernel
theorem dX12_split_39 : decode cX12_split 39 = .ok (.bipush 10, 2) := by decide +kernel
theorem dX12_split_41 : decode cX12_split 41 = .ok (.if_icmp .ge 65, 3) := by decide +kernel
theorem dX12_split_44 : decode cX12_split 44 = .ok (.aload_n 0, 1) := by decide +kernel
theorem dX12_split_45 : decode cX12_split 45 = .ok (.iload_n 1, 1) := by decide +kernel
theorem dX12_split_46 : decode cX12_split 46 = .ok (.iload_n 3, 1) := by decide +kernel
theorem dX12_split_47 : decode cX12_split 47 = .ok (.invokevirtual 209, 3) := by decide +kernel
theorem dX12_split_50 : decode cX12_split 50 = .ok (.aload_n 0, 1) := by decide +kernel
theorem dX12_split_51 : decode cX12_split 51 = .ok (.iload_n 2, 1) := by decide +kernel
theorem dX12_split_52 : decode cX12_split 52 = .ok (.iload_n 3, 1) := by decide +kernel
theorem dX12_split_53 : decode cX12_split 53 = .ok (.invokevirtual 192, 3) := by decide +kernel
theorem dX12_split_56 : decode cX12_split 56 = .ok (.aload_n 0, 1) := by decide +kernel
theorem dX12_split_57 : decode cX12_split 57 = .ok (.getfield 23, 3) := by decide +kernel
theorem dX12_split_60 : decode cX12_split 60 = .ok (.bipush 10, 2) := by decide +kernel
theorem dX12_split_62 : decode cX12_split 62 = .ok (.iload_n 2, 1) := by decide +kernel
theorem dX12_split_63 : decode cX12_split 63 = .ok (.imul, 1) := by decide +kernel
theorem dX12_split_64 : decode cX12_split 64 = .ok (.iload_n 3, 1) := by decide +kernel
theorem dX12_split_65 : decode cX12_split 65 = .ok (.iadd, 1) := by decide +kernel
theorem dX12_split_66 : decode cX12_split 66 = .ok (.aload_n 0, 1) := by decide +kernel
theorem dX12_split_67 : decode cX12_split 67 = .ok (.getfield 23, 3) := by decide +kernel
theorem dX12_split_70 : decode cX12_split 70 = .ok (.bipush 10, 2) := by decide +kernel
theorem dX12_split_72 : decode cX12_split 72 = .ok (.iload_n 1, 1) := by decide +kernel
theorem dX12_split_73 : decode cX12_split 73 = .ok (.imul, 1) := by decide +kernel
theorem dX12_split_74 : decode cX12_split 74 = .ok (.iload_n 3, 1) := by decide +kernel
theorem dX12_split_75 : decode cX12_split 75 = .ok (.iadd, 1) := by decide +kernel
theorem dX12_split_76 : decode cX12_split 76 = .ok (.iaload, 1) := by decide +kernel
theorem dX12_split_77 : decode cX12_split 77 = .ok (.iastore, 1) := by decide +kernel
theorem dX12_split_78 : decode cX12_split 78 = .ok (.aload_n 0, 1) := by decide +kernel
theorem dX12_split_79 : decode cX12_split 79 = .ok (.getfield 26, 3) := by decide +kernel
theorem dX12_split_82 : decode cX12_split 82 = .ok (.bipush 10, 2) := by decide +kernel
theorem dX12_split_84 : decode cX12_split 84 = .ok (.iload_n 2, 1) := by decide +kernel
theorem dX12_split_85 : decode cX12_split 85 = .ok (.imul, 1) := by decide +kernel
theorem dX12_split_86 : decode cX12_split 86 = .ok (.iload_n 3, 1) := by decide +kernel
theorem dX12_split_87 : decode cX12_split 87 = .ok (.iadd, 1) := by decide +kernel
theorem dX12_split_88 : decode cX12_split 88 = .ok (.aload_n 0, 1) := by decide +kernel
theorem dX12_split_89 : decode cX12_split 89 = .ok (.getfield 26, 3) := by decide +kernel
theorem dX12_split_92 : decode cX12_split 92 = .ok (.bipush 10, 2) := by decide +kernel
theorem dX12_split_94 : decode cX12_split 94 = .ok (.iload_n 1, 1) := by decide +kernel
theorem dX12_split_95 : decode cX12_split 95 = .ok (.imul, 1) := by decide +kernel
theorem dX12_split_96 : decode cX12_split 96 = .ok (.iload_n 3, 1) := by decide +kernel
theorem dX12_split_97 : decode cX12_split 97 = .ok (.iadd, 1) := by decide +kernel
theorem dX12_split_98 : decode cX12_split 98 = .ok (.baload, 1) := by decide +kernel
theorem dX12_split_99 : decode cX12_split 99 = .ok (.bastore, 1) := by decide +kernel
theorem dX12_split_100 : decode cX12_split 100 = .ok (.iinc 3 1, 3) := by decide +kernel
theorem dX12_split_103 : decode cX12_split 103 = .ok (.goto (-65), 3) := by decide +kernel
theorem dX12_split_106 : decode cX12_split 106 = .ok (.aload_n 0, 1) := by decide +kernel
theorem dX12_split_107 : decode cX12_split 107 = .ok (.getfield 33, 3) := by decide +kernel
theorem dX12_split_110 : decode cX12_split 110 = .ok (.iload_n 2, 1) := by decide +kernel
theorem dX12_split_111 : decode cX12_split 111 = .ok (.iload_n 1, 1) := by decide +kernel
theorem dX12_split_112 : decode cX12_split 112 = .ok (.iastore, 1) := by decide +kernel
theorem dX12_split_113 : decode cX12_split 113 = .ok (.aload_n 0, 1) := by decide +kernel
theorem dX12_split_114 : decode cX12_split 114 = .ok (.getfield 36, 3) := by decide +kernel
theorem dX12_split_117 : decode cX12_split 117 = .ok (.iload_n 2, 1) := by decide +kernel
theorem dX12_split_118 : decode cX12_split 118 = .ok (.aload_n 0, 1) := by decide +kernel
theorem dX12_split_119 : decode cX12_split 119 = .ok (.getfield 137, 3) := by decide +kernel
theorem dX12_split_122 : decode cX12_split 122 = .ok (.iastore, 1) := by decide +kernel
theorem dX12_split_123 : decode cX12_split 123 = .ok (.aload_n 0, 1) := by decide +kernel
theorem dX12_split_124 : decode cX12_split 124 = .ok (.dup, 1) := by decide +kernel
theorem dX12_split_125 : decode cX12_split 125 = .ok (.getfield 120, 3) := by decide +kernel
theorem dX12_split_128 : decode cX12_split 128 = .ok (.iconst 1, 1) := by decide +kernel
theorem dX12_split_129 : decode cX12_split 129 = .ok (.iadd, 1) := by decide +kernel
theorem dX12_split_130 : decode cX12_split 130 = .ok (.putfield 120, 3) := by decide +kernel
theorem dX12_split_133 : decode cX12_split 133 = .ok (.aload_n 0, 1) := by decide +kernel
theorem dX12_split_134 : decode cX12_split 134 = .ok (.iconst 3, 1) := by decide +kernel
theorem dX12_split_135 : decode cX12_split 135 = .ok (.iload_n 2, 1) := by decide +kernel
theorem dX12_split_136 : decode cX12_split 136 = .ok (.bipush (-5), 2) := by decide +kernel
theorem dX12_split_138 : decode cX12_split 138 = .ok (.bipush (-5), 2) := by decide +kernel
theorem dX12_split_140 : decode cX12_split 140 = .ok (.invokevirtual 199, 3) := by decide +kernel
theorem dX12_split_143 : decode cX12_split 143 = .ok (.iload_n 2, 1) := by decide +kernel
theorem dX12_split_144 : decode cX12_split 144 = .ok (.ireturn, 1) := by decide +kernel
theorem dX12_word_0 : decode cX12_word 0 = .ok (.aload_n 0, 1) := by decide +kernel
theorem dX12_word_1 : decode cX12_word 1 = .ok (.iload_n 1, 1) := by decide +kernel
theorem dX12_word_2 : decode cX12_word 2 = .ok (.iload_n 2, 1) := by decide +kernel
theorem dX12_word_3 : decode cX12_word 3 = .ok (.invokevirtual 206, 3) := by decide +kernel
theorem dX12_word_6 : decode cX12_word 6 = .ok (.ifCond .eq 24, 3) := by decide +kernel
theorem dX12_word_9 : decode cX12_word 9 = .ok (.iload_n 3, 1) := by decide +kernel
theorem dX12_word_10 : decode cX12_word 10 = .ok (.iconst (-1), 1) := by decide +kernel
theorem dX12_word_11 : decode cX12_word 11 = .ok (.aload_n 0, 1) := by decide +kernel
theorem dX12_word_12 : decode cX12_word 12 = .ok (.getfield 17, 3) := by decide +kernel
theorem dX12_word_15 : decode cX12_word 15 = .ok (.bipush 10, 2) := by decide +kernel
theorem dX12_word_17 : decode cX12_word 17 = .ok (.iload_n 1, 1) := by decide +kernel
theorem dX12_word_18 : decode cX12_word 18 = .ok (.imul, 1) := by decide +kernel
theorem dX12_word_19 : decode cX12_word 19 = .ok (.iload_n 2, 1) := by decide +kernel
theorem dX12_word_20 : decode cX12_word 20 = .ok (.iadd, 1) := by decide +kernel
theorem dX12_word_21 : decode cX12_word 21 = .ok (.iaload, 1) := by decide +kernel
theorem dX12_word_22 : decode cX12_word 22 = .ok (.iconst 1, 1) := by decide +kernel
theorem dX12_word_23 : decode cX12_word 23 = .ok (.isub, 1) := by decide +kernel
theorem dX12_word_24 : decode cX12_word 24 = .ok (.invokestatic 123, 3) := by decide +kernel
theorem dX12_word_27 : decode cX12_word 27 = .ok (.ifCond .ne 5, 3) := by decide +kernel
theorem dX12_word_30 : decode cX12_word 30 = .ok (.iconst (-1), 1) := by decide +kernel
theorem dX12_word_31 : decode cX12_word 31 = .ok (.ireturn, 1) := by decide +kernel
theorem dX12_word_32 : decode cX12_word 32 = .ok (.iload_n 3, 1) := by decide +kernel
theorem dX12_word_33 : decode cX12_word 33 = .ok (.iconst (-1), 1) := by decide +kernel
theorem dX12_word_34 : decode cX12_word 34 = .ok (.if_icmp .ne 17, 3) := by decide +kernel
theorem dX12_word_37 : decode cX12_word 37 = .ok (.aload_n 0, 1) := by decide +kernel
theorem dX12_word_38 : decode cX12_word 38 = .ok (.getfield 17, 3) := by decide +kernel
theorem dX12_word_41 : decode cX12_word 41 = .ok (.bipush 10, 2) := by decide +kernel
theorem dX12_word_43 : decode cX12_word 43 = .ok (.iload_n 1, 1) := by decide +kernel
theorem dX12_word_44 : decode cX12_word 44 = .ok (.imul, 1) := by decide +kernel
theorem dX12_word_45 : decode cX12_word 45 = .ok (.iload_n 2, 1) := by decide +kernel
theorem dX12_word_46 : decode cX12_word 46 = .ok (.iadd, 1) := by decide +kernel
theorem dX12_word_47 : decode cX12_word 47 = .ok (.iaload, 1) := by decide +kernel
theorem dX12_word_48 : decode cX12_word 48 = .ok (.goto 21, 3) := by decide +kernel
theorem dX12_word_51 : decode cX12_word 51 = .ok (.aload_n 0, 1) := by decide +kernel
theorem dX12_word_52 : decode cX12_word 52 = .ok (.getfield 20, 3) := by decide +kernel
theorem dX12_word_55 : decode cX12_word 55 = .ok (.bipush 80, 2) := by decide +kernel
theorem dX12_word_57 : decode cX12_word 57 = .ok (.iload_n 1, 1) := by decide +kernel
theorem dX12_word_58 : decode cX12_word 58 = .ok (.imul, 1) := by decide +kernel
theorem dX12_word_59 : decode cX12_word 59 = .ok (.bipush 8, 2) := by decide +kernel
theorem dX12_word_61 : decode cX12_word 61 = .ok (.iload_n 2, 1) := by decide +kernel
theorem dX12_word_62 : decode cX12_word 62 = .ok (.imul, 1) := by decide +kernel
theorem dX12_word_63 : decode cX12_word 63 = .ok (.iadd, 1) := by decide +kernel
theorem dX12_word_64 : decode cX12_word 64 = .ok (.iload_n 3, 1) := by decide +kernel
theorem dX12_word_65 : decode cX12_word 65 = .ok (.iadd, 1) := by decide +kernel
theorem dX12_word_66 : decode cX12_word 66 = .ok (.iaload, 1) := by decide +kernel
theorem dX12_word_67 : decode cX12_word 67 = .ok (.iconst 1, 1) := by decide +kernel
theorem dX12_word_68 : decode cX12_word 68 = .ok (.isub, 1) := by decide +kernel
theorem dX12_word_69 : decode cX12_word 69 = .ok (.ireturn, 1) := by decide +kernel
theorem dX12_open_0 : decode cX12_open 0 = .ok (.aload_n 0, 1) := by decide +kernel
theorem dX12_open_1 : decode cX12_open 1 = .ok (.getfield 218, 3) := by decide +kernel
theorem dX12_open_4 : decode cX12_open 4 = .ok (.ifCond .eq 6, 3) := by decide +kernel
theorem dX12_open_7 : decode cX12_open 7 = .ok (.bipush (-3), 2) := by decide +kernel
theorem dX12_open_9 : decode cX12_open 9 = .ok (.ireturn, 1) := by decide +kernel
theorem dX12_open_10 : decode cX12_open 10 = .ok (.aload_n 0, 1) := by decide +kernel
theorem dX12_open_11 : decode cX12_open 11 = .ok (.iconst 1, 1) := by decide +kernel
theorem dX12_open_12 : decode cX12_open 12 = .ok (.putfield 218, 3) := by decide +kernel
theorem dX12_open_15 : decode cX12_open 15 = .ok (.aload_n 0, 1) := by decide +kernel
theorem dX12_open_16 : decode cX12_open 16 = .ok (.getfield 221, 3) := by decide +kernel
theorem dX12_open_19 : decode cX12_open 19 = .ok (.ireturn, 1) := by decide +kernel
theorem dX12_truth_0 : decode cX12_truth 0 = .ok (.aload_n 0, 1) := by decide +kernel
theorem dX12_truth_1 : decode cX12_truth 1 = .ok (.iload_n 1, 1) := by decide +kernel
theorem dX12_truth_2 : decode cX12_truth 2 = .ok (.iload_n 2, 1) := by decide +kernel
theorem dX12_truth_3 : decode cX12_truth 3 = .ok (.invokevirtual 206, 3) := by decide +kernel
theorem dX12_truth_6 : decode cX12_truth 6 = .ok (.ifCond .eq 12, 3) := by decide +kernel
theorem dX12_truth_9 : decode cX12_truth 9 = .ok (.iload_n 3, 1) := by decide +kernel
theorem dX12_truth_10 : decode cX12_truth 10 = .ok (.iconst 0, 1) := by decide +kernel
theorem dX12_truth_11 : decode cX12_truth 11 = .ok (.iconst 1, 1) := by decide +kernel
theorem dX12_truth_12 : decode cX12_truth 12 = .ok (.invokestatic 123, 3) := by decide +kernel
theorem dX12_truth_15 : decode cX12_truth 15 = .ok (.ifCond .ne 5, 3) := by decide +kernel
theorem dX12_truth_18 : decode cX12_truth 18 = .ok (.iconst (-1), 1) := by decide +kernel
theorem dX12_truth_19 : decode cX12_truth 19 = .ok (.ireturn, 1) := by decide +kernel
theorem dX12_truth_20 : decode cX12_truth 20 = .ok (.aload_n 0, 1) := by decide +kernel
theorem dX12_truth_21 : decode cX12_truth 21 = .ok (.getfield 218, 3) := by decide +kernel
theorem dX12_truth_24 : decode cX12_truth 24 = .ok (.ifCond .ne 6, 3) := by decide +kernel
theorem dX12_truth_27 : decode cX12_truth 27 = .ok (.bipush (-3), 2) := by decide +kernel
theorem dX12_truth_29 : decode cX12_truth 29 = .ok (.ireturn, 1) := by decide +kernel
theorem dX12_truth_30 : decode cX12_truth 30 = .ok (.iload_n 3, 1) := by decide +kernel
theorem dX12_truth_31 : decode cX12_truth 31 = .ok (.ifCond .ne 17, 3) := by decide +kernel
theorem dX12_truth_34 : decode cX12_truth 34 = .ok (.aload_n 0, 1) := by decide +kernel
theorem dX12_truth_35 : decode cX12_truth 35 = .ok (.getfield 23, 3) := by decide +kernel
theorem dX12_truth_38 : decode cX12_truth 38 = .ok (.bipush 10, 2) := by decide +kernel
theorem dX12_truth_40 : decode cX12_truth 40 = .ok (.iload_n 1, 1) := by decide +kernel
theorem dX12_truth_41 : decode cX12_truth 41 = .ok (.imul, 1) := by decide +kernel
theorem dX12_truth_42 : decode cX12_truth 42 = .ok (.iload_n 2, 1) := by decide +kernel
theorem dX12_truth_43 : decode cX12_truth 43 = .ok (.iadd, 1) := by decide +kernel
theorem dX12_truth_44 : decode cX12_truth 44 = .ok (.iaload, 1) := by decide +kernel
theorem dX12_truth_45 : decode cX12_truth 45 = .ok (.goto 22, 3) := by decide +kernel
theorem dX12_truth_48 : decode cX12_truth 48 = .ok (.aload_n 0, 1) := by decide +kernel
theorem dX12_truth_49 : decode cX12_truth 49 = .ok (.getfield 26, 3) := by decide +kernel
theorem dX12_truth_52 : decode cX12_truth 52 = .ok (.bipush 10, 2) := by decide +kernel
theorem dX12_truth_54 : decode cX12_truth 54 = .ok (.iload_n 1, 1) := by decide +kernel
theorem dX12_truth_55 : decode cX12_truth 55 = .ok (.imul, 1) := by decide +kernel
theorem dX12_truth_56 : decode cX12_truth 56 = .ok (.iload_n 2, 1) := by decide +kernel
theorem dX12_truth_57 : decode cX12_truth 57 = .ok (.iadd, 1) := by decide +kernel
theorem dX12_truth_58 : decode cX12_truth 58 = .ok (.baload, 1) := by decide +kernel
theorem dX12_truth_59 : decode cX12_truth 59 = .ok (.ifCond .eq 7, 3) := by decide +kernel
theorem dX12_truth_62 : decode cX12_truth 62 = .ok (.iconst 1, 1) := by decide +kernel
theorem dX12_truth_63 : decode cX12_truth 63 = .ok (.goto 4, 3) := by decide +kernel
theorem dX12_truth_66 : decode cX12_truth 66 = .ok (.iconst 0, 1) := by decide +kernel
theorem dX12_truth_67 : decode cX12_truth 67 = .ok (.ireturn, 1) := by decide +kernel
theorem dX12_from_0 : decode cX12_from 0 = .ok (.aload_n 0, 1) := by decide +kernel
theorem dX12_from_1 : decode cX12_from 1 = .ok (.iload_n 1, 1) := by decide +kernel
theorem dX12_from_2 : decode cX12_from 2 = .ok (.invokevirtual 130, 3) := by decide +kernel
theorem dX12_from_5 : decode cX12_from 5 = .ok (.ifCond .eq 12, 3) := by decide +kernel
theorem dX12_from_8 : decode cX12_from 8 = .ok (.iload_n 2, 1) := by decide +kernel
theorem dX12_from_9 : decode cX12_from 9 = .ok (.iconst 0, 1) := by decide +kernel
theorem dX12_from_10 : decode cX12_from 10 = .ok (.iconst 1, 1) := by decide +kernel
theorem dX12_from_11 : decode cX12_from 11 = .ok (.invokestatic 123, 3) := by decide +kernel
theorem dX12_from_14 : decode cX12_from 14 = .ok (.ifCond .ne 5, 3) := by decide +kernel
theorem dX12_from_17 : decode cX12_from 17 = .ok (.iconst (-1), 1) := by decide +kernel
theorem dX12_from_18 : decode cX12_from 18 = .ok (.ireturn, 1) := by decide +kernel
theorem dX12_from_19 : decode cX12_from 19 = .ok (.aload_n 0, 1) := by decide +kernel
theorem dX12_from_20 : decode cX12_from 20 = .ok (.getfield 218, 3) := by decide +kernel
theorem dX12_from_23 : decode cX12_from 23 = .ok (.ifCond .ne 6, 3) := by decide +kernel
theorem dX12_from_26 : decode cX12_from 26 = .ok (.bipush (-3), 2) := by decide +kernel
theorem dX12_from_28 : decode cX12_from 28 = .ok (.ireturn, 1) := by decide +kernel
theorem dX12_from_29 : decode cX12_from 29 = .ok (.aload_n 0, 1) := by decide +kernel
theorem dX12_from_30 : decode cX12_from 30 = .ok (.getfield 33, 3) := by decide +kernel
theorem dX12_from_33 : decode cX12_from 33 = .ok (.iload_n 1, 1) := by decide +kernel
theorem dX12_from_34 : decode cX12_from 34 = .ok (.iaload, 1) := by decide +kernel
theorem dX12_from_35 : decode cX12_from 35 = .ok (.iconst (-1), 1) := by decide +kernel
theorem dX12_from_36 : decode cX12_from 36 = .ok (.if_icmp .ne 8, 3) := by decide +kernel
theorem dX12_from_39 : decode cX12_from 39 = .ok (.bipush (-5), 2) := by decide +kernel
theorem dX12_from_41 : decode cX12_from 41 = .ok (.goto 22, 3) := by decide +kernel
theorem dX12_from_44 : decode cX12_from 44 = .ok (.iload_n 2, 1) := by decide +kernel
theorem dX12_from_45 : decode cX12_from 45 = .ok (.ifCond .ne 12, 3) := by decide +kernel
theorem dX12_from_48 : decode cX12_from 48 = .ok (.aload_n 0, 1) := by decide +kernel
theorem dX12_from_49 : decode cX12_from 49 = .ok (.getfield 33, 3) := by decide +kernel
theorem dX12_from_52 : decode cX12_from 52 = .ok (.iload_n 1, 1) := by decide +kernel
theorem dX12_from_53 : decode cX12_from 53 = .ok (.iaload, 1) := by decide +kernel
theorem dX12_from_54 : decode cX12_from 54 = .ok (.goto 9, 3) := by decide +kernel
theorem dX12_from_57 : decode cX12_from 57 = .ok (.aload_n 0, 1) := by decide +kernel
theorem dX12_from_58 : decode cX12_from 58 = .ok (.getfield 36, 3) := by decide +kernel
theorem dX12_from_61 : decode cX12_from 61 = .ok (.iload_n 1, 1) := by decide +kernel
theorem dX12_from_62 : decode cX12_from 62 = .ok (.iaload, 1) := by decide +kernel
theorem dX12_from_63 : decode cX12_from 63 = .ok (.ireturn, 1) := by decide +kernel
theorem dX12_event_0 : decode cX12_event 0 = .ok (.iload_n 1, 1) := by decide +kernel
theorem dX12_event_1 : decode cX12_event 1 = .ok (.iconst 0, 1) := by decide +kernel
theorem dX12_event_2 : decode cX12_event 2 = .ok (.aload_n 0, 1) := by decide +kernel
theorem dX12_event_3 : decode cX12_event 3 = .ok (.getfield 189, 3) := by decide +kernel
theorem dX12_event_6 : decode cX12_event 6 = .ok (.iconst 1, 1) := by decide +kernel
theorem dX12_event_7 : decode cX12_event 7 = .ok (.isub, 1) := by decide +kernel
theorem dX12_event_8 : decode cX12_event 8 = .ok (.invokestatic 123, 3) := by decide +kernel
theorem dX12_event_11 : decode cX12_event 11 = .ok (.ifCond .eq 12, 3) := by decide +kernel
theorem dX12_event_14 : decode cX12_event 14 = .ok (.iload_n 2, 1) := by decide +kernel
theorem dX12_event_15 : decode cX12_event 15 = .ok (.iconst 0, 1) := by decide +kernel
theorem dX12_event_16 : decode cX12_event 16 = .ok (.iconst 4, 1) := by decide +kernel
theorem dX12_event_17 : decode cX12_event 17 = .ok (.invokestatic 123, 3) := by decide +kernel
theorem dX12_event_20 : decode cX12_event 20 = .ok (.ifCond .ne 5, 3) := by decide +kernel
theorem dX12_event_23 : decode cX12_event 23 = .ok (.iconst (-1), 1) := by decide +kernel
theorem dX12_event_24 : decode cX12_event 24 = .ok (.ireturn, 1) := by decide +kernel
theorem dX12_event_25 : decode cX12_event 25 = .ok (.aload_n 0, 1) := by decide +kernel
theorem dX12_event_26 : decode cX12_event 26 = .ok (.getfield 218, 3) := by decide +kernel
theorem dX12_event_29 : decode cX12_event 29 = .ok (.ifCond .ne 6, 3) := by decide +kernel
theorem dX12_event_32 : decode cX12_event 32 = .ok (.bipush (-3), 2) := by decide +kernel
theorem dX12_event_34 : decode cX12_event 34 = .ok (.ireturn, 1) := by decide +kernel
theorem dX12_event_35 : decode cX12_event 35 = .ok (.iload_n 2, 1) := by decide +kernel
theorem dX12_event_36 : decode cX12_event 36 = .ok (.tableswitch 60 0 3 #[32, 39, 46, 53], 32) := by decide +kernel
theorem dX12_event_68 : decode cX12_event 68 = .ok (.aload_n 0, 1) := by decide +kernel
theorem dX12_event_69 : decode cX12_event 69 = .ok (.getfield 54, 3) := by decide +kernel
theorem dX12_event_72 : decode cX12_event 72 = .ok (.iload_n 1, 1) := by decide +kernel
theorem dX12_event_73 : decode cX12_event 73 = .ok (.iaload, 1) := by decide +kernel
theorem dX12_event_74 : decode cX12_event 74 = .ok (.ireturn, 1) := by decide +kernel
theorem dX12_event_75 : decode cX12_event 75 = .ok (.aload_n 0, 1) := by decide +kernel
theorem dX12_event_76 : decode cX12_event 76 = .ok (.getfield 57, 3) := by decide +kernel
theorem dX12_event_79 : decode cX12_event 79 = .ok (.iload_n 1, 1) := by decide +kernel
theorem dX12_event_80 : decode cX12_event 80 = .ok (.iaload, 1) := by decide +kernel
theorem dX12_event_81 : decode cX12_event 81 = .ok (.ireturn, 1) := by decide +kernel
theorem dX12_event_82 : decode cX12_event 82 = .ok (.aload_n 0, 1) := by decide +kernel
theorem dX12_event_83 : decode cX12_event 83 = .ok (.getfield 60, 3) := by decide +kernel
theorem dX12_event_86 : decode cX12_event 86 = .ok (.iload_n 1, 1) := by decide +kernel
theorem dX12_event_87 : decode cX12_event 87 = .ok (.iaload, 1) := by decide +kernel
theorem dX12_event_88 : decode cX12_event 88 = .ok (.ireturn, 1) := by decide +kernel
theorem dX12_event_89 : decode cX12_event 89 = .ok (.aload_n 0, 1) := by decide +kernel
theorem dX12_event_90 : decode cX12_event 90 = .ok (.getfield 63, 3) := by decide +kernel
theorem dX12_event_93 : decode cX12_event 93 = .ok (.iload_n 1, 1) := by decide +kernel
theorem dX12_event_94 : decode cX12_event 94 = .ok (.iaload, 1) := by decide +kernel
theorem dX12_event_95 : decode cX12_event 95 = .ok (.ireturn, 1) := by decide +kernel
theorem dX12_event_96 : decode cX12_event 96 = .ok (.aload_n 0, 1) := by decide +kernel
theorem dX12_event_97 : decode cX12_event 97 = .ok (.getfield 66, 3) := by decide +kernel
theorem dX12_event_100 : decode cX12_event 100 = .ok (.iload_n 1, 1) := by decide +kernel
theorem dX12_event_101 : decode cX12_event 101 = .ok (.iaload, 1) := by decide +kernel
theorem dX12_event_102 : decode cX12_event 102 = .ok (.ireturn, 1) := by decide +kernel
theorem dX12_limit_0 : decode cX12_limit 0 = .ok (.iload_n 1, 1) := by decide +kernel
theorem dX12_limit_1 : decode cX12_limit 1 = .ok (.iconst 0, 1) := by decide +kernel
theorem dX12_limit_2 : decode cX12_limit 2 = .ok (.bipush 60, 2) := by decide +kernel
theorem dX12_limit_4 : decode cX12_limit 4 = .ok (.invokestatic 123, 3) := by decide +kernel
theorem dX12_limit_7 : decode cX12_limit 7 = .ok (.ifCond .ne 6, 3) := by decide +kernel
theorem dX12_limit_10 : decode cX12_limit 10 = .ok (.bipush (-2), 2) := by decide +kernel
theorem dX12_limit_12 : decode cX12_limit 12 = .ok (.ireturn, 1) := by decide +kernel
theorem dX12_limit_13 : decode cX12_limit 13 = .ok (.aload_n 0, 1) := by decide +kernel
theorem dX12_limit_14 : decode cX12_limit 14 = .ok (.getfield 7, 3) := by decide +kernel
theorem dX12_limit_17 : decode cX12_limit 17 = .ok (.istore_n 2, 1) := by decide +kernel
theorem dX12_limit_18 : decode cX12_limit 18 = .ok (.aload_n 0, 1) := by decide +kernel
theorem dX12_limit_19 : decode cX12_limit 19 = .ok (.iload_n 1, 1) := by decide +kernel
theorem dX12_limit_20 : decode cX12_limit 20 = .ok (.putfield 7, 3) := by decide +kernel
theorem dX12_limit_23 : decode cX12_limit 23 = .ok (.iload_n 2, 1) := by decide +kernel
theorem dX12_limit_24 : decode cX12_limit 24 = .ok (.ireturn, 1) := by decide +kernel
theorem dX12_hole_0 : decode cX12_hole 0 = .ok (.aload_n 0, 1) := by decide +kernel
theorem dX12_hole_1 : decode cX12_hole 1 = .ok (.iload_n 1, 1) := by decide +kernel
theorem dX12_hole_2 : decode cX12_hole 2 = .ok (.invokevirtual 130, 3) := by decide +kernel
theorem dX12_hole_5 : decode cX12_hole 5 = .ok (.ifCond .eq 10, 3) := by decide +kernel
theorem dX12_hole_8 : decode cX12_hole 8 = .ok (.iload_n 2, 1) := by decide +kernel
theorem dX12_hole_9 : decode cX12_hole 9 = .ok (.invokestatic 134, 3) := by decide +kernel
theorem dX12_hole_12 : decode cX12_hole 12 = .ok (.ifCond .ne 5, 3) := by decide +kernel
theorem dX12_hole_15 : decode cX12_hole 15 = .ok (.iconst (-1), 1) := by decide +kernel
theorem dX12_hole_16 : decode cX12_hole 16 = .ok (.ireturn, 1) := by decide +kernel
theorem dX12_hole_17 : decode cX12_hole 17 = .ok (.aload_n 0, 1) := by decide +kernel
theorem dX12_hole_18 : decode cX12_hole 18 = .ok (.getfield 30, 3) := by decide +kernel
theorem dX12_hole_21 : decode cX12_hole 21 = .ok (.bipush 10, 2) := by decide +kernel
theorem dX12_hole_23 : decode cX12_hole 23 = .ok (.iload_n 1, 1) := by decide +kernel
theorem dX12_hole_24 : decode cX12_hole 24 = .ok (.imul, 1) := by decide +kernel
theorem dX12_hole_25 : decode cX12_hole 25 = .ok (.iload_n 2, 1) := by decide +kernel
theorem dX12_hole_26 : decode cX12_hole 26 = .ok (.iadd, 1) := by decide +kernel
theorem dX12_hole_27 : decode cX12_hole 27 = .ok (.baload, 1) := by decide +kernel
theorem dX12_hole_28 : decode cX12_hole 28 = .ok (.ifCond .eq 7, 3) := by decide +kernel
theorem dX12_hole_31 : decode cX12_hole 31 = .ok (.iconst 1, 1) := by decide +kernel
theorem dX12_hole_32 : decode cX12_hole 32 = .ok (.goto 4, 3) := by decide +kernel
theorem dX12_hole_35 : decode cX12_hole 35 = .ok (.iconst 0, 1) := by decide +kernel
theorem dX12_hole_36 : decode cX12_hole 36 = .ok (.istore 4, 2) := by decide +kernel
theorem dX12_hole_38 : decode cX12_hole 38 = .ok (.aload_n 0, 1) := by decide +kernel
theorem dX12_hole_39 : decode cX12_hole 39 = .ok (.getfield 30, 3) := by decide +kernel
theorem dX12_hole_42 : decode cX12_hole 42 = .ok (.bipush 10, 2) := by decide +kernel
theorem dX12_hole_44 : decode cX12_hole 44 = .ok (.iload_n 1, 1) := by decide +kernel
theorem dX12_hole_45 : decode cX12_hole 45 = .ok (.imul, 1) := by decide +kernel
theorem dX12_hole_46 : decode cX12_hole 46 = .ok (.iload_n 2, 1) := by decide +kernel
theorem dX12_hole_47 : decode cX12_hole 47 = .ok (.iadd, 1) := by decide +kernel
theorem dX12_hole_48 : decode cX12_hole 48 = .ok (.iload_n 3, 1) := by decide +kernel
theorem dX12_hole_49 : decode cX12_hole 49 = .ok (.bastore, 1) := by decide +kernel
theorem dX12_hole_50 : decode cX12_hole 50 = .ok (.iload 4, 2) := by decide +kernel
theorem dX12_hole_52 : decode cX12_hole 52 = .ok (.ireturn, 1) := by decide +kernel
theorem dX12_has_0 : decode cX12_has 0 = .ok (.aload_n 0, 1) := by decide +kernel
theorem dX12_has_1 : decode cX12_has 1 = .ok (.iload_n 1, 1) := by decide +kernel
theorem dX12_has_2 : decode cX12_has 2 = .ok (.iload_n 2, 1) := by decide +kernel
theorem dX12_has_3 : decode cX12_has 3 = .ok (.invokevirtual 206, 3) := by decide +kernel
theorem dX12_has_6 : decode cX12_has 6 = .ok (.ifCond .eq 21, 3) := by decide +kernel
theorem dX12_has_9 : decode cX12_has 9 = .ok (.aload_n 0, 1) := by decide +kernel
theorem dX12_has_10 : decode cX12_has 10 = .ok (.getfield 30, 3) := by decide +kernel
theorem dX12_has_13 : decode cX12_has 13 = .ok (.bipush 10, 2) := by decide +kernel
theorem dX12_has_15 : decode cX12_has 15 = .ok (.iload_n 1, 1) := by decide +kernel
theorem dX12_has_16 : decode cX12_has 16 = .ok (.imul, 1) := by decide +kernel
theorem dX12_has_17 : decode cX12_has 17 = .ok (.iload_n 2, 1) := by decide +kernel
theorem dX12_has_18 : decode cX12_has 18 = .ok (.iadd, 1) := by decide +kernel
theorem dX12_has_19 : decode cX12_has 19 = .ok (.baload, 1) := by decide +kernel
theorem dX12_has_20 : decode cX12_has 20 = .ok (.ifCond .ne 7, 3) := by decide +kernel
theorem dX12_has_23 : decode cX12_has 23 = .ok (.iconst 1, 1) := by decide +kernel
theorem dX12_has_24 : decode cX12_has 24 = .ok (.goto 4, 3) := by decide +kernel
theorem dX12_has_27 : decode cX12_has 27 = .ok (.iconst 0, 1) := by decide +kernel
theorem dX12_has_28 : decode cX12_has 28 = .ok (.ireturn, 1) := by decide +kernel
theorem dX12_apart_0 : decode cX12_apart 0 = .ok (.iload_n 0, 1) := by decide +kernel
theorem dX12_apart_1 : decode cX12_apart 1 = .ok (.iload_n 1, 1) := by decide +kernel
theorem dX12_apart_2 : decode cX12_apart 2 = .ok (.if_icmp .ne 7, 3) := by decide +kernel
theorem dX12_apart_5 : decode cX12_apart 5 = .ok (.iconst 0, 1) := by decide +kernel
theorem dX12_apart_6 : decode cX12_apart 6 = .ok (.goto 19, 3) := by decide +kernel
theorem dX12_apart_9 : decode cX12_apart 9 = .ok (.iload_n 0, 1) := by decide +kernel
theorem dX12_apart_10 : decode cX12_apart 10 = .ok (.invokestatic 172, 3) := by decide +kernel
theorem dX12_apart_13 : decode cX12_apart 13 = .ok (.iload_n 1, 1) := by decide +kernel
theorem dX12_apart_14 : decode cX12_apart 14 = .ok (.invokestatic 172, 3) := by decide +kernel
theorem dX12_apart_17 : decode cX12_apart 17 = .ok (.if_icmp .ne 7, 3) := by decide +kernel
theorem dX12_apart_20 : decode cX12_apart 20 = .ok (.iconst 1, 1) := by decide +kernel
theorem dX12_apart_21 : decode cX12_apart 21 = .ok (.goto 4, 3) := by decide +kernel
theorem dX12_apart_24 : decode cX12_apart 24 = .ok (.iconst 3, 1) := by decide +kernel
theorem dX12_apart_25 : decode cX12_apart 25 = .ok (.ireturn, 1) := by decide +kernel
theorem dX12_costOf_0 : decode cX12_costOf 0 = .ok (.aload_n 0, 1) := by decide +kernel
theorem dX12_costOf_1 : decode cX12_costOf 1 = .ok (.getfield 17, 3) := by decide +kernel
theorem dX12_costOf_4 : decode cX12_costOf 4 = .ok (.bipush 10, 2) := by decide +kernel
theorem dX12_costOf_6 : decode cX12_costOf 6 = .ok (.iload_n 1, 1) := by decide +kernel
theorem dX12_costOf_7 : decode cX12_costOf 7 = .ok (.imul, 1) := by decide +kernel
theorem dX12_costOf_8 : decode cX12_costOf 8 = .ok (.iload_n 2, 1) := by decide +kernel
theorem dX12_costOf_9 : decode cX12_costOf 9 = .ok (.iadd, 1) := by decide +kernel
theorem dX12_costOf_10 : decode cX12_costOf 10 = .ok (.iaload, 1) := by decide +kernel
theorem dX12_costOf_11 : decode cX12_costOf 11 = .ok (.istore 5, 2) := by decide +kernel
theorem dX12_costOf_13 : decode cX12_costOf 13 = .ok (.aload_n 0, 1) := by decide +kernel
theorem dX12_costOf_14 : decode cX12_costOf 14 = .ok (.getfield 17, 3) := by decide +kernel
theorem dX12_costOf_17 : decode cX12_costOf 17 = .ok (.bipush 10, 2) := by decide +kernel
theorem dX12_costOf_19 : decode cX12_costOf 19 = .ok (.iload_n 3, 1) := by decide +kernel
theorem dX12_costOf_20 : decode cX12_costOf 20 = .ok (.imul, 1) := by decide +kernel
theorem dX12_costOf_21 : decode cX12_costOf 21 = .ok (.iload 4, 2) := by decide +kernel
theorem dX12_costOf_23 : decode cX12_costOf 23 = .ok (.iadd, 1) := by decide +kernel
theorem dX12_costOf_24 : decode cX12_costOf 24 = .ok (.iaload, 1) := by decide +kernel
theorem dX12_costOf_25 : decode cX12_costOf 25 = .ok (.istore 6, 2) := by decide +kernel
theorem dX12_costOf_27 : decode cX12_costOf 27 = .ok (.iload 5, 2) := by decide +kernel
theorem dX12_costOf_29 : decode cX12_costOf 29 = .ok (.istore 7, 2) := by decide +kernel
theorem dX12_costOf_31 : decode cX12_costOf 31 = .ok (.iload 7, 2) := by decide +kernel
theorem dX12_costOf_33 : decode cX12_costOf 33 = .ok (.ifCond .lt 230, 3) := by decide +kernel
theorem dX12_costOf_36 : decode cX12_costOf 36 = .ok (.iload 6, 2) := by decide +kernel
theorem dX12_costOf_38 : decode cX12_costOf 38 = .ok (.istore 8, 2) := by decide +kernel
theorem dX12_costOf_40 : decode cX12_costOf 40 = .ok (.iload 8, 2) := by decide +kernel
theorem dX12_costOf_42 : decode cX12_costOf 42 = .ok (.ifCond .lt 215, 3) := by decide +kernel
theorem dX12_costOf_45 : decode cX12_costOf 45 = .ok (.iload 7, 2) := by decide +kernel
theorem dX12_costOf_47 : decode cX12_costOf 47 = .ok (.iload 5, 2) := by decide +kernel
theorem dX12_costOf_49 : decode cX12_costOf 49 = .ok (.if_icmp .ne 14, 3) := by decide +kernel
theorem dX12_costOf_52 : decode cX12_costOf 52 = .ok (.iload 8, 2) := by decide +kernel
theorem dX12_costOf_54 : decode cX12_costOf 54 = .ok (.iload 6, 2) := by decide +kernel
theorem dX12_costOf_56 : decode cX12_costOf 56 = .ok (.if_icmp .ne 7, 3) := by decide +kernel
theorem dX12_costOf_59 : decode cX12_costOf 59 = .ok (.iconst 0, 1) := by decide +kernel
theorem dX12_costOf_60 : decode cX12_costOf 60 = .ok (.goto 5, 3) := by decide +kernel
theorem dX12_costOf_63 : decode cX12_costOf 63 = .ok (.ldc 224, 2) := by decide +kernel
theorem dX12_costOf_65 : decode cX12_costOf 65 = .ok (.istore 9, 2) := by decide +kernel
theorem dX12_costOf_67 : decode cX12_costOf 67 = .ok (.iload 7, 2) := by decide +kernel
theorem dX12_costOf_69 : decode cX12_costOf 69 = .ok (.iload 5, 2) := by decide +kernel
theorem dX12_costOf_71 : decode cX12_costOf 71 = .ok (.if_icmp .ge 67, 3) := by decide +kernel
theorem dX12_costOf_74 : decode cX12_costOf 74 = .ok (.iload 8, 2) := by decide +kernel
theorem dX12_costOf_76 : decode cX12_costOf 76 = .ok (.iload 6, 2) := by decide +kernel
theorem dX12_costOf_78 : decode cX12_costOf 78 = .ok (.if_icmp .ge 60, 3) := by decide +kernel
theorem dX12_costOf_81 : decode cX12_costOf 81 = .ok (.aload_n 0, 1) := by decide +kernel
theorem dX12_costOf_82 : decode cX12_costOf 82 = .ok (.getfield 20, 3) := by decide +kernel
theorem dX12_costOf_85 : decode cX12_costOf 85 = .ok (.bipush 80, 2) := by decide +kernel
theorem dX12_costOf_87 : decode cX12_costOf 87 = .ok (.iload_n 1, 1) := by decide +kernel
theorem dX12_costOf_88 : decode cX12_costOf 88 = .ok (.imul, 1) := by decide +kernel
theorem dX12_costOf_89 : decode cX12_costOf 89 = .ok (.bipush 8, 2) := by decide +kernel
theorem dX12_costOf_91 : decode cX12_costOf 91 = .ok (.iload_n 2, 1) := by decide +kernel
theorem dX12_costOf_92 : decode cX12_costOf 92 = .ok (.imul, 1) := by decide +kernel
theorem dX12_costOf_93 : decode cX12_costOf 93 = .ok (.iadd, 1) := by decide +kernel
theorem dX12_costOf_94 : decode cX12_costOf 94 = .ok (.iload 7, 2) := by decide +kernel
theorem dX12_costOf_96 : decode cX12_costOf 96 = .ok (.iadd, 1) := by decide +kernel
theorem dX12_costOf_97 : decode cX12_costOf 97 = .ok (.iaload, 1) := by decide +kernel
theorem dX12_costOf_98 : decode cX12_costOf 98 = .ok (.aload_n 0, 1) := by decide +kernel
theorem dX12_costOf_99 : decode cX12_costOf 99 = .ok (.getfield 20, 3) := by decide +kernel
theorem dX12_costOf_102 : decode cX12_costOf 102 = .ok (.bipush 80, 2) := by decide +kernel
theorem dX12_costOf_104 : decode cX12_costOf 104 = .ok (.iload_n 3, 1) := by decide +kernel
theorem dX12_costOf_105 : decode cX12_costOf 105 = .ok (.imul, 1) := by decide +kernel
theorem dX12_costOf_106 : decode cX12_costOf 106 = .ok (.bipush 8, 2) := by decide +kernel
theorem dX12_costOf_108 : decode cX12_costOf 108 = .ok (.iload 4, 2) := by decide +kernel
theorem dX12_costOf_110 : decode cX12_costOf 110 = .ok (.imul, 1) := by decide +kernel
theorem dX12_costOf_111 : decode cX12_costOf 111 = .ok (.iadd, 1) := by decide +kernel
theorem dX12_costOf_112 : decode cX12_costOf 112 = .ok (.iload 8, 2) := by decide +kernel
theorem dX12_costOf_114 : decode cX12_costOf 114 = .ok (.iadd, 1) := by decide +kernel
theorem dX12_costOf_115 : decode cX12_costOf 115 = .ok (.iaload, 1) := by decide +kernel
theorem dX12_costOf_116 : decode cX12_costOf 116 = .ok (.invokestatic 225, 3) := by decide +kernel
theorem dX12_costOf_119 : decode cX12_costOf 119 = .ok (.aload_n 0, 1) := by decide +kernel
theorem dX12_costOf_120 : decode cX12_costOf 120 = .ok (.getfield 81, 3) := by decide +kernel
theorem dX12_costOf_123 : decode cX12_costOf 123 = .ok (.bipush 9, 2) := by decide +kernel
theorem dX12_costOf_125 : decode cX12_costOf 125 = .ok (.iload 7, 2) := by decide +kernel
theorem dX12_costOf_127 : decode cX12_costOf 127 = .ok (.imul, 1) := by decide +kernel
theorem dX12_costOf_128 : decode cX12_costOf 128 = .ok (.iload 8, 2) := by decide +kernel
theorem dX12_costOf_130 : decode cX12_costOf 130 = .ok (.iadd, 1) := by decide +kernel
theorem dX12_costOf_131 : decode cX12_costOf 131 = .ok (.bipush 10, 2) := by decide +kernel
theorem dX12_costOf_133 : decode cX12_costOf 133 = .ok (.iadd, 1) := by decide +kernel
theorem dX12_costOf_134 : decode cX12_costOf 134 = .ok (.iaload, 1) := by decide +kernel
theorem dX12_costOf_135 : decode cX12_costOf 135 = .ok (.iadd, 1) := by decide +kernel
theorem dX12_costOf_136 : decode cX12_costOf 136 = .ok (.istore 9, 2) := by decide +kernel
theorem dX12_costOf_138 : decode cX12_costOf 138 = .ok (.iload 7, 2) := by decide +kernel
theorem dX12_costOf_140 : decode cX12_costOf 140 = .ok (.iload 5, 2) := by decide +kernel
theorem dX12_costOf_142 : decode cX12_costOf 142 = .ok (.if_icmp .ge 46, 3) := by decide +kernel
theorem dX12_costOf_145 : decode cX12_costOf 145 = .ok (.aload_n 0, 1) := by decide +kernel
theorem dX12_costOf_146 : decode cX12_costOf 146 = .ok (.getfield 81, 3) := by decide +kernel
theorem dX12_costOf_149 : decode cX12_costOf 149 = .ok (.bipush 9, 2) := by decide +kernel
theorem dX12_costOf_151 : decode cX12_costOf 151 = .ok (.iload 7, 2) := by decide +kernel
theorem dX12_costOf_153 : decode cX12_costOf 153 = .ok (.imul, 1) := by decide +kernel
theorem dX12_costOf_154 : decode cX12_costOf 154 = .ok (.iload 8, 2) := by decide +kernel
theorem dX12_costOf_156 : decode cX12_costOf 156 = .ok (.iadd, 1) := by decide +kernel
theorem dX12_costOf_157 : decode cX12_costOf 157 = .ok (.bipush 9, 2) := by decide +kernel
theorem dX12_costOf_159 : decode cX12_costOf 159 = .ok (.iadd, 1) := by decide +kernel
theorem dX12_costOf_160 : decode cX12_costOf 160 = .ok (.iaload, 1) := by decide +kernel
theorem dX12_costOf_161 : decode cX12_costOf 161 = .ok (.iconst 2, 1) := by decide +kernel
theorem dX12_costOf_162 : decode cX12_costOf 162 = .ok (.iadd, 1) := by decide +kernel
theorem dX12_costOf_163 : decode cX12_costOf 163 = .ok (.iload 9, 2) := by decide +kernel
theorem dX12_costOf_165 : decode cX12_costOf 165 = .ok (.if_icmp .ge 23, 3) := by decide +kernel
theorem dX12_costOf_168 : decode cX12_costOf 168 = .ok (.aload_n 0, 1) := by decide +kernel
theorem dX12_costOf_169 : decode cX12_costOf 169 = .ok (.getfield 81, 3) := by decide +kernel
theorem dX12_costOf_172 : decode cX12_costOf 172 = .ok (.bipush 9, 2) := by decide +kernel
theorem dX12_costOf_174 : decode cX12_costOf 174 = .ok (.iload 7, 2) := by decide +kernel
theorem dX12_costOf_176 : decode cX12_costOf 176 = .ok (.imul, 1) := by decide +kernel
theorem dX12_costOf_177 : decode cX12_costOf 177 = .ok (.iload 8, 2) := by decide +kernel
theorem dX12_costOf_179 : decode cX12_costOf 179 = .ok (.iadd, 1) := by decide +kernel
theorem dX12_costOf_180 : decode cX12_costOf 180 = .ok (.bipush 9, 2) := by decide +kernel
theorem dX12_costOf_182 : decode cX12_costOf 182 = .ok (.iadd, 1) := by decide +kernel
theorem dX12_costOf_183 : decode cX12_costOf 183 = .ok (.iaload, 1) := by decide +kernel
theorem dX12_costOf_184 : decode cX12_costOf 184 = .ok (.iconst 2, 1) := by decide +kernel
theorem dX12_costOf_185 : decode cX12_costOf 185 = .ok (.iadd, 1) := by decide +kernel
theorem dX12_costOf_186 : decode cX12_costOf 186 = .ok (.istore 9, 2) := by decide +kernel
theorem dX12_costOf_188 : decode cX12_costOf 188 = .ok (.iload 8, 2) := by decide +kernel
theorem dX12_costOf_190 : decode cX12_costOf 190 = .ok (.iload 6, 2) := by decide +kernel
theorem dX12_costOf_192 : decode cX12_costOf 192 = .ok (.if_icmp .ge 44, 3) := by decide +kernel
theorem dX12_costOf_195 : decode cX12_costOf 195 = .ok (.aload_n 0, 1) := by decide +kernel
theorem dX12_costOf_196 : decode cX12_costOf 196 = .ok (.getfield 81, 3) := by decide +kernel
theorem dX12_costOf_199 : decode cX12_costOf 199 = .ok (.bipush 9, 2) := by decide +kernel
theorem dX12_costOf_201 : decode cX12_costOf 201 = .ok (.iload 7, 2) := by decide +kernel
theorem dX12_costOf_203 : decode cX12_costOf 203 = .ok (.imul, 1) := by decide +kernel
theorem dX12_costOf_204 : decode cX12_costOf 204 = .ok (.iload 8, 2) := by decide +kernel
theorem dX12_costOf_206 : decode cX12_costOf 206 = .ok (.iadd, 1) := by decide +kernel
theorem dX12_costOf_207 : decode cX12_costOf 207 = .ok (.iconst 1, 1) := by decide +kernel
theorem dX12_costOf_208 : decode cX12_costOf 208 = .ok (.iadd, 1) := by decide +kernel
theorem dX12_costOf_209 : decode cX12_costOf 209 = .ok (.iaload, 1) := by decide +kernel
theorem dX12_costOf_210 : decode cX12_costOf 210 = .ok (.iconst 2, 1) := by decide +kernel
theorem dX12_costOf_211 : decode cX12_costOf 211 = .ok (.iadd, 1) := by decide +kernel
theorem dX12_costOf_212 : decode cX12_costOf 212 = .ok (.iload 9, 2) := by decide +kernel
theorem dX12_costOf_214 : decode cX12_costOf 214 = .ok (.if_icmp .ge 22, 3) := by decide +kernel
theorem dX12_costOf_217 : decode cX12_costOf 217 = .ok (.aload_n 0, 1) := by decide +kernel
theorem dX12_costOf_218 : decode cX12_costOf 218 = .ok (.getfield 81, 3) := by decide +kernel
theorem dX12_costOf_221 : decode cX12_costOf 221 = .ok (.bipush 9, 2) := by decide +kernel
theorem dX12_costOf_223 : decode cX12_costOf 223 = .ok (.iload 7, 2) := by decide +kernel
theorem dX12_costOf_225 : decode cX12_costOf 225 = .ok (.imul, 1) := by decide +kernel
theorem dX12_costOf_226 : decode cX12_costOf 226 = .ok (.iload 8, 2) := by decide +kernel
theorem dX12_costOf_228 : decode cX12_costOf 228 = .ok (.iadd, 1) := by decide +kernel
theorem dX12_costOf_229 : decode cX12_costOf 229 = .ok (.iconst 1, 1) := by decide +kernel
theorem dX12_costOf_230 : decode cX12_costOf 230 = .ok (.iadd, 1) := by decide +kernel
theorem dX12_costOf_231 : decode cX12_costOf 231 = .ok (.iaload, 1) := by decide +kernel
theorem dX12_costOf_232 : decode cX12_costOf 232 = .ok (.iconst 2, 1) := by decide +kernel
theorem dX12_costOf_233 : decode cX12_costOf 233 = .ok (.iadd, 1) := by decide +kernel
theorem dX12_costOf_234 : decode cX12_costOf 234 = .ok (.istore 9, 2) := by decide +kernel
theorem dX12_costOf_236 : decode cX12_costOf 236 = .ok (.aload_n 0, 1) := by decide +kernel
theorem dX12_costOf_237 : decode cX12_costOf 237 = .ok (.getfield 81, 3) := by decide +kernel
theorem dX12_costOf_240 : decode cX12_costOf 240 = .ok (.bipush 9, 2) := by decide +kernel
theorem dX12_costOf_242 : decode cX12_costOf 242 = .ok (.iload 7, 2) := by decide +kernel
theorem dX12_costOf_244 : decode cX12_costOf 244 = .ok (.imul, 1) := by decide +kernel
theorem dX12_costOf_245 : decode cX12_costOf 245 = .ok (.iload 8, 2) := by decide +kernel
theorem dX12_costOf_247 : decode cX12_costOf 247 = .ok (.iadd, 1) := by decide +kernel
theorem dX12_costOf_248 : decode cX12_costOf 248 = .ok (.iload 9, 2) := by decide +kernel
theorem dX12_costOf_250 : decode cX12_costOf 250 = .ok (.iastore, 1) := by decide +kernel
theorem dX12_costOf_251 : decode cX12_costOf 251 = .ok (.iinc 8 (-1), 3) := by decide +kernel
theorem dX12_costOf_254 : decode cX12_costOf 254 = .ok (.goto (-214), 3) := by decide +kernel
theorem dX12_costOf_257 : decode cX12_costOf 257 = .ok (.iinc 7 (-1), 3) := by decide +kernel
theorem dX12_costOf_260 : decode cX12_costOf 260 = .ok (.goto (-229), 3) := by decide +kernel
theorem dX12_costOf_263 : decode cX12_costOf 263 = .ok (.aload_n 0, 1) := by decide +kernel
theorem dX12_costOf_264 : decode cX12_costOf 264 = .ok (.getfield 81, 3) := by decide +kernel
theorem dX12_costOf_267 : decode cX12_costOf 267 = .ok (.iconst 0, 1) := by decide +kernel
theorem dX12_costOf_268 : decode cX12_costOf 268 = .ok (.iaload, 1) := by decide +kernel
theorem dX12_costOf_269 : decode cX12_costOf 269 = .ok (.ireturn, 1) := by decide +kernel
theorem dX12_cost_0 : decode cX12_cost 0 = .ok (.aload_n 0, 1) := by decide +kernel
theorem dX12_cost_1 : decode cX12_cost 1 = .ok (.iload_n 2, 1) := by decide +kernel
theorem dX12_cost_2 : decode cX12_cost 2 = .ok (.iload_n 1, 1) := by decide +kernel
theorem dX12_cost_3 : decode cX12_cost 3 = .ok (.invokevirtual 228, 3) := by decide +kernel
theorem dX12_cost_6 : decode cX12_cost 6 = .ok (.ifCond .eq 23, 3) := by decide +kernel
theorem dX12_cost_9 : decode cX12_cost 9 = .ok (.aload_n 0, 1) := by decide +kernel
theorem dX12_cost_10 : decode cX12_cost 10 = .ok (.iload_n 3, 1) := by decide +kernel
theorem dX12_cost_11 : decode cX12_cost 11 = .ok (.iload_n 1, 1) := by decide +kernel
theorem dX12_cost_12 : decode cX12_cost 12 = .ok (.invokevirtual 228, 3) := by decide +kernel
theorem dX12_cost_15 : decode cX12_cost 15 = .ok (.ifCond .eq 14, 3) := by decide +kernel
theorem dX12_cost_18 : decode cX12_cost 18 = .ok (.aload_n 0, 1) := by decide +kernel
theorem dX12_cost_19 : decode cX12_cost 19 = .ok (.iload_n 2, 1) := by decide +kernel
theorem dX12_cost_20 : decode cX12_cost 20 = .ok (.iload_n 1, 1) := by decide +kernel
theorem dX12_cost_21 : decode cX12_cost 21 = .ok (.iload_n 3, 1) := by decide +kernel
theorem dX12_cost_22 : decode cX12_cost 22 = .ok (.iload_n 1, 1) := by decide +kernel
theorem dX12_cost_23 : decode cX12_cost 23 = .ok (.invokevirtual 231, 3) := by decide +kernel
theorem dX12_cost_26 : decode cX12_cost 26 = .ok (.goto 4, 3) := by decide +kernel
theorem dX12_cost_29 : decode cX12_cost 29 = .ok (.iconst (-1), 1) := by decide +kernel
theorem dX12_cost_30 : decode cX12_cost 30 = .ok (.ireturn, 1) := by decide +kernel
theorem dX12_walks_0 : decode cX12_walks 0 = .ok (.aload_n 0, 1) := by decide +kernel
theorem dX12_walks_1 : decode cX12_walks 1 = .ok (.iload_n 2, 1) := by decide +kernel
theorem dX12_walks_2 : decode cX12_walks 2 = .ok (.iload_n 1, 1) := by decide +kernel
theorem dX12_walks_3 : decode cX12_walks 3 = .ok (.iload_n 3, 1) := by decide +kernel
theorem dX12_walks_4 : decode cX12_walks 4 = .ok (.iload_n 1, 1) := by decide +kernel
theorem dX12_walks_5 : decode cX12_walks 5 = .ok (.invokevirtual 231, 3) := by decide +kernel
theorem dX12_walks_8 : decode cX12_walks 8 = .ok (.istore 4, 2) := by decide +kernel
theorem dX12_walks_10 : decode cX12_walks 10 = .ok (.aload_n 0, 1) := by decide +kernel
theorem dX12_walks_11 : decode cX12_walks 11 = .ok (.getfield 17, 3) := by decide +kernel
theorem dX12_walks_14 : decode cX12_walks 14 = .ok (.bipush 10, 2) := by decide +kernel
theorem dX12_walks_16 : decode cX12_walks 16 = .ok (.iload_n 2, 1) := by decide +kernel
theorem dX12_walks_17 : decode cX12_walks 17 = .ok (.imul, 1) := by decide +kernel
theorem dX12_walks_18 : decode cX12_walks 18 = .ok (.iload_n 1, 1) := by decide +kernel
theorem dX12_walks_19 : decode cX12_walks 19 = .ok (.iadd, 1) := by decide +kernel
theorem dX12_walks_20 : decode cX12_walks 20 = .ok (.iaload, 1) := by decide +kernel
theorem dX12_walks_21 : decode cX12_walks 21 = .ok (.istore 5, 2) := by decide +kernel
theorem dX12_walks_23 : decode cX12_walks 23 = .ok (.aload_n 0, 1) := by decide +kernel
theorem dX12_walks_24 : decode cX12_walks 24 = .ok (.getfield 17, 3) := by decide +kernel
theorem dX12_walks_27 : decode cX12_walks 27 = .ok (.bipush 10, 2) := by decide +kernel
theorem dX12_walks_29 : decode cX12_walks 29 = .ok (.iload_n 3, 1) := by decide +kernel
theorem dX12_walks_30 : decode cX12_walks 30 = .ok (.imul, 1) := by decide +kernel
theorem dX12_walks_31 : decode cX12_walks 31 = .ok (.iload_n 1, 1) := by decide +kernel
theorem dX12_walks_32 : decode cX12_walks 32 = .ok (.iadd, 1) := by decide +kernel
theorem dX12_walks_33 : decode cX12_walks 33 = .ok (.iaload, 1) := by decide +kernel
theorem dX12_walks_34 : decode cX12_walks 34 = .ok (.istore 6, 2) := by decide +kernel
theorem dX12_walks_36 : decode cX12_walks 36 = .ok (.aload_n 0, 1) := by decide +kernel
theorem dX12_walks_37 : decode cX12_walks 37 = .ok (.iconst 0, 1) := by decide +kernel
theorem dX12_walks_38 : decode cX12_walks 38 = .ok (.putfield 235, 3) := by decide +kernel
theorem dX12_walks_41 : decode cX12_walks 41 = .ok (.iconst 0, 1) := by decide +kernel
theorem dX12_walks_42 : decode cX12_walks 42 = .ok (.istore 7, 2) := by decide +kernel
theorem dX12_walks_44 : decode cX12_walks 44 = .ok (.iconst 0, 1) := by decide +kernel
theorem dX12_walks_45 : decode cX12_walks 45 = .ok (.istore 8, 2) := by decide +kernel
theorem dX12_walks_47 : decode cX12_walks 47 = .ok (.iload 7, 2) := by decide +kernel
theorem dX12_walks_49 : decode cX12_walks 49 = .ok (.iload 5, 2) := by decide +kernel
theorem dX12_walks_51 : decode cX12_walks 51 = .ok (.if_icmp .lt 10, 3) := by decide +kernel
theorem dX12_walks_54 : decode cX12_walks 54 = .ok (.iload 8, 2) := by decide +kernel
theorem dX12_walks_56 : decode cX12_walks 56 = .ok (.iload 6, 2) := by decide +kernel
theorem dX12_walks_58 : decode cX12_walks 58 = .ok (.if_icmp .ge 224, 3) := by decide +kernel
theorem dX12_walks_61 : decode cX12_walks 61 = .ok (.aload_n 0, 1) := by decide +kernel
theorem dX12_walks_62 : decode cX12_walks 62 = .ok (.getfield 81, 3) := by decide +kernel
theorem dX12_walks_65 : decode cX12_walks 65 = .ok (.bipush 9, 2) := by decide +kernel
theorem dX12_walks_67 : decode cX12_walks 67 = .ok (.iload 7, 2) := by decide +kernel
theorem dX12_walks_69 : decode cX12_walks 69 = .ok (.imul, 1) := by decide +kernel
theorem dX12_walks_70 : decode cX12_walks 70 = .ok (.iload 8, 2) := by decide +kernel
theorem dX12_walks_72 : decode cX12_walks 72 = .ok (.iadd, 1) := by decide +kernel
theorem dX12_walks_73 : decode cX12_walks 73 = .ok (.iaload, 1) := by decide +kernel
theorem dX12_walks_74 : decode cX12_walks 74 = .ok (.istore 9, 2) := by decide +kernel
theorem dX12_walks_76 : decode cX12_walks 76 = .ok (.iload 7, 2) := by decide +kernel
theorem dX12_walks_78 : decode cX12_walks 78 = .ok (.iload 5, 2) := by decide +kernel
theorem dX12_walks_80 : decode cX12_walks 80 = .ok (.if_icmp .ge 23, 3) := by decide +kernel
theorem dX12_walks_83 : decode cX12_walks 83 = .ok (.aload_n 0, 1) := by decide +kernel
theorem dX12_walks_84 : decode cX12_walks 84 = .ok (.getfield 20, 3) := by decide +kernel
theorem dX12_walks_87 : decode cX12_walks 87 = .ok (.bipush 80, 2) := by decide +kernel
theorem dX12_walks_89 : decode cX12_walks 89 = .ok (.iload_n 2, 1) := by decide +kernel
theorem dX12_walks_90 : decode cX12_walks 90 = .ok (.imul, 1) := by decide +kernel
theorem dX12_walks_91 : decode cX12_walks 91 = .ok (.bipush 8, 2) := by decide +kernel
theorem dX12_walks_93 : decode cX12_walks 93 = .ok (.iload_n 1, 1) := by decide +kernel
theorem dX12_walks_94 : decode cX12_walks 94 = .ok (.imul, 1) := by decide +kernel
theorem dX12_walks_95 : decode cX12_walks 95 = .ok (.iadd, 1) := by decide +kernel
theorem dX12_walks_96 : decode cX12_walks 96 = .ok (.iload 7, 2) := by decide +kernel
theorem dX12_walks_98 : decode cX12_walks 98 = .ok (.iadd, 1) := by decide +kernel
theorem dX12_walks_99 : decode cX12_walks 99 = .ok (.iaload, 1) := by decide +kernel
theorem dX12_walks_100 : decode cX12_walks 100 = .ok (.goto 4, 3) := by decide +kernel
theorem dX12_walks_103 : decode cX12_walks 103 = .ok (.iconst 0, 1) := by decide +kernel
theorem dX12_walks_104 : decode cX12_walks 104 = .ok (.istore 10, 2) := by decide +kernel
theorem dX12_walks_106 : decode cX12_walks 106 = .ok (.iload 8, 2) := by decide +kernel
theorem dX12_walks_108 : decode cX12_walks 108 = .ok (.iload 6, 2) := by decide +kernel
theorem dX12_walks_110 : decode cX12_walks 110 = .ok (.if_icmp .ge 23, 3) := by decide +kernel
theorem dX12_walks_113 : decode cX12_walks 113 = .ok (.aload_n 0, 1) := by decide +kernel
theorem dX12_walks_114 : decode cX12_walks 114 = .ok (.getfield 20, 3) := by decide +kernel
theorem dX12_walks_117 : decode cX12_walks 117 = .ok (.bipush 80, 2) := by decide +kernel
theorem dX12_walks_119 : decode cX12_walks 119 = .ok (.iload_n 3, 1) := by decide +kernel
theorem dX12_walks_120 : decode cX12_walks 120 = .ok (.imul, 1) := by decide +kernel
theorem dX12_walks_121 : decode cX12_walks 121 = .ok (.bipush 8, 2) := by decide +kernel
theorem dX12_walks_123 : decode cX12_walks 123 = .ok (.iload_n 1, 1) := by decide +kernel
theorem dX12_walks_124 : decode cX12_walks 124 = .ok (.imul, 1) := by decide +kernel
theorem dX12_walks_125 : decode cX12_walks 125 = .ok (.iadd, 1) := by decide +kernel
theorem dX12_walks_126 : decode cX12_walks 126 = .ok (.iload 8, 2) := by decide +kernel
theorem dX12_walks_128 : decode cX12_walks 128 = .ok (.iadd, 1) := by decide +kernel
theorem dX12_walks_129 : decode cX12_walks 129 = .ok (.iaload, 1) := by decide +kernel
theorem dX12_walks_130 : decode cX12_walks 130 = .ok (.goto 4, 3) := by decide +kernel
theorem dX12_walks_133 : decode cX12_walks 133 = .ok (.iconst 0, 1) := by decide +kernel
theorem dX12_walks_134 : decode cX12_walks 134 = .ok (.istore 11, 2) := by decide +kernel
theorem dX12_walks_136 : decode cX12_walks 136 = .ok (.iload 7, 2) := by decide +kernel
theorem dX12_walks_138 : decode cX12_walks 138 = .ok (.iload 5, 2) := by decide +kernel
theorem dX12_walks_140 : decode cX12_walks 140 = .ok (.if_icmp .ge 65, 3) := by decide +kernel
theorem dX12_walks_143 : decode cX12_walks 143 = .ok (.iload 8, 2) := by decide +kernel
theorem dX12_walks_145 : decode cX12_walks 145 = .ok (.iload 6, 2) := by decide +kernel
theorem dX12_walks_147 : decode cX12_walks 147 = .ok (.if_icmp .ge 58, 3) := by decide +kernel
theorem dX12_walks_150 : decode cX12_walks 150 = .ok (.iload 10, 2) := by decide +kernel
theorem dX12_walks_152 : decode cX12_walks 152 = .ok (.iload 11, 2) := by decide +kernel
theorem dX12_walks_154 : decode cX12_walks 154 = .ok (.invokestatic 225, 3) := by decide +kernel
theorem dX12_walks_157 : decode cX12_walks 157 = .ok (.aload_n 0, 1) := by decide +kernel
theorem dX12_walks_158 : decode cX12_walks 158 = .ok (.getfield 81, 3) := by decide +kernel
theorem dX12_walks_161 : decode cX12_walks 161 = .ok (.bipush 9, 2) := by decide +kernel
theorem dX12_walks_163 : decode cX12_walks 163 = .ok (.iload 7, 2) := by decide +kernel
theorem dX12_walks_165 : decode cX12_walks 165 = .ok (.imul, 1) := by decide +kernel
theorem dX12_walks_166 : decode cX12_walks 166 = .ok (.iload 8, 2) := by decide +kernel
theorem dX12_walks_168 : decode cX12_walks 168 = .ok (.iadd, 1) := by decide +kernel
theorem dX12_walks_169 : decode cX12_walks 169 = .ok (.bipush 10, 2) := by decide +kernel
theorem dX12_walks_171 : decode cX12_walks 171 = .ok (.iadd, 1) := by decide +kernel
theorem dX12_walks_172 : decode cX12_walks 172 = .ok (.iaload, 1) := by decide +kernel
theorem dX12_walks_173 : decode cX12_walks 173 = .ok (.iadd, 1) := by decide +kernel
theorem dX12_walks_174 : decode cX12_walks 174 = .ok (.iload 9, 2) := by decide +kernel
theorem dX12_walks_176 : decode cX12_walks 176 = .ok (.if_icmp .ne 29, 3) := by decide +kernel
theorem dX12_walks_179 : decode cX12_walks 179 = .ok (.aload_n 0, 1) := by decide +kernel
theorem dX12_walks_180 : decode cX12_walks 180 = .ok (.getfield 84, 3) := by decide +kernel
theorem dX12_walks_183 : decode cX12_walks 183 = .ok (.aload_n 0, 1) := by decide +kernel
theorem dX12_walks_184 : decode cX12_walks 184 = .ok (.getfield 235, 3) := by decide +kernel
theorem dX12_walks_187 : decode cX12_walks 187 = .ok (.bipush 100, 2) := by decide +kernel
theorem dX12_walks_189 : decode cX12_walks 189 = .ok (.iload 10, 2) := by decide +kernel
theorem dX12_walks_191 : decode cX12_walks 191 = .ok (.imul, 1) := by decide +kernel
theorem dX12_walks_192 : decode cX12_walks 192 = .ok (.iload 11, 2) := by decide +kernel
theorem dX12_walks_194 : decode cX12_walks 194 = .ok (.iadd, 1) := by decide +kernel
theorem dX12_walks_195 : decode cX12_walks 195 = .ok (.iastore, 1) := by decide +kernel
theorem dX12_walks_196 : decode cX12_walks 196 = .ok (.iinc 7 1, 3) := by decide +kernel
theorem dX12_walks_199 : decode cX12_walks 199 = .ok (.iinc 8 1, 3) := by decide +kernel
theorem dX12_walks_202 : decode cX12_walks 202 = .ok (.goto 67, 3) := by decide +kernel
theorem dX12_walks_205 : decode cX12_walks 205 = .ok (.iload 7, 2) := by decide +kernel
theorem dX12_walks_207 : decode cX12_walks 207 = .ok (.iload 5, 2) := by decide +kernel
theorem dX12_walks_209 : decode cX12_walks 209 = .ok (.if_icmp .ge 46, 3) := by decide +kernel
theorem dX12_walks_212 : decode cX12_walks 212 = .ok (.aload_n 0, 1) := by decide +kernel
theorem dX12_walks_213 : decode cX12_walks 213 = .ok (.getfield 81, 3) := by decide +kernel
theorem dX12_walks_216 : decode cX12_walks 216 = .ok (.bipush 9, 2) := by decide +kernel
theorem dX12_walks_218 : decode cX12_walks 218 = .ok (.iload 7, 2) := by decide +kernel
theorem dX12_walks_220 : decode cX12_walks 220 = .ok (.imul, 1) := by decide +kernel
theorem dX12_walks_221 : decode cX12_walks 221 = .ok (.iload 8, 2) := by decide +kernel
theorem dX12_walks_223 : decode cX12_walks 223 = .ok (.iadd, 1) := by decide +kernel
theorem dX12_walks_224 : decode cX12_walks 224 = .ok (.bipush 9, 2) := by decide +kernel
theorem dX12_walks_226 : decode cX12_walks 226 = .ok (.iadd, 1) := by decide +kernel
theorem dX12_walks_227 : decode cX12_walks 227 = .ok (.iaload, 1) := by decide +kernel
theorem dX12_walks_228 : decode cX12_walks 228 = .ok (.iconst 2, 1) := by decide +kernel
theorem dX12_walks_229 : decode cX12_walks 229 = .ok (.iadd, 1) := by decide +kernel
theorem dX12_walks_230 : decode cX12_walks 230 = .ok (.iload 9, 2) := by decide +kernel
theorem dX12_walks_232 : decode cX12_walks 232 = .ok (.if_icmp .ne 23, 3) := by decide +kernel
theorem dX12_walks_235 : decode cX12_walks 235 = .ok (.aload_n 0, 1) := by decide +kernel
theorem dX12_walks_236 : decode cX12_walks 236 = .ok (.getfield 84, 3) := by decide +kernel
theorem dX12_walks_239 : decode cX12_walks 239 = .ok (.aload_n 0, 1) := by decide +kernel
theorem dX12_walks_240 : decode cX12_walks 240 = .ok (.getfield 235, 3) := by decide +kernel
theorem dX12_walks_243 : decode cX12_walks 243 = .ok (.bipush 100, 2) := by decide +kernel
theorem dX12_walks_245 : decode cX12_walks 245 = .ok (.iload 10, 2) := by decide +kernel
theorem dX12_walks_247 : decode cX12_walks 247 = .ok (.imul, 1) := by decide +kernel
theorem dX12_walks_248 : decode cX12_walks 248 = .ok (.iastore, 1) := by decide +kernel
theorem dX12_walks_249 : decode cX12_walks 249 = .ok (.iinc 7 1, 3) := by decide +kernel
theorem dX12_walks_252 : decode cX12_walks 252 = .ok (.goto 17, 3) := by decide +kernel
theorem dX12_walks_255 : decode cX12_walks 255 = .ok (.aload_n 0, 1) := by decide +kernel
theorem dX12_walks_256 : decode cX12_walks 256 = .ok (.getfield 84, 3) := by decide +kernel
theorem dX12_walks_259 : decode cX12_walks 259 = .ok (.aload_n 0, 1) := by decide +kernel
theorem dX12_walks_260 : decode cX12_walks 260 = .ok (.getfield 235, 3) := by decide +kernel
theorem dX12_walks_263 : decode cX12_walks 263 = .ok (.iload 11, 2) := by decide +kernel
theorem dX12_walks_265 : decode cX12_walks 265 = .ok (.iastore, 1) := by decide +kernel
theorem dX12_walks_266 : decode cX12_walks 266 = .ok (.iinc 8 1, 3) := by decide +kernel
theorem dX12_walks_269 : decode cX12_walks 269 = .ok (.aload_n 0, 1) := by decide +kernel
theorem dX12_walks_270 : decode cX12_walks 270 = .ok (.dup, 1) := by decide +kernel
theorem dX12_walks_271 : decode cX12_walks 271 = .ok (.getfield 235, 3) := by decide +kernel
theorem dX12_walks_274 : decode cX12_walks 274 = .ok (.iconst 1, 1) := by decide +kernel
theorem dX12_walks_275 : decode cX12_walks 275 = .ok (.iadd, 1) := by decide +kernel
theorem dX12_walks_276 : decode cX12_walks 276 = .ok (.putfield 235, 3) := by decide +kernel
theorem dX12_walks_279 : decode cX12_walks 279 = .ok (.goto (-232), 3) := by decide +kernel
theorem dX12_walks_282 : decode cX12_walks 282 = .ok (.return_, 1) := by decide +kernel
theorem dX12_way_0 : decode cX12_way 0 = .ok (.aload_n 0, 1) := by decide +kernel
theorem dX12_way_1 : decode cX12_way 1 = .ok (.iload_n 2, 1) := by decide +kernel
theorem dX12_way_2 : decode cX12_way 2 = .ok (.iload_n 1, 1) := by decide +kernel
theorem dX12_way_3 : decode cX12_way 3 = .ok (.invokevirtual 228, 3) := by decide +kernel
theorem dX12_way_6 : decode cX12_way 6 = .ok (.ifCond .eq 18, 3) := by decide +kernel
theorem dX12_way_9 : decode cX12_way 9 = .ok (.aload_n 0, 1) := by decide +kernel
theorem dX12_way_10 : decode cX12_way 10 = .ok (.iload_n 3, 1) := by decide +kernel
theorem dX12_way_11 : decode cX12_way 11 = .ok (.iload_n 1, 1) := by decide +kernel
theorem dX12_way_12 : decode cX12_way 12 = .ok (.invokevirtual 228, 3) := by decide +kernel
theorem dX12_way_15 : decode cX12_way 15 = .ok (.ifCond .eq 9, 3) := by decide +kernel
theorem dX12_way_18 : decode cX12_way 18 = .ok (.iload 4, 2) := by decide +kernel
theorem dX12_way_20 : decode cX12_way 20 = .ok (.iconst (-1), 1) := by decide +kernel
theorem dX12_way_21 : decode cX12_way 21 = .ok (.if_icmp .ge 5, 3) := by decide +kernel
theorem dX12_way_24 : decode cX12_way 24 = .ok (.iconst (-1), 1) := by decide +kernel
theorem dX12_way_25 : decode cX12_way 25 = .ok (.ireturn, 1) := by decide +kernel
theorem dX12_way_26 : decode cX12_way 26 = .ok (.aload_n 0, 1) := by decide +kernel
theorem dX12_way_27 : decode cX12_way 27 = .ok (.iload_n 1, 1) := by decide +kernel
theorem dX12_way_28 : decode cX12_way 28 = .ok (.iload_n 2, 1) := by decide +kernel
theorem dX12_way_29 : decode cX12_way 29 = .ok (.iload_n 3, 1) := by decide +kernel
theorem dX12_way_30 : decode cX12_way 30 = .ok (.invokevirtual 238, 3) := by decide +kernel
theorem dX12_way_33 : decode cX12_way 33 = .ok (.iload 4, 2) := by decide +kernel
theorem dX12_way_35 : decode cX12_way 35 = .ok (.iconst (-1), 1) := by decide +kernel
theorem dX12_way_36 : decode cX12_way 36 = .ok (.if_icmp .ne 10, 3) := by decide +kernel
theorem dX12_way_39 : decode cX12_way 39 = .ok (.aload_n 0, 1) := by decide +kernel
theorem dX12_way_40 : decode cX12_way 40 = .ok (.getfield 235, 3) := by decide +kernel
theorem dX12_way_43 : decode cX12_way 43 = .ok (.goto 23, 3) := by decide +kernel
theorem dX12_way_46 : decode cX12_way 46 = .ok (.iload 4, 2) := by decide +kernel
theorem dX12_way_48 : decode cX12_way 48 = .ok (.aload_n 0, 1) := by decide +kernel
theorem dX12_way_49 : decode cX12_way 49 = .ok (.getfield 235, 3) := by decide +kernel
theorem dX12_way_52 : decode cX12_way 52 = .ok (.if_icmp .ge 13, 3) := by decide +kernel
theorem dX12_way_55 : decode cX12_way 55 = .ok (.aload_n 0, 1) := by decide +kernel
theorem dX12_way_56 : decode cX12_way 56 = .ok (.getfield 84, 3) := by decide +kernel
theorem dX12_way_59 : decode cX12_way 59 = .ok (.iload 4, 2) := by decide +kernel
theorem dX12_way_61 : decode cX12_way 61 = .ok (.iaload, 1) := by decide +kernel
theorem dX12_way_62 : decode cX12_way 62 = .ok (.goto 4, 3) := by decide +kernel
theorem dX12_way_65 : decode cX12_way 65 = .ok (.iconst (-1), 1) := by decide +kernel
theorem dX12_way_66 : decode cX12_way 66 = .ok (.ireturn, 1) := by decide +kernel
theorem dX12_areKin_0 : decode cX12_areKin 0 = .ok (.aload_n 0, 1) := by decide +kernel
theorem dX12_areKin_1 : decode cX12_areKin 1 = .ok (.getfield 17, 3) := by decide +kernel
theorem dX12_areKin_4 : decode cX12_areKin 4 = .ok (.bipush 10, 2) := by decide +kernel
theorem dX12_areKin_6 : decode cX12_areKin 6 = .ok (.iload_n 1, 1) := by decide +kernel
theorem dX12_areKin_7 : decode cX12_areKin 7 = .ok (.imul, 1) := by decide +kernel
theorem dX12_areKin_8 : decode cX12_areKin 8 = .ok (.iload_n 2, 1) := by decide +kernel
theorem dX12_areKin_9 : decode cX12_areKin 9 = .ok (.iadd, 1) := by decide +kernel
theorem dX12_areKin_10 : decode cX12_areKin 10 = .ok (.iaload, 1) := by decide +kernel
theorem dX12_areKin_11 : decode cX12_areKin 11 = .ok (.istore 5, 2) := by decide +kernel
theorem dX12_areKin_13 : decode cX12_areKin 13 = .ok (.aload_n 0, 1) := by decide +kernel
theorem dX12_areKin_14 : decode cX12_areKin 14 = .ok (.getfield 17, 3) := by decide +kernel
theorem dX12_areKin_17 : decode cX12_areKin 17 = .ok (.bipush 10, 2) := by decide +kernel
theorem dX12_areKin_19 : decode cX12_areKin 19 = .ok (.iload_n 3, 1) := by decide +kernel
theorem dX12_areKin_20 : decode cX12_areKin 20 = .ok (.imul, 1) := by decide +kernel
theorem dX12_areKin_21 : decode cX12_areKin 21 = .ok (.iload 4, 2) := by decide +kernel
theorem dX12_areKin_23 : decode cX12_areKin 23 = .ok (.iadd, 1) := by decide +kernel
theorem dX12_areKin_24 : decode cX12_areKin 24 = .ok (.iaload, 1) := by decide +kernel
theorem dX12_areKin_25 : decode cX12_areKin 25 = .ok (.istore 6, 2) := by decide +kernel
theorem dX12_areKin_27 : decode cX12_areKin 27 = .ok (.bipush 10, 2) := by decide +kernel
theorem dX12_areKin_29 : decode cX12_areKin 29 = .ok (.aload_n 0, 1) := by decide +kernel
theorem dX12_areKin_30 : decode cX12_areKin 30 = .ok (.iload_n 1, 1) := by decide +kernel
theorem dX12_areKin_31 : decode cX12_areKin 31 = .ok (.iload_n 2, 1) := by decide +kernel
theorem dX12_areKin_32 : decode cX12_areKin 32 = .ok (.iload_n 3, 1) := by decide +kernel
theorem dX12_areKin_33 : decode cX12_areKin 33 = .ok (.iload 4, 2) := by decide +kernel
theorem dX12_areKin_35 : decode cX12_areKin 35 = .ok (.invokevirtual 231, 3) := by decide +kernel
theorem dX12_areKin_38 : decode cX12_areKin 38 = .ok (.imul, 1) := by decide +kernel
theorem dX12_areKin_39 : decode cX12_areKin 39 = .ok (.aload_n 0, 1) := by decide +kernel
theorem dX12_areKin_40 : decode cX12_areKin 40 = .ok (.getfield 7, 3) := by decide +kernel
theorem dX12_areKin_43 : decode cX12_areKin 43 = .ok (.iload 5, 2) := by decide +kernel
theorem dX12_areKin_45 : decode cX12_areKin 45 = .ok (.iload 6, 2) := by decide +kernel
theorem dX12_areKin_47 : decode cX12_areKin 47 = .ok (.if_icmp .le 8, 3) := by decide +kernel
theorem dX12_areKin_50 : decode cX12_areKin 50 = .ok (.iload 5, 2) := by decide +kernel
theorem dX12_areKin_52 : decode cX12_areKin 52 = .ok (.goto 5, 3) := by decide +kernel
theorem dX12_areKin_55 : decode cX12_areKin 55 = .ok (.iload 6, 2) := by decide +kernel
theorem dX12_areKin_57 : decode cX12_areKin 57 = .ok (.imul, 1) := by decide +kernel
theorem dX12_areKin_58 : decode cX12_areKin 58 = .ok (.if_icmp .gt 7, 3) := by decide +kernel
theorem dX12_areKin_61 : decode cX12_areKin 61 = .ok (.iconst 1, 1) := by decide +kernel
theorem dX12_areKin_62 : decode cX12_areKin 62 = .ok (.goto 4, 3) := by decide +kernel
theorem dX12_areKin_65 : decode cX12_areKin 65 = .ok (.iconst 0, 1) := by decide +kernel
theorem dX12_areKin_66 : decode cX12_areKin 66 = .ok (.ireturn, 1) := by decide +kernel
theorem dX12_kin_0 : decode cX12_kin 0 = .ok (.aload_n 0, 1) := by decide +kernel
theorem dX12_kin_1 : decode cX12_kin 1 = .ok (.iload_n 2, 1) := by decide +kernel
theorem dX12_kin_2 : decode cX12_kin 2 = .ok (.iload_n 1, 1) := by decide +kernel
theorem dX12_kin_3 : decode cX12_kin 3 = .ok (.invokevirtual 228, 3) := by decide +kernel
theorem dX12_kin_6 : decode cX12_kin 6 = .ok (.ifCond .eq 12, 3) := by decide +kernel
theorem dX12_kin_9 : decode cX12_kin 9 = .ok (.aload_n 0, 1) := by decide +kernel
theorem dX12_kin_10 : decode cX12_kin 10 = .ok (.iload_n 3, 1) := by decide +kernel
theorem dX12_kin_11 : decode cX12_kin 11 = .ok (.iload_n 1, 1) := by decide +kernel
theorem dX12_kin_12 : decode cX12_kin 12 = .ok (.invokevirtual 228, 3) := by decide +kernel
theorem dX12_kin_15 : decode cX12_kin 15 = .ok (.ifCond .ne 5, 3) := by decide +kernel
theorem dX12_kin_18 : decode cX12_kin 18 = .ok (.iconst (-1), 1) := by decide +kernel
theorem dX12_kin_19 : decode cX12_kin 19 = .ok (.ireturn, 1) := by decide +kernel
theorem dX12_kin_20 : decode cX12_kin 20 = .ok (.iload_n 2, 1) := by decide +kernel
theorem dX12_kin_21 : decode cX12_kin 21 = .ok (.iload_n 3, 1) := by decide +kernel
theorem dX12_kin_22 : decode cX12_kin 22 = .ok (.if_icmp .ne 8, 3) := by decide +kernel
theorem dX12_kin_25 : decode cX12_kin 25 = .ok (.bipush (-2), 2) := by decide +kernel
theorem dX12_kin_27 : decode cX12_kin 27 = .ok (.goto 19, 3) := by decide +kernel
theorem dX12_kin_30 : decode cX12_kin 30 = .ok (.aload_n 0, 1) := by decide +kernel
theorem dX12_kin_31 : decode cX12_kin 31 = .ok (.iload_n 2, 1) := by decide +kernel
theorem dX12_kin_32 : decode cX12_kin 32 = .ok (.iload_n 1, 1) := by decide +kernel
theorem dX12_kin_33 : decode cX12_kin 33 = .ok (.iload_n 3, 1) := by decide +kernel
theorem dX12_kin_34 : decode cX12_kin 34 = .ok (.iload_n 1, 1) := by decide +kernel
theorem dX12_kin_35 : decode cX12_kin 35 = .ok (.invokevirtual 242, 3) := by decide +kernel
theorem dX12_kin_38 : decode cX12_kin 38 = .ok (.ifCond .eq 7, 3) := by decide +kernel
theorem dX12_kin_41 : decode cX12_kin 41 = .ok (.iconst 1, 1) := by decide +kernel
theorem dX12_kin_42 : decode cX12_kin 42 = .ok (.goto 4, 3) := by decide +kernel
theorem dX12_kin_45 : decode cX12_kin 45 = .ok (.iconst 0, 1) := by decide +kernel
theorem dX12_kin_46 : decode cX12_kin 46 = .ok (.ireturn, 1) := by decide +kernel
theorem dX12_setOf_0 : decode cX12_setOf 0 = .ok (.iconst 1, 1) := by decide +kernel
theorem dX12_setOf_1 : decode cX12_setOf 1 = .ok (.iload_n 2, 1) := by decide +kernel
theorem dX12_setOf_2 : decode cX12_setOf 2 = .ok (.ishl, 1) := by decide +kernel
theorem dX12_setOf_3 : decode cX12_setOf 3 = .ok (.istore_n 3, 1) := by decide +kernel
theorem dX12_setOf_4 : decode cX12_setOf 4 = .ok (.iconst 1, 1) := by decide +kernel
theorem dX12_setOf_5 : decode cX12_setOf 5 = .ok (.istore 4, 2) := by decide +kernel
theorem dX12_setOf_7 : decode cX12_setOf 7 = .ok (.iload 4, 2) := by decide +kernel
theorem dX12_setOf_9 : decode cX12_setOf 9 = .ok (.ifCond .eq 122, 3) := by decide +kernel
theorem dX12_setOf_12 : decode cX12_setOf 12 = .ok (.iconst 0, 1) := by decide +kernel
theorem dX12_setOf_13 : decode cX12_setOf 13 = .ok (.istore 4, 2) := by decide +kernel
theorem dX12_setOf_15 : decode cX12_setOf 15 = .ok (.iconst 0, 1) := by decide +kernel
theorem dX12_setOf_16 : decode cX12_setOf 16 = .ok (.istore 5, 2) := by decide +kernel
theorem dX12_setOf_18 : decode cX12_setOf 18 = .ok (.iload 5, 2) := by decide +kernel
theorem dX12_setOf_20 : decode cX12_setOf 20 = .ok (.aload_n 0, 1) := by decide +kernel
theorem dX12_setOf_21 : decode cX12_setOf 21 = .ok (.getfield 120, 3) := by decide +kernel
theorem dX12_setOf_24 : decode cX12_setOf 24 = .ok (.if_icmp .ge 104, 3) := by decide +kernel
theorem dX12_setOf_27 : decode cX12_setOf 27 = .ok (.iconst 0, 1) := by decide +kernel
theorem dX12_setOf_28 : decode cX12_setOf 28 = .ok (.istore 6, 2) := by decide +kernel
theorem dX12_setOf_30 : decode cX12_setOf 30 = .ok (.iload 6, 2) := by decide +kernel
theorem dX12_setOf_32 : decode cX12_setOf 32 = .ok (.aload_n 0, 1) := by decide +kernel
theorem dX12_setOf_33 : decode cX12_setOf 33 = .ok (.getfield 120, 3) := by decide +kernel
theorem dX12_setOf_36 : decode cX12_setOf 36 = .ok (.if_icmp .ge 86, 3) := by decide +kernel
theorem dX12_setOf_39 : decode cX12_setOf 39 = .ok (.iload_n 3, 1) := by decide +kernel
theorem dX12_setOf_40 : decode cX12_setOf 40 = .ok (.iload 5, 2) := by decide +kernel
theorem dX12_setOf_42 : decode cX12_setOf 42 = .ok (.ishr, 1) := by decide +kernel
theorem dX12_setOf_43 : decode cX12_setOf 43 = .ok (.iconst 1, 1) := by decide +kernel
theorem dX12_setOf_44 : decode cX12_setOf 44 = .ok (.iand, 1) := by decide +kernel
theorem dX12_setOf_45 : decode cX12_setOf 45 = .ok (.iconst 1, 1) := by decide +kernel
theorem dX12_setOf_46 : decode cX12_setOf 46 = .ok (.if_icmp .ne 26, 3) := by decide +kernel
theorem dX12_setOf_49 : decode cX12_setOf 49 = .ok (.iload_n 3, 1) := by decide +kernel
theorem dX12_setOf_50 : decode cX12_setOf 50 = .ok (.iload 6, 2) := by decide +kernel
theorem dX12_setOf_52 : decode cX12_setOf 52 = .ok (.ishr, 1) := by decide +kernel
theorem dX12_setOf_53 : decode cX12_setOf 53 = .ok (.iconst 1, 1) := by decide +kernel
theorem dX12_setOf_54 : decode cX12_setOf 54 = .ok (.iand, 1) := by decide +kernel
theorem dX12_setOf_55 : decode cX12_setOf 55 = .ok (.ifCond .ne 17, 3) := by decide +kernel
theorem dX12_setOf_58 : decode cX12_setOf 58 = .ok (.aload_n 0, 1) := by decide +kernel
theorem dX12_setOf_59 : decode cX12_setOf 59 = .ok (.iload 6, 2) := by decide +kernel
theorem dX12_setOf_61 : decode cX12_setOf 61 = .ok (.iload_n 1, 1) := by decide +kernel
theorem dX12_setOf_62 : decode cX12_setOf 62 = .ok (.invokevirtual 228, 3) := by decide +kernel
theorem dX12_setOf_65 : decode cX12_setOf 65 = .ok (.ifCond .eq 7, 3) := by decide +kernel
theorem dX12_setOf_68 : decode cX12_setOf 68 = .ok (.iconst 1, 1) := by decide +kernel
theorem dX12_setOf_69 : decode cX12_setOf 69 = .ok (.goto 4, 3) := by decide +kernel
theorem dX12_setOf_72 : decode cX12_setOf 72 = .ok (.iconst 0, 1) := by decide +kernel
theorem dX12_setOf_73 : decode cX12_setOf 73 = .ok (.istore 7, 2) := by decide +kernel
theorem dX12_setOf_75 : decode cX12_setOf 75 = .ok (.iload 7, 2) := by decide +kernel
theorem dX12_setOf_77 : decode cX12_setOf 77 = .ok (.ifCond .eq 39, 3) := by decide +kernel
theorem dX12_setOf_80 : decode cX12_setOf 80 = .ok (.aload_n 0, 1) := by decide +kernel
theorem dX12_setOf_81 : decode cX12_setOf 81 = .ok (.iload 5, 2) := by decide +kernel
theorem dX12_setOf_83 : decode cX12_setOf 83 = .ok (.iload_n 1, 1) := by decide +kernel
theorem dX12_setOf_84 : decode cX12_setOf 84 = .ok (.iload 6, 2) := by decide +kernel
theorem dX12_setOf_86 : decode cX12_setOf 86 = .ok (.iload_n 1, 1) := by decide +kernel
theorem dX12_setOf_87 : decode cX12_setOf 87 = .ok (.invokevirtual 242, 3) := by decide +kernel
theorem dX12_setOf_90 : decode cX12_setOf 90 = .ok (.ifCond .ne 16, 3) := by decide +kernel
theorem dX12_setOf_93 : decode cX12_setOf 93 = .ok (.aload_n 0, 1) := by decide +kernel
theorem dX12_setOf_94 : decode cX12_setOf 94 = .ok (.iload 6, 2) := by decide +kernel
theorem dX12_setOf_96 : decode cX12_setOf 96 = .ok (.iload_n 1, 1) := by decide +kernel
theorem dX12_setOf_97 : decode cX12_setOf 97 = .ok (.iload 5, 2) := by decide +kernel
theorem dX12_setOf_99 : decode cX12_setOf 99 = .ok (.iload_n 1, 1) := by decide +kernel
theorem dX12_setOf_100 : decode cX12_setOf 100 = .ok (.invokevirtual 242, 3) := by decide +kernel
theorem dX12_setOf_103 : decode cX12_setOf 103 = .ok (.ifCond .eq 13, 3) := by decide +kernel
theorem dX12_setOf_106 : decode cX12_setOf 106 = .ok (.iload_n 3, 1) := by decide +kernel
theorem dX12_setOf_107 : decode cX12_setOf 107 = .ok (.iconst 1, 1) := by decide +kernel
theorem dX12_setOf_108 : decode cX12_setOf 108 = .ok (.iload 6, 2) := by decide +kernel
theorem dX12_setOf_110 : decode cX12_setOf 110 = .ok (.ishl, 1) := by decide +kernel
theorem dX12_setOf_111 : decode cX12_setOf 111 = .ok (.ior, 1) := by decide +kernel
theorem dX12_setOf_112 : decode cX12_setOf 112 = .ok (.istore_n 3, 1) := by decide +kernel
theorem dX12_setOf_113 : decode cX12_setOf 113 = .ok (.iconst 1, 1) := by decide +kernel
theorem dX12_setOf_114 : decode cX12_setOf 114 = .ok (.istore 4, 2) := by decide +kernel
theorem dX12_setOf_116 : decode cX12_setOf 116 = .ok (.iinc 6 1, 3) := by decide +kernel
theorem dX12_setOf_119 : decode cX12_setOf 119 = .ok (.goto (-89), 3) := by decide +kernel
theorem dX12_setOf_122 : decode cX12_setOf 122 = .ok (.iinc 5 1, 3) := by decide +kernel
theorem dX12_setOf_125 : decode cX12_setOf 125 = .ok (.goto (-107), 3) := by decide +kernel
theorem dX12_setOf_128 : decode cX12_setOf 128 = .ok (.goto (-121), 3) := by decide +kernel
theorem dX12_setOf_131 : decode cX12_setOf 131 = .ok (.iload_n 3, 1) := by decide +kernel
theorem dX12_setOf_132 : decode cX12_setOf 132 = .ok (.ireturn, 1) := by decide +kernel
theorem dX12_set_0 : decode cX12_set 0 = .ok (.aload_n 0, 1) := by decide +kernel
theorem dX12_set_1 : decode cX12_set 1 = .ok (.iload_n 2, 1) := by decide +kernel
theorem dX12_set_2 : decode cX12_set 2 = .ok (.iload_n 1, 1) := by decide +kernel
theorem dX12_set_3 : decode cX12_set 3 = .ok (.invokevirtual 228, 3) := by decide +kernel
theorem dX12_set_6 : decode cX12_set 6 = .ok (.ifCond .eq 12, 3) := by decide +kernel
theorem dX12_set_9 : decode cX12_set 9 = .ok (.aload_n 0, 1) := by decide +kernel
theorem dX12_set_10 : decode cX12_set 10 = .ok (.iload_n 1, 1) := by decide +kernel
theorem dX12_set_11 : decode cX12_set 11 = .ok (.iload_n 2, 1) := by decide +kernel
theorem dX12_set_12 : decode cX12_set 12 = .ok (.invokevirtual 246, 3) := by decide +kernel
theorem dX12_set_15 : decode cX12_set 15 = .ok (.goto 4, 3) := by decide +kernel
theorem dX12_set_18 : decode cX12_set 18 = .ok (.iconst (-1), 1) := by decide +kernel
theorem dX12_set_19 : decode cX12_set 19 = .ok (.ireturn, 1) := by decide +kernel
theorem dX12_odds_0 : decode cX12_odds 0 = .ok (.aload_n 0, 1) := by decide +kernel
theorem dX12_odds_1 : decode cX12_odds 1 = .ok (.iload_n 2, 1) := by decide +kernel
theorem dX12_odds_2 : decode cX12_odds 2 = .ok (.iload_n 1, 1) := by decide +kernel
theorem dX12_odds_3 : decode cX12_odds 3 = .ok (.invokevirtual 228, 3) := by decide +kernel
theorem dX12_odds_6 : decode cX12_odds 6 = .ok (.ifCond .eq 21, 3) := by decide +kernel
theorem dX12_odds_9 : decode cX12_odds 9 = .ok (.aload_n 0, 1) := by decide +kernel
theorem dX12_odds_10 : decode cX12_odds 10 = .ok (.iload_n 3, 1) := by decide +kernel
theorem dX12_odds_11 : decode cX12_odds 11 = .ok (.invokevirtual 130, 3) := by decide +kernel
theorem dX12_odds_14 : decode cX12_odds 14 = .ok (.ifCond .eq 13, 3) := by decide +kernel
theorem dX12_odds_17 : decode cX12_odds 17 = .ok (.iload 4, 2) := by decide +kernel
theorem dX12_odds_19 : decode cX12_odds 19 = .ok (.iconst 0, 1) := by decide +kernel
theorem dX12_odds_20 : decode cX12_odds 20 = .ok (.iconst 1, 1) := by decide +kernel
theorem dX12_odds_21 : decode cX12_odds 21 = .ok (.invokestatic 123, 3) := by decide +kernel
theorem dX12_odds_24 : decode cX12_odds 24 = .ok (.ifCond .ne 5, 3) := by decide +kernel
theorem dX12_odds_27 : decode cX12_odds 27 = .ok (.iconst (-1), 1) := by decide +kernel
theorem dX12_odds_28 : decode cX12_odds 28 = .ok (.ireturn, 1) := by decide +kernel
theorem dX12_odds_29 : decode cX12_odds 29 = .ok (.iconst 0, 1) := by decide +kernel
theorem dX12_odds_30 : decode cX12_odds 30 = .ok (.istore 5, 2) := by decide +kernel
theorem dX12_odds_32 : decode cX12_odds 32 = .ok (.iconst 0, 1) := by decide +kernel
theorem dX12_odds_33 : decode cX12_odds 33 = .ok (.istore 6, 2) := by decide +kernel
theorem dX12_odds_35 : decode cX12_odds 35 = .ok (.iconst 0, 1) := by decide +kernel
theorem dX12_odds_36 : decode cX12_odds 36 = .ok (.istore 7, 2) := by decide +kernel
theorem dX12_odds_38 : decode cX12_odds 38 = .ok (.iload 7, 2) := by decide +kernel
theorem dX12_odds_40 : decode cX12_odds 40 = .ok (.bipush 10, 2) := by decide +kernel
theorem dX12_odds_42 : decode cX12_odds 42 = .ok (.if_icmp .ge 50, 3) := by decide +kernel
theorem dX12_odds_45 : decode cX12_odds 45 = .ok (.iload 7, 2) := by decide +kernel
theorem dX12_odds_47 : decode cX12_odds 47 = .ok (.iload_n 1, 1) := by decide +kernel
theorem dX12_odds_48 : decode cX12_odds 48 = .ok (.if_icmp .eq 38, 3) := by decide +kernel
theorem dX12_odds_51 : decode cX12_odds 51 = .ok (.aload_n 0, 1) := by decide +kernel
theorem dX12_odds_52 : decode cX12_odds 52 = .ok (.iload_n 3, 1) := by decide +kernel
theorem dX12_odds_53 : decode cX12_odds 53 = .ok (.iload 7, 2) := by decide +kernel
theorem dX12_odds_55 : decode cX12_odds 55 = .ok (.invokevirtual 228, 3) := by decide +kernel
theorem dX12_odds_58 : decode cX12_odds 58 = .ok (.ifCond .eq 28, 3) := by decide +kernel
theorem dX12_odds_61 : decode cX12_odds 61 = .ok (.iinc 6 1, 3) := by decide +kernel
theorem dX12_odds_64 : decode cX12_odds 64 = .ok (.iload 5, 2) := by decide +kernel
theorem dX12_odds_66 : decode cX12_odds 66 = .ok (.aload_n 0, 1) := by decide +kernel
theorem dX12_odds_67 : decode cX12_odds 67 = .ok (.iload_n 2, 1) := by decide +kernel
theorem dX12_odds_68 : decode cX12_odds 68 = .ok (.iload_n 1, 1) := by decide +kernel
theorem dX12_odds_69 : decode cX12_odds 69 = .ok (.iload_n 3, 1) := by decide +kernel
theorem dX12_odds_70 : decode cX12_odds 70 = .ok (.iload 7, 2) := by decide +kernel
theorem dX12_odds_72 : decode cX12_odds 72 = .ok (.invokevirtual 242, 3) := by decide +kernel
theorem dX12_odds_75 : decode cX12_odds 75 = .ok (.ifCond .eq 7, 3) := by decide +kernel
theorem dX12_odds_78 : decode cX12_odds 78 = .ok (.iconst 1, 1) := by decide +kernel
theorem dX12_odds_79 : decode cX12_odds 79 = .ok (.goto 4, 3) := by decide +kernel
theorem dX12_odds_82 : decode cX12_odds 82 = .ok (.iconst 0, 1) := by decide +kernel
theorem dX12_odds_83 : decode cX12_odds 83 = .ok (.iadd, 1) := by decide +kernel
theorem dX12_odds_84 : decode cX12_odds 84 = .ok (.istore 5, 2) := by decide +kernel
theorem dX12_odds_86 : decode cX12_odds 86 = .ok (.iinc 7 1, 3) := by decide +kernel
theorem dX12_odds_89 : decode cX12_odds 89 = .ok (.goto (-51), 3) := by decide +kernel
theorem dX12_odds_92 : decode cX12_odds 92 = .ok (.iload 4, 2) := by decide +kernel
theorem dX12_odds_94 : decode cX12_odds 94 = .ok (.ifCond .ne 8, 3) := by decide +kernel
theorem dX12_odds_97 : decode cX12_odds 97 = .ok (.iload 5, 2) := by decide +kernel
theorem dX12_odds_99 : decode cX12_odds 99 = .ok (.goto 5, 3) := by decide +kernel
theorem dX12_odds_102 : decode cX12_odds 102 = .ok (.iload 6, 2) := by decide +kernel
theorem dX12_odds_104 : decode cX12_odds 104 = .ok (.ireturn, 1) := by decide +kernel
theorem dX12_matches_0 : decode cX12_matches 0 = .ok (.aload_n 0, 1) := by decide +kernel
theorem dX12_matches_1 : decode cX12_matches 1 = .ok (.iload_n 1, 1) := by decide +kernel
theorem dX12_matches_2 : decode cX12_matches 2 = .ok (.invokevirtual 130, 3) := by decide +kernel
theorem dX12_matches_5 : decode cX12_matches 5 = .ok (.ifCond .eq 11, 3) := by decide +kernel
theorem dX12_matches_8 : decode cX12_matches 8 = .ok (.aload_n 0, 1) := by decide +kernel
theorem dX12_matches_9 : decode cX12_matches 9 = .ok (.iload_n 2, 1) := by decide +kernel
theorem dX12_matches_10 : decode cX12_matches 10 = .ok (.invokevirtual 130, 3) := by decide +kernel
theorem dX12_matches_13 : decode cX12_matches 13 = .ok (.ifCond .ne 5, 3) := by decide +kernel
theorem dX12_matches_16 : decode cX12_matches 16 = .ok (.iconst (-1), 1) := by decide +kernel
theorem dX12_matches_17 : decode cX12_matches 17 = .ok (.ireturn, 1) := by decide +kernel
theorem dX12_matches_18 : decode cX12_matches 18 = .ok (.iload_n 1, 1) := by decide +kernel
theorem dX12_matches_19 : decode cX12_matches 19 = .ok (.iload_n 2, 1) := by decide +kernel
theorem dX12_matches_20 : decode cX12_matches 20 = .ok (.if_icmp .eq 33, 3) := by decide +kernel
theorem dX12_matches_23 : decode cX12_matches 23 = .ok (.iload_n 3, 1) := by decide +kernel
theorem dX12_matches_24 : decode cX12_matches 24 = .ok (.iconst 0, 1) := by decide +kernel
theorem dX12_matches_25 : decode cX12_matches 25 = .ok (.bipush 26, 2) := by decide +kernel
theorem dX12_matches_27 : decode cX12_matches 27 = .ok (.invokestatic 123, 3) := by decide +kernel
theorem dX12_matches_30 : decode cX12_matches 30 = .ok (.ifCond .eq 23, 3) := by decide +kernel
theorem dX12_matches_33 : decode cX12_matches 33 = .ok (.iload 4, 2) := by decide +kernel
theorem dX12_matches_35 : decode cX12_matches 35 = .ok (.iconst 0, 1) := by decide +kernel
theorem dX12_matches_36 : decode cX12_matches 36 = .ok (.bipush 26, 2) := by decide +kernel
theorem dX12_matches_38 : decode cX12_matches 38 = .ok (.invokestatic 123, 3) := by decide +kernel
theorem dX12_matches_41 : decode cX12_matches 41 = .ok (.ifCond .eq 12, 3) := by decide +kernel
theorem dX12_matches_44 : decode cX12_matches 44 = .ok (.iload_n 3, 1) := by decide +kernel
theorem dX12_matches_45 : decode cX12_matches 45 = .ok (.ifCond .ne 11, 3) := by decide +kernel
theorem dX12_matches_48 : decode cX12_matches 48 = .ok (.iload 4, 2) := by decide +kernel
theorem dX12_matches_50 : decode cX12_matches 50 = .ok (.ifCond .ne 6, 3) := by decide +kernel
theorem dX12_matches_53 : decode cX12_matches 53 = .ok (.bipush (-2), 2) := by decide +kernel
theorem dX12_matches_55 : decode cX12_matches 55 = .ok (.ireturn, 1) := by decide +kernel
theorem dX12_matches_56 : decode cX12_matches 56 = .ok (.iconst 0, 1) := by decide +kernel
theorem dX12_matches_57 : decode cX12_matches 57 = .ok (.istore 5, 2) := by decide +kernel
theorem dX12_matches_59 : decode cX12_matches 59 = .ok (.iconst 0, 1) := by decide +kernel
theorem dX12_matches_60 : decode cX12_matches 60 = .ok (.istore 6, 2) := by decide +kernel
theorem dX12_matches_62 : decode cX12_matches 62 = .ok (.iload 6, 2) := by decide +kernel
theorem dX12_matches_64 : decode cX12_matches 64 = .ok (.bipush 10, 2) := by decide +kernel
theorem dX12_matches_66 : decode cX12_matches 66 = .ok (.if_icmp .ge 115, 3) := by decide +kernel
theorem dX12_matches_69 : decode cX12_matches 69 = .ok (.aload_n 0, 1) := by decide +kernel
theorem dX12_matches_70 : decode cX12_matches 70 = .ok (.iload_n 1, 1) := by decide +kernel
theorem dX12_matches_71 : decode cX12_matches 71 = .ok (.iload 6, 2) := by decide +kernel
theorem dX12_matches_73 : decode cX12_matches 73 = .ok (.invokevirtual 228, 3) := by decide +kernel
theorem dX12_matches_76 : decode cX12_matches 76 = .ok (.ifCond .eq 99, 3) := by decide +kernel
theorem dX12_matches_79 : decode cX12_matches 79 = .ok (.aload_n 0, 1) := by decide +kernel
theorem dX12_matches_80 : decode cX12_matches 80 = .ok (.iload_n 2, 1) := by decide +kernel
theorem dX12_matches_81 : decode cX12_matches 81 = .ok (.iload 6, 2) := by decide +kernel
theorem dX12_matches_83 : decode cX12_matches 83 = .ok (.invokevirtual 228, 3) := by decide +kernel
theorem dX12_matches_86 : decode cX12_matches 86 = .ok (.ifCond .eq 89, 3) := by decide +kernel
theorem dX12_matches_89 : decode cX12_matches 89 = .ok (.aload_n 0, 1) := by decide +kernel
theorem dX12_matches_90 : decode cX12_matches 90 = .ok (.iload_n 1, 1) := by decide +kernel
theorem dX12_matches_91 : decode cX12_matches 91 = .ok (.iload 6, 2) := by decide +kernel
theorem dX12_matches_93 : decode cX12_matches 93 = .ok (.iload_n 2, 1) := by decide +kernel
theorem dX12_matches_94 : decode cX12_matches 94 = .ok (.iload 6, 2) := by decide +kernel
theorem dX12_matches_96 : decode cX12_matches 96 = .ok (.invokevirtual 242, 3) := by decide +kernel
theorem dX12_matches_99 : decode cX12_matches 99 = .ok (.ifCond .eq 76, 3) := by decide +kernel
theorem dX12_matches_102 : decode cX12_matches 102 = .ok (.aload_n 0, 1) := by decide +kernel
theorem dX12_matches_103 : decode cX12_matches 103 = .ok (.iload 6, 2) := by decide +kernel
theorem dX12_matches_105 : decode cX12_matches 105 = .ok (.iload_n 1, 1) := by decide +kernel
theorem dX12_matches_106 : decode cX12_matches 106 = .ok (.iload_n 2, 1) := by decide +kernel
theorem dX12_matches_107 : decode cX12_matches 107 = .ok (.invokevirtual 238, 3) := by decide +kernel
theorem dX12_matches_110 : decode cX12_matches 110 = .ok (.iconst 0, 1) := by decide +kernel
theorem dX12_matches_111 : decode cX12_matches 111 = .ok (.istore 7, 2) := by decide +kernel
theorem dX12_matches_113 : decode cX12_matches 113 = .ok (.iconst 0, 1) := by decide +kernel
theorem dX12_matches_114 : decode cX12_matches 114 = .ok (.istore 8, 2) := by decide +kernel
theorem dX12_matches_116 : decode cX12_matches 116 = .ok (.iload 8, 2) := by decide +kernel
theorem dX12_matches_118 : decode cX12_matches 118 = .ok (.aload_n 0, 1) := by decide +kernel
theorem dX12_matches_119 : decode cX12_matches 119 = .ok (.getfield 235, 3) := by decide +kernel
theorem dX12_matches_122 : decode cX12_matches 122 = .ok (.if_icmp .ge 38, 3) := by decide +kernel
theorem dX12_matches_125 : decode cX12_matches 125 = .ok (.iload 7, 2) := by decide +kernel
theorem dX12_matches_127 : decode cX12_matches 127 = .ok (.ifCond .ne 20, 3) := by decide +kernel
theorem dX12_matches_130 : decode cX12_matches 130 = .ok (.aload_n 0, 1) := by decide +kernel
theorem dX12_matches_131 : decode cX12_matches 131 = .ok (.getfield 84, 3) := by decide +kernel
theorem dX12_matches_134 : decode cX12_matches 134 = .ok (.iload 8, 2) := by decide +kernel
theorem dX12_matches_136 : decode cX12_matches 136 = .ok (.iaload, 1) := by decide +kernel
theorem dX12_matches_137 : decode cX12_matches 137 = .ok (.bipush 100, 2) := by decide +kernel
theorem dX12_matches_139 : decode cX12_matches 139 = .ok (.iload_n 3, 1) := by decide +kernel
theorem dX12_matches_140 : decode cX12_matches 140 = .ok (.imul, 1) := by decide +kernel
theorem dX12_matches_141 : decode cX12_matches 141 = .ok (.iload 4, 2) := by decide +kernel
theorem dX12_matches_143 : decode cX12_matches 143 = .ok (.iadd, 1) := by decide +kernel
theorem dX12_matches_144 : decode cX12_matches 144 = .ok (.if_icmp .ne 7, 3) := by decide +kernel
theorem dX12_matches_147 : decode cX12_matches 147 = .ok (.iconst 1, 1) := by decide +kernel
theorem dX12_matches_148 : decode cX12_matches 148 = .ok (.goto 4, 3) := by decide +kernel
theorem dX12_matches_151 : decode cX12_matches 151 = .ok (.iconst 0, 1) := by decide +kernel
theorem dX12_matches_152 : decode cX12_matches 152 = .ok (.istore 7, 2) := by decide +kernel
theorem dX12_matches_154 : decode cX12_matches 154 = .ok (.iinc 8 1, 3) := by decide +kernel
theorem dX12_matches_157 : decode cX12_matches 157 = .ok (.goto (-41), 3) := by decide +kernel
theorem dX12_matches_160 : decode cX12_matches 160 = .ok (.iload 5, 2) := by decide +kernel
theorem dX12_matches_162 : decode cX12_matches 162 = .ok (.iload 7, 2) := by decide +kernel
theorem dX12_matches_164 : decode cX12_matches 164 = .ok (.ifCond .eq 7, 3) := by decide +kernel
theorem dX12_matches_167 : decode cX12_matches 167 = .ok (.iconst 1, 1) := by decide +kernel
theorem dX12_matches_168 : decode cX12_matches 168 = .ok (.goto 4, 3) := by decide +kernel
theorem dX12_matches_171 : decode cX12_matches 171 = .ok (.iconst 0, 1) := by decide +kernel
theorem dX12_matches_172 : decode cX12_matches 172 = .ok (.iadd, 1) := by decide +kernel
theorem dX12_matches_173 : decode cX12_matches 173 = .ok (.istore 5, 2) := by decide +kernel
theorem dX12_matches_175 : decode cX12_matches 175 = .ok (.iinc 6 1, 3) := by decide +kernel
theorem dX12_matches_178 : decode cX12_matches 178 = .ok (.goto (-116), 3) := by decide +kernel
theorem dX12_matches_181 : decode cX12_matches 181 = .ok (.iload 5, 2) := by decide +kernel
theorem dX12_matches_183 : decode cX12_matches 183 = .ok (.ireturn, 1) := by decide +kernel
theorem dX12_sums_0 : decode cX12_sums 0 = .ok (.aload_n 0, 1) := by decide +kernel
theorem dX12_sums_1 : decode cX12_sums 1 = .ok (.iconst 0, 1) := by decide +kernel
theorem dX12_sums_2 : decode cX12_sums 2 = .ok (.putfield 249, 3) := by decide +kernel
theorem dX12_sums_5 : decode cX12_sums 5 = .ok (.aload_n 0, 1) := by decide +kernel
theorem dX12_sums_6 : decode cX12_sums 6 = .ok (.iconst 0, 1) := by decide +kernel
theorem dX12_sums_7 : decode cX12_sums 7 = .ok (.putfield 252, 3) := by decide +kernel
theorem dX12_sums_10 : decode cX12_sums 10 = .ok (.iconst 0, 1) := by decide +kernel
theorem dX12_sums_11 : decode cX12_sums 11 = .ok (.istore 4, 2) := by decide +kernel
theorem dX12_sums_13 : decode cX12_sums 13 = .ok (.iload 4, 2) := by decide +kernel
theorem dX12_sums_15 : decode cX12_sums 15 = .ok (.bipush 10, 2) := by decide +kernel
theorem dX12_sums_17 : decode cX12_sums 17 = .ok (.if_icmp .ge 64, 3) := by decide +kernel
theorem dX12_sums_20 : decode cX12_sums 20 = .ok (.iload 4, 2) := by decide +kernel
theorem dX12_sums_22 : decode cX12_sums 22 = .ok (.iload_n 3, 1) := by decide +kernel
theorem dX12_sums_23 : decode cX12_sums 23 = .ok (.if_icmp .eq 52, 3) := by decide +kernel
theorem dX12_sums_26 : decode cX12_sums 26 = .ok (.aload_n 0, 1) := by decide +kernel
theorem dX12_sums_27 : decode cX12_sums 27 = .ok (.iload_n 1, 1) := by decide +kernel
theorem dX12_sums_28 : decode cX12_sums 28 = .ok (.iload 4, 2) := by decide +kernel
theorem dX12_sums_30 : decode cX12_sums 30 = .ok (.invokevirtual 228, 3) := by decide +kernel
theorem dX12_sums_33 : decode cX12_sums 33 = .ok (.ifCond .eq 42, 3) := by decide +kernel
theorem dX12_sums_36 : decode cX12_sums 36 = .ok (.aload_n 0, 1) := by decide +kernel
theorem dX12_sums_37 : decode cX12_sums 37 = .ok (.iload_n 2, 1) := by decide +kernel
theorem dX12_sums_38 : decode cX12_sums 38 = .ok (.iload 4, 2) := by decide +kernel
theorem dX12_sums_40 : decode cX12_sums 40 = .ok (.invokevirtual 228, 3) := by decide +kernel
theorem dX12_sums_43 : decode cX12_sums 43 = .ok (.ifCond .eq 32, 3) := by decide +kernel
theorem dX12_sums_46 : decode cX12_sums 46 = .ok (.aload_n 0, 1) := by decide +kernel
theorem dX12_sums_47 : decode cX12_sums 47 = .ok (.dup, 1) := by decide +kernel
theorem dX12_sums_48 : decode cX12_sums 48 = .ok (.getfield 249, 3) := by decide +kernel
theorem dX12_sums_51 : decode cX12_sums 51 = .ok (.aload_n 0, 1) := by decide +kernel
theorem dX12_sums_52 : decode cX12_sums 52 = .ok (.iload_n 1, 1) := by decide +kernel
theorem dX12_sums_53 : decode cX12_sums 53 = .ok (.iload 4, 2) := by decide +kernel
theorem dX12_sums_55 : decode cX12_sums 55 = .ok (.iload_n 2, 1) := by decide +kernel
theorem dX12_sums_56 : decode cX12_sums 56 = .ok (.iload 4, 2) := by decide +kernel
theorem dX12_sums_58 : decode cX12_sums 58 = .ok (.invokevirtual 231, 3) := by decide +kernel
theorem dX12_sums_61 : decode cX12_sums 61 = .ok (.iadd, 1) := by decide +kernel
theorem dX12_sums_62 : decode cX12_sums 62 = .ok (.putfield 249, 3) := by decide +kernel
theorem dX12_sums_65 : decode cX12_sums 65 = .ok (.aload_n 0, 1) := by decide +kernel
theorem dX12_sums_66 : decode cX12_sums 66 = .ok (.dup, 1) := by decide +kernel
theorem dX12_sums_67 : decode cX12_sums 67 = .ok (.getfield 252, 3) := by decide +kernel
theorem dX12_sums_70 : decode cX12_sums 70 = .ok (.iconst 1, 1) := by decide +kernel
theorem dX12_sums_71 : decode cX12_sums 71 = .ok (.iadd, 1) := by decide +kernel
theorem dX12_sums_72 : decode cX12_sums 72 = .ok (.putfield 252, 3) := by decide +kernel
theorem dX12_sums_75 : decode cX12_sums 75 = .ok (.iinc 4 1, 3) := by decide +kernel
theorem dX12_sums_78 : decode cX12_sums 78 = .ok (.goto (-65), 3) := by decide +kernel
theorem dX12_sums_81 : decode cX12_sums 81 = .ok (.return_, 1) := by decide +kernel
theorem dX12_far_0 : decode cX12_far 0 = .ok (.aload_n 0, 1) := by decide +kernel
theorem dX12_far_1 : decode cX12_far 1 = .ok (.iload_n 1, 1) := by decide +kernel
theorem dX12_far_2 : decode cX12_far 2 = .ok (.invokevirtual 130, 3) := by decide +kernel
theorem dX12_far_5 : decode cX12_far 5 = .ok (.ifCond .eq 20, 3) := by decide +kernel
theorem dX12_far_8 : decode cX12_far 8 = .ok (.aload_n 0, 1) := by decide +kernel
theorem dX12_far_9 : decode cX12_far 9 = .ok (.iload_n 2, 1) := by decide +kernel
theorem dX12_far_10 : decode cX12_far 10 = .ok (.invokevirtual 130, 3) := by decide +kernel
theorem dX12_far_13 : decode cX12_far 13 = .ok (.ifCond .eq 12, 3) := by decide +kernel
theorem dX12_far_16 : decode cX12_far 16 = .ok (.iload_n 3, 1) := by decide +kernel
theorem dX12_far_17 : decode cX12_far 17 = .ok (.iconst 0, 1) := by decide +kernel
theorem dX12_far_18 : decode cX12_far 18 = .ok (.iconst 1, 1) := by decide +kernel
theorem dX12_far_19 : decode cX12_far 19 = .ok (.invokestatic 123, 3) := by decide +kernel
theorem dX12_far_22 : decode cX12_far 22 = .ok (.ifCond .ne 5, 3) := by decide +kernel
theorem dX12_far_25 : decode cX12_far 25 = .ok (.iconst (-1), 1) := by decide +kernel
theorem dX12_far_26 : decode cX12_far 26 = .ok (.ireturn, 1) := by decide +kernel
theorem dX12_far_27 : decode cX12_far 27 = .ok (.iload_n 1, 1) := by decide +kernel
theorem dX12_far_28 : decode cX12_far 28 = .ok (.iload_n 2, 1) := by decide +kernel
theorem dX12_far_29 : decode cX12_far 29 = .ok (.if_icmp .ne 6, 3) := by decide +kernel
theorem dX12_far_32 : decode cX12_far 32 = .ok (.bipush (-2), 2) := by decide +kernel
theorem dX12_far_34 : decode cX12_far 34 = .ok (.ireturn, 1) := by decide +kernel
theorem dX12_far_35 : decode cX12_far 35 = .ok (.aload_n 0, 1) := by decide +kernel
theorem dX12_far_36 : decode cX12_far 36 = .ok (.iload_n 1, 1) := by decide +kernel
theorem dX12_far_37 : decode cX12_far 37 = .ok (.iload_n 2, 1) := by decide +kernel
theorem dX12_far_38 : decode cX12_far 38 = .ok (.iconst (-1), 1) := by decide +kernel
theorem dX12_far_39 : decode cX12_far 39 = .ok (.invokevirtual 255, 3) := by decide +kernel
theorem dX12_far_42 : decode cX12_far 42 = .ok (.iload_n 3, 1) := by decide +kernel
theorem dX12_far_43 : decode cX12_far 43 = .ok (.ifCond .ne 10, 3) := by decide +kernel
theorem dX12_far_46 : decode cX12_far 46 = .ok (.aload_n 0, 1) := by decide +kernel
theorem dX12_far_47 : decode cX12_far 47 = .ok (.getfield 249, 3) := by decide +kernel
theorem dX12_far_50 : decode cX12_far 50 = .ok (.goto 7, 3) := by decide +kernel
theorem dX12_far_53 : decode cX12_far 53 = .ok (.aload_n 0, 1) := by decide +kernel
theorem dX12_far_54 : decode cX12_far 54 = .ok (.getfield 252, 3) := by decide +kernel
theorem dX12_far_57 : decode cX12_far 57 = .ok (.ireturn, 1) := by decide +kernel
theorem dX12_borrowed_0 : decode cX12_borrowed 0 = .ok (.aload_n 0, 1) := by decide +kernel
theorem dX12_borrowed_1 : decode cX12_borrowed 1 = .ok (.iload_n 2, 1) := by decide +kernel
theorem dX12_borrowed_2 : decode cX12_borrowed 2 = .ok (.iload_n 1, 1) := by decide +kernel
theorem dX12_borrowed_3 : decode cX12_borrowed 3 = .ok (.invokevirtual 228, 3) := by decide +kernel
theorem dX12_borrowed_6 : decode cX12_borrowed 6 = .ok (.ifCond .eq 12, 3) := by decide +kernel
theorem dX12_borrowed_9 : decode cX12_borrowed 9 = .ok (.aload_n 0, 1) := by decide +kernel
theorem dX12_borrowed_10 : decode cX12_borrowed 10 = .ok (.iload_n 3, 1) := by decide +kernel
theorem dX12_borrowed_11 : decode cX12_borrowed 11 = .ok (.iload_n 1, 1) := by decide +kernel
theorem dX12_borrowed_12 : decode cX12_borrowed 12 = .ok (.invokevirtual 228, 3) := by decide +kernel
theorem dX12_borrowed_15 : decode cX12_borrowed 15 = .ok (.ifCond .ne 5, 3) := by decide +kernel
theorem dX12_borrowed_18 : decode cX12_borrowed 18 = .ok (.iconst (-1), 1) := by decide +kernel
theorem dX12_borrowed_19 : decode cX12_borrowed 19 = .ok (.ireturn, 1) := by decide +kernel
theorem dX12_borrowed_20 : decode cX12_borrowed 20 = .ok (.iload_n 2, 1) := by decide +kernel
theorem dX12_borrowed_21 : decode cX12_borrowed 21 = .ok (.iload_n 3, 1) := by decide +kernel
theorem dX12_borrowed_22 : decode cX12_borrowed 22 = .ok (.if_icmp .ne 6, 3) := by decide +kernel
theorem dX12_borrowed_25 : decode cX12_borrowed 25 = .ok (.bipush (-2), 2) := by decide +kernel
theorem dX12_borrowed_27 : decode cX12_borrowed 27 = .ok (.ireturn, 1) := by decide +kernel
theorem dX12_borrowed_28 : decode cX12_borrowed 28 = .ok (.aload_n 0, 1) := by decide +kernel
theorem dX12_borrowed_29 : decode cX12_borrowed 29 = .ok (.iload_n 2, 1) := by decide +kernel
theorem dX12_borrowed_30 : decode cX12_borrowed 30 = .ok (.iload_n 3, 1) := by decide +kernel
theorem dX12_borrowed_31 : decode cX12_borrowed 31 = .ok (.iload_n 1, 1) := by decide +kernel
theorem dX12_borrowed_32 : decode cX12_borrowed 32 = .ok (.invokevirtual 255, 3) := by decide +kernel
theorem dX12_borrowed_35 : decode cX12_borrowed 35 = .ok (.aload_n 0, 1) := by decide +kernel
theorem dX12_borrowed_36 : decode cX12_borrowed 36 = .ok (.iload_n 2, 1) := by decide +kernel
theorem dX12_borrowed_37 : decode cX12_borrowed 37 = .ok (.iload_n 1, 1) := by decide +kernel
theorem dX12_borrowed_38 : decode cX12_borrowed 38 = .ok (.iload_n 3, 1) := by decide +kernel
theorem dX12_borrowed_39 : decode cX12_borrowed 39 = .ok (.iload_n 1, 1) := by decide +kernel
theorem dX12_borrowed_40 : decode cX12_borrowed 40 = .ok (.invokevirtual 231, 3) := by decide +kernel
theorem dX12_borrowed_43 : decode cX12_borrowed 43 = .ok (.ifCond .ne 28, 3) := by decide +kernel
theorem dX12_borrowed_46 : decode cX12_borrowed 46 = .ok (.aload_n 0, 1) := by decide +kernel
theorem dX12_borrowed_47 : decode cX12_borrowed 47 = .ok (.getfield 252, 3) := by decide +kernel
theorem dX12_borrowed_50 : decode cX12_borrowed 50 = .ok (.iconst 2, 1) := by decide +kernel
theorem dX12_borrowed_51 : decode cX12_borrowed 51 = .ok (.if_icmp .lt 20, 3) := by decide +kernel
theorem dX12_borrowed_54 : decode cX12_borrowed 54 = .ok (.aload_n 0, 1) := by decide +kernel
theorem dX12_borrowed_55 : decode cX12_borrowed 55 = .ok (.getfield 249, 3) := by decide +kernel
theorem dX12_borrowed_58 : decode cX12_borrowed 58 = .ok (.iconst 2, 1) := by decide +kernel
theorem dX12_borrowed_59 : decode cX12_borrowed 59 = .ok (.aload_n 0, 1) := by decide +kernel
theorem dX12_borrowed_60 : decode cX12_borrowed 60 = .ok (.getfield 252, 3) := by decide +kernel
theorem dX12_borrowed_63 : decode cX12_borrowed 63 = .ok (.imul, 1) := by decide +kernel
theorem dX12_borrowed_64 : decode cX12_borrowed 64 = .ok (.if_icmp .le 7, 3) := by decide +kernel
theorem dX12_borrowed_67 : decode cX12_borrowed 67 = .ok (.iconst 1, 1) := by decide +kernel
theorem dX12_borrowed_68 : decode cX12_borrowed 68 = .ok (.goto 4, 3) := by decide +kernel
theorem dX12_borrowed_71 : decode cX12_borrowed 71 = .ok (.iconst 0, 1) := by decide +kernel
theorem dX12_borrowed_72 : decode cX12_borrowed 72 = .ok (.ireturn, 1) := by decide +kernel
theorem dX12_old_0 : decode cX12_old 0 = .ok (.iload_n 1, 1) := by decide +kernel
theorem dX12_old_1 : decode cX12_old 1 = .ok (.invokestatic 134, 3) := by decide +kernel
theorem dX12_old_4 : decode cX12_old 4 = .ok (.ifCond .eq 12, 3) := by decide +kernel
theorem dX12_old_7 : decode cX12_old 7 = .ok (.iload_n 2, 1) := by decide +kernel
theorem dX12_old_8 : decode cX12_old 8 = .ok (.iconst 0, 1) := by decide +kernel
theorem dX12_old_9 : decode cX12_old 9 = .ok (.iconst 2, 1) := by decide +kernel
theorem dX12_old_10 : decode cX12_old 10 = .ok (.invokestatic 123, 3) := by decide +kernel
theorem dX12_old_13 : decode cX12_old 13 = .ok (.ifCond .ne 5, 3) := by decide +kernel
theorem dX12_old_16 : decode cX12_old 16 = .ok (.iconst (-1), 1) := by decide +kernel
theorem dX12_old_17 : decode cX12_old 17 = .ok (.ireturn, 1) := by decide +kernel
theorem dX12_old_18 : decode cX12_old 18 = .ok (.bipush (-5), 2) := by decide +kernel
theorem dX12_old_20 : decode cX12_old 20 = .ok (.istore_n 3, 1) := by decide +kernel
theorem dX12_old_21 : decode cX12_old 21 = .ok (.iconst 0, 1) := by decide +kernel
theorem dX12_old_22 : decode cX12_old 22 = .ok (.istore 4, 2) := by decide +kernel
theorem dX12_old_24 : decode cX12_old 24 = .ok (.iconst 0, 1) := by decide +kernel
theorem dX12_old_25 : decode cX12_old 25 = .ok (.istore 5, 2) := by decide +kernel
theorem dX12_old_27 : decode cX12_old 27 = .ok (.iconst 0, 1) := by decide +kernel
theorem dX12_old_28 : decode cX12_old 28 = .ok (.istore 6, 2) := by decide +kernel
theorem dX12_old_30 : decode cX12_old 30 = .ok (.iload 6, 2) := by decide +kernel
theorem dX12_old_32 : decode cX12_old 32 = .ok (.aload_n 0, 1) := by decide +kernel
theorem dX12_old_33 : decode cX12_old 33 = .ok (.getfield 120, 3) := by decide +kernel
theorem dX12_old_36 : decode cX12_old 36 = .ok (.if_icmp .ge 159, 3) := by decide +kernel
theorem dX12_old_39 : decode cX12_old 39 = .ok (.iconst 0, 1) := by decide +kernel
theorem dX12_old_40 : decode cX12_old 40 = .ok (.istore 7, 2) := by decide +kernel
theorem dX12_old_42 : decode cX12_old 42 = .ok (.iconst 0, 1) := by decide +kernel
theorem dX12_old_43 : decode cX12_old 43 = .ok (.istore 8, 2) := by decide +kernel
theorem dX12_old_45 : decode cX12_old 45 = .ok (.iload 8, 2) := by decide +kernel
theorem dX12_old_47 : decode cX12_old 47 = .ok (.aload_n 0, 1) := by decide +kernel
theorem dX12_old_48 : decode cX12_old 48 = .ok (.getfield 120, 3) := by decide +kernel
theorem dX12_old_51 : decode cX12_old 51 = .ok (.if_icmp .ge 55, 3) := by decide +kernel
theorem dX12_old_54 : decode cX12_old 54 = .ok (.iload 7, 2) := by decide +kernel
theorem dX12_old_56 : decode cX12_old 56 = .ok (.iload 8, 2) := by decide +kernel
theorem dX12_old_58 : decode cX12_old 58 = .ok (.iload 6, 2) := by decide +kernel
theorem dX12_old_60 : decode cX12_old 60 = .ok (.if_icmp .eq 36, 3) := by decide +kernel
theorem dX12_old_63 : decode cX12_old 63 = .ok (.aload_n 0, 1) := by decide +kernel
theorem dX12_old_64 : decode cX12_old 64 = .ok (.iload 6, 2) := by decide +kernel
theorem dX12_old_66 : decode cX12_old 66 = .ok (.iload_n 1, 1) := by decide +kernel
theorem dX12_old_67 : decode cX12_old 67 = .ok (.invokevirtual 228, 3) := by decide +kernel
theorem dX12_old_70 : decode cX12_old 70 = .ok (.ifCond .eq 26, 3) := by decide +kernel
theorem dX12_old_73 : decode cX12_old 73 = .ok (.aload_n 0, 1) := by decide +kernel
theorem dX12_old_74 : decode cX12_old 74 = .ok (.iload 8, 2) := by decide +kernel
theorem dX12_old_76 : decode cX12_old 76 = .ok (.iload_n 1, 1) := by decide +kernel
theorem dX12_old_77 : decode cX12_old 77 = .ok (.invokevirtual 228, 3) := by decide +kernel
theorem dX12_old_80 : decode cX12_old 80 = .ok (.ifCond .eq 16, 3) := by decide +kernel
theorem dX12_old_83 : decode cX12_old 83 = .ok (.aload_n 0, 1) := by decide +kernel
theorem dX12_old_84 : decode cX12_old 84 = .ok (.iload 6, 2) := by decide +kernel
theorem dX12_old_86 : decode cX12_old 86 = .ok (.iload_n 1, 1) := by decide +kernel
theorem dX12_old_87 : decode cX12_old 87 = .ok (.iload 8, 2) := by decide +kernel
theorem dX12_old_89 : decode cX12_old 89 = .ok (.iload_n 1, 1) := by decide +kernel
theorem dX12_old_90 : decode cX12_old 90 = .ok (.invokevirtual 231, 3) := by decide +kernel
theorem dX12_old_93 : decode cX12_old 93 = .ok (.goto 4, 3) := by decide +kernel
theorem dX12_old_96 : decode cX12_old 96 = .ok (.iconst 0, 1) := by decide +kernel
theorem dX12_old_97 : decode cX12_old 97 = .ok (.iadd, 1) := by decide +kernel
theorem dX12_old_98 : decode cX12_old 98 = .ok (.istore 7, 2) := by decide +kernel
theorem dX12_old_100 : decode cX12_old 100 = .ok (.iinc 8 1, 3) := by decide +kernel
theorem dX12_old_103 : decode cX12_old 103 = .ok (.goto (-58), 3) := by decide +kernel
theorem dX12_old_106 : decode cX12_old 106 = .ok (.aload_n 0, 1) := by decide +kernel
theorem dX12_old_107 : decode cX12_old 107 = .ok (.iload 6, 2) := by decide +kernel
theorem dX12_old_109 : decode cX12_old 109 = .ok (.iload_n 1, 1) := by decide +kernel
theorem dX12_old_110 : decode cX12_old 110 = .ok (.invokevirtual 228, 3) := by decide +kernel
theorem dX12_old_113 : decode cX12_old 113 = .ok (.ifCond .eq 76, 3) := by decide +kernel
theorem dX12_old_116 : decode cX12_old 116 = .ok (.iload_n 3, 1) := by decide +kernel
theorem dX12_old_117 : decode cX12_old 117 = .ok (.bipush (-5), 2) := by decide +kernel
theorem dX12_old_119 : decode cX12_old 119 = .ok (.if_icmp .eq 10, 3) := by decide +kernel
theorem dX12_old_122 : decode cX12_old 122 = .ok (.iload 7, 2) := by decide +kernel
theorem dX12_old_124 : decode cX12_old 124 = .ok (.iload 4, 2) := by decide +kernel
theorem dX12_old_126 : decode cX12_old 126 = .ok (.if_icmp .ge 7, 3) := by decide +kernel
theorem dX12_old_129 : decode cX12_old 129 = .ok (.iconst 1, 1) := by decide +kernel
theorem dX12_old_130 : decode cX12_old 130 = .ok (.goto 4, 3) := by decide +kernel
theorem dX12_old_133 : decode cX12_old 133 = .ok (.iconst 0, 1) := by decide +kernel
theorem dX12_old_134 : decode cX12_old 134 = .ok (.istore 8, 2) := by decide +kernel
theorem dX12_old_136 : decode cX12_old 136 = .ok (.iload 8, 2) := by decide +kernel
theorem dX12_old_138 : decode cX12_old 138 = .ok (.ifCond .eq 7, 3) := by decide +kernel
theorem dX12_old_141 : decode cX12_old 141 = .ok (.iconst 1, 1) := by decide +kernel
theorem dX12_old_142 : decode cX12_old 142 = .ok (.goto 19, 3) := by decide +kernel
theorem dX12_old_145 : decode cX12_old 145 = .ok (.iload 7, 2) := by decide +kernel
theorem dX12_old_147 : decode cX12_old 147 = .ok (.iload 4, 2) := by decide +kernel
theorem dX12_old_149 : decode cX12_old 149 = .ok (.if_icmp .ne 10, 3) := by decide +kernel
theorem dX12_old_152 : decode cX12_old 152 = .ok (.iload 5, 2) := by decide +kernel
theorem dX12_old_154 : decode cX12_old 154 = .ok (.iconst 1, 1) := by decide +kernel
theorem dX12_old_155 : decode cX12_old 155 = .ok (.iadd, 1) := by decide +kernel
theorem dX12_old_156 : decode cX12_old 156 = .ok (.goto 5, 3) := by decide +kernel
theorem dX12_old_159 : decode cX12_old 159 = .ok (.iload 5, 2) := by decide +kernel
theorem dX12_old_161 : decode cX12_old 161 = .ok (.istore 5, 2) := by decide +kernel
theorem dX12_old_163 : decode cX12_old 163 = .ok (.iload 8, 2) := by decide +kernel
theorem dX12_old_165 : decode cX12_old 165 = .ok (.ifCond .eq 8, 3) := by decide +kernel
theorem dX12_old_168 : decode cX12_old 168 = .ok (.iload 6, 2) := by decide +kernel
theorem dX12_old_170 : decode cX12_old 170 = .ok (.goto 4, 3) := by decide +kernel
theorem dX12_old_173 : decode cX12_old 173 = .ok (.iload_n 3, 1) := by decide +kernel
theorem dX12_old_174 : decode cX12_old 174 = .ok (.istore_n 3, 1) := by decide +kernel
theorem dX12_old_175 : decode cX12_old 175 = .ok (.iload 8, 2) := by decide +kernel
theorem dX12_old_177 : decode cX12_old 177 = .ok (.ifCond .eq 8, 3) := by decide +kernel
theorem dX12_old_180 : decode cX12_old 180 = .ok (.iload 7, 2) := by decide +kernel
theorem dX12_old_182 : decode cX12_old 182 = .ok (.goto 5, 3) := by decide +kernel
theorem dX12_old_185 : decode cX12_old 185 = .ok (.iload 4, 2) := by decide +kernel
theorem dX12_old_187 : decode cX12_old 187 = .ok (.istore 4, 2) := by decide +kernel
theorem dX12_old_189 : decode cX12_old 189 = .ok (.iinc 6 1, 3) := by decide +kernel
theorem dX12_old_192 : decode cX12_old 192 = .ok (.goto (-162), 3) := by decide +kernel
theorem dX12_old_195 : decode cX12_old 195 = .ok (.iload_n 3, 1) := by decide +kernel
theorem dX12_old_196 : decode cX12_old 196 = .ok (.bipush (-5), 2) := by decide +kernel
theorem dX12_old_198 : decode cX12_old 198 = .ok (.if_icmp .eq 7, 3) := by decide +kernel
theorem dX12_old_201 : decode cX12_old 201 = .ok (.iload_n 2, 1) := by decide +kernel
theorem dX12_old_202 : decode cX12_old 202 = .ok (.ifCond .ne 7, 3) := by decide +kernel
theorem dX12_old_205 : decode cX12_old 205 = .ok (.iload_n 3, 1) := by decide +kernel
theorem dX12_old_206 : decode cX12_old 206 = .ok (.goto 15, 3) := by decide +kernel
theorem dX12_old_209 : decode cX12_old 209 = .ok (.iload_n 2, 1) := by decide +kernel
theorem dX12_old_210 : decode cX12_old 210 = .ok (.iconst 1, 1) := by decide +kernel
theorem dX12_old_211 : decode cX12_old 211 = .ok (.if_icmp .ne 8, 3) := by decide +kernel
theorem dX12_old_214 : decode cX12_old 214 = .ok (.iload 4, 2) := by decide +kernel
theorem dX12_old_216 : decode cX12_old 216 = .ok (.goto 5, 3) := by decide +kernel
theorem dX12_old_219 : decode cX12_old 219 = .ok (.iload 5, 2) := by decide +kernel
theorem dX12_old_221 : decode cX12_old 221 = .ok (.ireturn, 1) := by decide +kernel
theorem dX12_tries_0 : decode cX12_tries 0 = .ok (.iconst 0, 1) := by decide +kernel
theorem dX12_tries_1 : decode cX12_tries 1 = .ok (.istore_n 3, 1) := by decide +kernel
theorem dX12_tries_2 : decode cX12_tries 2 = .ok (.iconst 0, 1) := by decide +kernel
theorem dX12_tries_3 : decode cX12_tries 3 = .ok (.istore 4, 2) := by decide +kernel
theorem dX12_tries_5 : decode cX12_tries 5 = .ok (.iconst 0, 1) := by decide +kernel
theorem dX12_tries_6 : decode cX12_tries 6 = .ok (.istore 5, 2) := by decide +kernel
theorem dX12_tries_8 : decode cX12_tries 8 = .ok (.iload 5, 2) := by decide +kernel
theorem dX12_tries_10 : decode cX12_tries 10 = .ok (.bipush 10, 2) := by decide +kernel
theorem dX12_tries_12 : decode cX12_tries 12 = .ok (.if_icmp .ge 105, 3) := by decide +kernel
theorem dX12_tries_15 : decode cX12_tries 15 = .ok (.aload_n 0, 1) := by decide +kernel
theorem dX12_tries_16 : decode cX12_tries 16 = .ok (.iload_n 1, 1) := by decide +kernel
theorem dX12_tries_17 : decode cX12_tries 17 = .ok (.iload 5, 2) := by decide +kernel
theorem dX12_tries_19 : decode cX12_tries 19 = .ok (.invokevirtual 228, 3) := by decide +kernel
theorem dX12_tries_22 : decode cX12_tries 22 = .ok (.ifCond .eq 89, 3) := by decide +kernel
theorem dX12_tries_25 : decode cX12_tries 25 = .ok (.aload_n 0, 1) := by decide +kernel
theorem dX12_tries_26 : decode cX12_tries 26 = .ok (.iload_n 2, 1) := by decide +kernel
theorem dX12_tries_27 : decode cX12_tries 27 = .ok (.iload 5, 2) := by decide +kernel
theorem dX12_tries_29 : decode cX12_tries 29 = .ok (.invokevirtual 228, 3) := by decide +kernel
theorem dX12_tries_32 : decode cX12_tries 32 = .ok (.ifCond .eq 79, 3) := by decide +kernel
theorem dX12_tries_35 : decode cX12_tries 35 = .ok (.aload_n 0, 1) := by decide +kernel
theorem dX12_tries_36 : decode cX12_tries 36 = .ok (.iload_n 1, 1) := by decide +kernel
theorem dX12_tries_37 : decode cX12_tries 37 = .ok (.iload 5, 2) := by decide +kernel
theorem dX12_tries_39 : decode cX12_tries 39 = .ok (.invokevirtual 209, 3) := by decide +kernel
theorem dX12_tries_42 : decode cX12_tries 42 = .ok (.iconst 0, 1) := by decide +kernel
theorem dX12_tries_43 : decode cX12_tries 43 = .ok (.istore 6, 2) := by decide +kernel
theorem dX12_tries_45 : decode cX12_tries 45 = .ok (.iload 6, 2) := by decide +kernel
theorem dX12_tries_47 : decode cX12_tries 47 = .ok (.aload_n 0, 1) := by decide +kernel
theorem dX12_tries_48 : decode cX12_tries 48 = .ok (.getfield 258, 3) := by decide +kernel
theorem dX12_tries_51 : decode cX12_tries 51 = .ok (.if_icmp .ge 20, 3) := by decide +kernel
theorem dX12_tries_54 : decode cX12_tries 54 = .ok (.aload_n 0, 1) := by decide +kernel
theorem dX12_tries_55 : decode cX12_tries 55 = .ok (.aload_n 0, 1) := by decide +kernel
theorem dX12_tries_56 : decode cX12_tries 56 = .ok (.getfield 90, 3) := by decide +kernel
theorem dX12_tries_59 : decode cX12_tries 59 = .ok (.iload 6, 2) := by decide +kernel
theorem dX12_tries_61 : decode cX12_tries 61 = .ok (.iaload, 1) := by decide +kernel
theorem dX12_tries_62 : decode cX12_tries 62 = .ok (.invokevirtual 212, 3) := by decide +kernel
theorem dX12_tries_65 : decode cX12_tries 65 = .ok (.iinc 6 1, 3) := by decide +kernel
theorem dX12_tries_68 : decode cX12_tries 68 = .ok (.goto (-23), 3) := by decide +kernel
theorem dX12_tries_71 : decode cX12_tries 71 = .ok (.aload_n 0, 1) := by decide +kernel
theorem dX12_tries_72 : decode cX12_tries 72 = .ok (.iload_n 2, 1) := by decide +kernel
theorem dX12_tries_73 : decode cX12_tries 73 = .ok (.iload 5, 2) := by decide +kernel
theorem dX12_tries_75 : decode cX12_tries 75 = .ok (.invokevirtual 215, 3) := by decide +kernel
theorem dX12_tries_78 : decode cX12_tries 78 = .ok (.istore 6, 2) := by decide +kernel
theorem dX12_tries_80 : decode cX12_tries 80 = .ok (.iload_n 3, 1) := by decide +kernel
theorem dX12_tries_81 : decode cX12_tries 81 = .ok (.iload 6, 2) := by decide +kernel
theorem dX12_tries_83 : decode cX12_tries 83 = .ok (.ifCond .eq 7, 3) := by decide +kernel
theorem dX12_tries_86 : decode cX12_tries 86 = .ok (.iconst 1, 1) := by decide +kernel
theorem dX12_tries_87 : decode cX12_tries 87 = .ok (.goto 4, 3) := by decide +kernel
theorem dX12_tries_90 : decode cX12_tries 90 = .ok (.iconst 0, 1) := by decide +kernel
theorem dX12_tries_91 : decode cX12_tries 91 = .ok (.iadd, 1) := by decide +kernel
theorem dX12_tries_92 : decode cX12_tries 92 = .ok (.istore_n 3, 1) := by decide +kernel
theorem dX12_tries_93 : decode cX12_tries 93 = .ok (.iload 4, 2) := by decide +kernel
theorem dX12_tries_95 : decode cX12_tries 95 = .ok (.iload 6, 2) := by decide +kernel
theorem dX12_tries_97 : decode cX12_tries 97 = .ok (.ifCond .eq 7, 3) := by decide +kernel
theorem dX12_tries_100 : decode cX12_tries 100 = .ok (.iconst 0, 1) := by decide +kernel
theorem dX12_tries_101 : decode cX12_tries 101 = .ok (.goto 7, 3) := by decide +kernel
theorem dX12_tries_104 : decode cX12_tries 104 = .ok (.iconst 1, 1) := by decide +kernel
theorem dX12_tries_105 : decode cX12_tries 105 = .ok (.iload 5, 2) := by decide +kernel
theorem dX12_tries_107 : decode cX12_tries 107 = .ok (.ishl, 1) := by decide +kernel
theorem dX12_tries_108 : decode cX12_tries 108 = .ok (.ior, 1) := by decide +kernel
theorem dX12_tries_109 : decode cX12_tries 109 = .ok (.istore 4, 2) := by decide +kernel
theorem dX12_tries_111 : decode cX12_tries 111 = .ok (.iinc 5 1, 3) := by decide +kernel
theorem dX12_tries_114 : decode cX12_tries 114 = .ok (.goto (-106), 3) := by decide +kernel
theorem dX12_tries_117 : decode cX12_tries 117 = .ok (.iload_n 3, 1) := by decide +kernel
theorem dX12_tries_118 : decode cX12_tries 118 = .ok (.aload_n 0, 1) := by decide +kernel
theorem dX12_tries_119 : decode cX12_tries 119 = .ok (.getfield 261, 3) := by decide +kernel
theorem dX12_tries_122 : decode cX12_tries 122 = .ok (.if_icmp .le 46, 3) := by decide +kernel
theorem dX12_tries_125 : decode cX12_tries 125 = .ok (.aload_n 0, 1) := by decide +kernel
theorem dX12_tries_126 : decode cX12_tries 126 = .ok (.iload_n 3, 1) := by decide +kernel
theorem dX12_tries_127 : decode cX12_tries 127 = .ok (.putfield 261, 3) := by decide +kernel
theorem dX12_tries_130 : decode cX12_tries 130 = .ok (.aload_n 0, 1) := by decide +kernel
theorem dX12_tries_131 : decode cX12_tries 131 = .ok (.iload 4, 2) := by decide +kernel
theorem dX12_tries_133 : decode cX12_tries 133 = .ok (.putfield 264, 3) := by decide +kernel
theorem dX12_tries_136 : decode cX12_tries 136 = .ok (.iconst 0, 1) := by decide +kernel
theorem dX12_tries_137 : decode cX12_tries 137 = .ok (.istore 5, 2) := by decide +kernel
theorem dX12_tries_139 : decode cX12_tries 139 = .ok (.iload 5, 2) := by decide +kernel
theorem dX12_tries_141 : decode cX12_tries 141 = .ok (.aload_n 0, 1) := by decide +kernel
theorem dX12_tries_142 : decode cX12_tries 142 = .ok (.getfield 258, 3) := by decide +kernel
theorem dX12_tries_145 : decode cX12_tries 145 = .ok (.if_icmp .ge 23, 3) := by decide +kernel
theorem dX12_tries_148 : decode cX12_tries 148 = .ok (.aload_n 0, 1) := by decide +kernel
theorem dX12_tries_149 : decode cX12_tries 149 = .ok (.getfield 93, 3) := by decide +kernel
theorem dX12_tries_152 : decode cX12_tries 152 = .ok (.iload 5, 2) := by decide +kernel
theorem dX12_tries_154 : decode cX12_tries 154 = .ok (.aload_n 0, 1) := by decide +kernel
theorem dX12_tries_155 : decode cX12_tries 155 = .ok (.getfield 90, 3) := by decide +kernel
theorem dX12_tries_158 : decode cX12_tries 158 = .ok (.iload 5, 2) := by decide +kernel
theorem dX12_tries_160 : decode cX12_tries 160 = .ok (.iaload, 1) := by decide +kernel
theorem dX12_tries_161 : decode cX12_tries 161 = .ok (.iastore, 1) := by decide +kernel
theorem dX12_tries_162 : decode cX12_tries 162 = .ok (.iinc 5 1, 3) := by decide +kernel
theorem dX12_tries_165 : decode cX12_tries 165 = .ok (.goto (-26), 3) := by decide +kernel
theorem dX12_tries_168 : decode cX12_tries 168 = .ok (.return_, 1) := by decide +kernel
theorem dX12_orders_0 : decode cX12_orders 0 = .ok (.iload_n 3, 1) := by decide +kernel
theorem dX12_orders_1 : decode cX12_orders 1 = .ok (.aload_n 0, 1) := by decide +kernel
theorem dX12_orders_2 : decode cX12_orders 2 = .ok (.getfield 258, 3) := by decide +kernel
theorem dX12_orders_5 : decode cX12_orders 5 = .ok (.if_icmp .ne 10, 3) := by decide +kernel
theorem dX12_orders_8 : decode cX12_orders 8 = .ok (.aload_n 0, 1) := by decide +kernel
theorem dX12_orders_9 : decode cX12_orders 9 = .ok (.iload_n 1, 1) := by decide +kernel
theorem dX12_orders_10 : decode cX12_orders 10 = .ok (.iload_n 2, 1) := by decide +kernel
theorem dX12_orders_11 : decode cX12_orders 11 = .ok (.invokevirtual 267, 3) := by decide +kernel
theorem dX12_orders_14 : decode cX12_orders 14 = .ok (.return_, 1) := by decide +kernel
theorem dX12_orders_15 : decode cX12_orders 15 = .ok (.iconst 0, 1) := by decide +kernel
theorem dX12_orders_16 : decode cX12_orders 16 = .ok (.istore 5, 2) := by decide +kernel
theorem dX12_orders_18 : decode cX12_orders 18 = .ok (.iload 5, 2) := by decide +kernel
theorem dX12_orders_20 : decode cX12_orders 20 = .ok (.aload_n 0, 1) := by decide +kernel
theorem dX12_orders_21 : decode cX12_orders 21 = .ok (.getfield 258, 3) := by decide +kernel
theorem dX12_orders_24 : decode cX12_orders 24 = .ok (.if_icmp .ge 48, 3) := by decide +kernel
theorem dX12_orders_27 : decode cX12_orders 27 = .ok (.iload 4, 2) := by decide +kernel
theorem dX12_orders_29 : decode cX12_orders 29 = .ok (.iload 5, 2) := by decide +kernel
theorem dX12_orders_31 : decode cX12_orders 31 = .ok (.ishr, 1) := by decide +kernel
theorem dX12_orders_32 : decode cX12_orders 32 = .ok (.iconst 1, 1) := by decide +kernel
theorem dX12_orders_33 : decode cX12_orders 33 = .ok (.iand, 1) := by decide +kernel
theorem dX12_orders_34 : decode cX12_orders 34 = .ok (.ifCond .ne 32, 3) := by decide +kernel
theorem dX12_orders_37 : decode cX12_orders 37 = .ok (.aload_n 0, 1) := by decide +kernel
theorem dX12_orders_38 : decode cX12_orders 38 = .ok (.getfield 90, 3) := by decide +kernel
theorem dX12_orders_41 : decode cX12_orders 41 = .ok (.iload_n 3, 1) := by decide +kernel
theorem dX12_orders_42 : decode cX12_orders 42 = .ok (.aload_n 0, 1) := by decide +kernel
theorem dX12_orders_43 : decode cX12_orders 43 = .ok (.getfield 87, 3) := by decide +kernel
theorem dX12_orders_46 : decode cX12_orders 46 = .ok (.iload 5, 2) := by decide +kernel
theorem dX12_orders_48 : decode cX12_orders 48 = .ok (.iaload, 1) := by decide +kernel
theorem dX12_orders_49 : decode cX12_orders 49 = .ok (.iastore, 1) := by decide +kernel
theorem dX12_orders_50 : decode cX12_orders 50 = .ok (.aload_n 0, 1) := by decide +kernel
theorem dX12_orders_51 : decode cX12_orders 51 = .ok (.iload_n 1, 1) := by decide +kernel
theorem dX12_orders_52 : decode cX12_orders 52 = .ok (.iload_n 2, 1) := by decide +kernel
theorem dX12_orders_53 : decode cX12_orders 53 = .ok (.iload_n 3, 1) := by decide +kernel
theorem dX12_orders_54 : decode cX12_orders 54 = .ok (.iconst 1, 1) := by decide +kernel
theorem dX12_orders_55 : decode cX12_orders 55 = .ok (.iadd, 1) := by decide +kernel
theorem dX12_orders_56 : decode cX12_orders 56 = .ok (.iload 4, 2) := by decide +kernel
theorem dX12_orders_58 : decode cX12_orders 58 = .ok (.iconst 1, 1) := by decide +kernel
theorem dX12_orders_59 : decode cX12_orders 59 = .ok (.iload 5, 2) := by decide +kernel
theorem dX12_orders_61 : decode cX12_orders 61 = .ok (.ishl, 1) := by decide +kernel
theorem dX12_orders_62 : decode cX12_orders 62 = .ok (.ior, 1) := by decide +kernel
theorem dX12_orders_63 : decode cX12_orders 63 = .ok (.invokevirtual 270, 3) := by decide +kernel
theorem dX12_orders_66 : decode cX12_orders 66 = .ok (.iinc 5 1, 3) := by decide +kernel
theorem dX12_orders_69 : decode cX12_orders 69 = .ok (.goto (-51), 3) := by decide +kernel
theorem dX12_orders_72 : decode cX12_orders 72 = .ok (.return_, 1) := by decide +kernel
theorem dX12_count1_0 : decode cX12_count1 0 = .ok (.iconst 0, 1) := by decide +kernel
theorem dX12_count1_1 : decode cX12_count1 1 = .ok (.istore_n 1, 1) := by decide +kernel
theorem dX12_count1_2 : decode cX12_count1 2 = .ok (.iconst 0, 1) := by decide +kernel
theorem dX12_count1_3 : decode cX12_count1 3 = .ok (.istore_n 2, 1) := by decide +kernel
theorem dX12_count1_4 : decode cX12_count1 4 = .ok (.iload_n 2, 1) := by decide +kernel
theorem dX12_count1_5 : decode cX12_count1 5 = .ok (.bipush 31, 2) := by decide +kernel
theorem dX12_count1_7 : decode cX12_count1 7 = .ok (.if_icmp .ge 17, 3) := by decide +kernel
theorem dX12_count1_10 : decode cX12_count1 10 = .ok (.iload_n 1, 1) := by decide +kernel
theorem dX12_count1_11 : decode cX12_count1 11 = .ok (.iload_n 0, 1) := by decide +kernel
theorem dX12_count1_12 : decode cX12_count1 12 = .ok (.iload_n 2, 1) := by decide +kernel
theorem dX12_count1_13 : decode cX12_count1 13 = .ok (.ishr, 1) := by decide +kernel
theorem dX12_count1_14 : decode cX12_count1 14 = .ok (.iconst 1, 1) := by decide +kernel
theorem dX12_count1_15 : decode cX12_count1 15 = .ok (.iand, 1) := by decide +kernel
theorem dX12_count1_16 : decode cX12_count1 16 = .ok (.iadd, 1) := by decide +kernel
theorem dX12_count1_17 : decode cX12_count1 17 = .ok (.istore_n 1, 1) := by decide +kernel
theorem dX12_count1_18 : decode cX12_count1 18 = .ok (.iinc 2 1, 3) := by decide +kernel
theorem dX12_count1_21 : decode cX12_count1 21 = .ok (.goto (-17), 3) := by decide +kernel
theorem dX12_count1_24 : decode cX12_count1 24 = .ok (.iload_n 1, 1) := by decide +kernel
theorem dX12_count1_25 : decode cX12_count1 25 = .ok (.ireturn, 1) := by decide +kernel
theorem dX12_best_0 : decode cX12_best 0 = .ok (.aload_n 0, 1) := by decide +kernel
theorem dX12_best_1 : decode cX12_best 1 = .ok (.iload_n 1, 1) := by decide +kernel
theorem dX12_best_2 : decode cX12_best 2 = .ok (.invokevirtual 130, 3) := by decide +kernel
theorem dX12_best_5 : decode cX12_best 5 = .ok (.ifCond .eq 18, 3) := by decide +kernel
theorem dX12_best_8 : decode cX12_best 8 = .ok (.aload_n 0, 1) := by decide +kernel
theorem dX12_best_9 : decode cX12_best 9 = .ok (.iload_n 2, 1) := by decide +kernel
theorem dX12_best_10 : decode cX12_best 10 = .ok (.invokevirtual 130, 3) := by decide +kernel
theorem dX12_best_13 : decode cX12_best 13 = .ok (.ifCond .eq 10, 3) := by decide +kernel
theorem dX12_best_16 : decode cX12_best 16 = .ok (.iload 4, 2) := by decide +kernel
theorem dX12_best_18 : decode cX12_best 18 = .ok (.bipush (-2), 2) := by decide +kernel
theorem dX12_best_20 : decode cX12_best 20 = .ok (.if_icmp .ge 5, 3) := by decide +kernel
theorem dX12_best_23 : decode cX12_best 23 = .ok (.iconst (-1), 1) := by decide +kernel
theorem dX12_best_24 : decode cX12_best 24 = .ok (.ireturn, 1) := by decide +kernel
theorem dX12_best_25 : decode cX12_best 25 = .ok (.iload_n 1, 1) := by decide +kernel
theorem dX12_best_26 : decode cX12_best 26 = .ok (.iload_n 2, 1) := by decide +kernel
theorem dX12_best_27 : decode cX12_best 27 = .ok (.if_icmp .eq 27, 3) := by decide +kernel
theorem dX12_best_30 : decode cX12_best 30 = .ok (.iload_n 3, 1) := by decide +kernel
theorem dX12_best_31 : decode cX12_best 31 = .ok (.iconst 1, 1) := by decide +kernel
theorem dX12_best_32 : decode cX12_best 32 = .ok (.iconst 1, 1) := by decide +kernel
theorem dX12_best_33 : decode cX12_best 33 = .ok (.aload_n 0, 1) := by decide +kernel
theorem dX12_best_34 : decode cX12_best 34 = .ok (.getfield 127, 3) := by decide +kernel
theorem dX12_best_37 : decode cX12_best 37 = .ok (.ishl, 1) := by decide +kernel
theorem dX12_best_38 : decode cX12_best 38 = .ok (.iconst 1, 1) := by decide +kernel
theorem dX12_best_39 : decode cX12_best 39 = .ok (.isub, 1) := by decide +kernel
theorem dX12_best_40 : decode cX12_best 40 = .ok (.invokestatic 123, 3) := by decide +kernel
theorem dX12_best_43 : decode cX12_best 43 = .ok (.ifCond .eq 11, 3) := by decide +kernel
theorem dX12_best_46 : decode cX12_best 46 = .ok (.iload_n 3, 1) := by decide +kernel
theorem dX12_best_47 : decode cX12_best 47 = .ok (.invokestatic 273, 3) := by decide +kernel
theorem dX12_best_50 : decode cX12_best 50 = .ok (.iconst 4, 1) := by decide +kernel
theorem dX12_best_51 : decode cX12_best 51 = .ok (.if_icmp .le 6, 3) := by decide +kernel
theorem dX12_best_54 : decode cX12_best 54 = .ok (.bipush (-2), 2) := by decide +kernel
theorem dX12_best_56 : decode cX12_best 56 = .ok (.ireturn, 1) := by decide +kernel
theorem dX12_best_57 : decode cX12_best 57 = .ok (.aload_n 0, 1) := by decide +kernel
theorem dX12_best_58 : decode cX12_best 58 = .ok (.iconst 0, 1) := by decide +kernel
theorem dX12_best_59 : decode cX12_best 59 = .ok (.putfield 258, 3) := by decide +kernel
theorem dX12_best_62 : decode cX12_best 62 = .ok (.iconst 0, 1) := by decide +kernel
theorem dX12_best_63 : decode cX12_best 63 = .ok (.istore 5, 2) := by decide +kernel
theorem dX12_best_65 : decode cX12_best 65 = .ok (.iload 5, 2) := by decide +kernel
theorem dX12_best_67 : decode cX12_best 67 = .ok (.aload_n 0, 1) := by decide +kernel
theorem dX12_best_68 : decode cX12_best 68 = .ok (.getfield 127, 3) := by decide +kernel
theorem dX12_best_71 : decode cX12_best 71 = .ok (.if_icmp .ge 40, 3) := by decide +kernel
theorem dX12_best_74 : decode cX12_best 74 = .ok (.iload_n 3, 1) := by decide +kernel
theorem dX12_best_75 : decode cX12_best 75 = .ok (.iload 5, 2) := by decide +kernel
theorem dX12_best_77 : decode cX12_best 77 = .ok (.ishr, 1) := by decide +kernel
theorem dX12_best_78 : decode cX12_best 78 = .ok (.iconst 1, 1) := by decide +kernel
theorem dX12_best_79 : decode cX12_best 79 = .ok (.iand, 1) := by decide +kernel
theorem dX12_best_80 : decode cX12_best 80 = .ok (.iconst 1, 1) := by decide +kernel
theorem dX12_best_81 : decode cX12_best 81 = .ok (.if_icmp .ne 24, 3) := by decide +kernel
theorem dX12_best_84 : decode cX12_best 84 = .ok (.aload_n 0, 1) := by decide +kernel
theorem dX12_best_85 : decode cX12_best 85 = .ok (.getfield 87, 3) := by decide +kernel
theorem dX12_best_88 : decode cX12_best 88 = .ok (.aload_n 0, 1) := by decide +kernel
theorem dX12_best_89 : decode cX12_best 89 = .ok (.getfield 258, 3) := by decide +kernel
theorem dX12_best_92 : decode cX12_best 92 = .ok (.iload 5, 2) := by decide +kernel
theorem dX12_best_94 : decode cX12_best 94 = .ok (.iastore, 1) := by decide +kernel
theorem dX12_best_95 : decode cX12_best 95 = .ok (.aload_n 0, 1) := by decide +kernel
theorem dX12_best_96 : decode cX12_best 96 = .ok (.dup, 1) := by decide +kernel
theorem dX12_best_97 : decode cX12_best 97 = .ok (.getfield 258, 3) := by decide +kernel
theorem dX12_best_100 : decode cX12_best 100 = .ok (.iconst 1, 1) := by decide +kernel
theorem dX12_best_101 : decode cX12_best 101 = .ok (.iadd, 1) := by decide +kernel
theorem dX12_best_102 : decode cX12_best 102 = .ok (.putfield 258, 3) := by decide +kernel
theorem dX12_best_105 : decode cX12_best 105 = .ok (.iinc 5 1, 3) := by decide +kernel
theorem dX12_best_108 : decode cX12_best 108 = .ok (.goto (-43), 3) := by decide +kernel
theorem dX12_best_111 : decode cX12_best 111 = .ok (.aload_n 0, 1) := by decide +kernel
theorem dX12_best_112 : decode cX12_best 112 = .ok (.iconst (-1), 1) := by decide +kernel
theorem dX12_best_113 : decode cX12_best 113 = .ok (.putfield 261, 3) := by decide +kernel
theorem dX12_best_116 : decode cX12_best 116 = .ok (.aload_n 0, 1) := by decide +kernel
theorem dX12_best_117 : decode cX12_best 117 = .ok (.iload_n 1, 1) := by decide +kernel
theorem dX12_best_118 : decode cX12_best 118 = .ok (.iload_n 2, 1) := by decide +kernel
theorem dX12_best_119 : decode cX12_best 119 = .ok (.iconst 0, 1) := by decide +kernel
theorem dX12_best_120 : decode cX12_best 120 = .ok (.iconst 0, 1) := by decide +kernel
theorem dX12_best_121 : decode cX12_best 121 = .ok (.invokevirtual 270, 3) := by decide +kernel
theorem dX12_best_124 : decode cX12_best 124 = .ok (.iload 4, 2) := by decide +kernel
theorem dX12_best_126 : decode cX12_best 126 = .ok (.ifCond .ge 21, 3) := by decide +kernel
theorem dX12_best_129 : decode cX12_best 129 = .ok (.iload 4, 2) := by decide +kernel
theorem dX12_best_131 : decode cX12_best 131 = .ok (.iconst (-1), 1) := by decide +kernel
theorem dX12_best_132 : decode cX12_best 132 = .ok (.if_icmp .ne 10, 3) := by decide +kernel
theorem dX12_best_135 : decode cX12_best 135 = .ok (.aload_n 0, 1) := by decide +kernel
theorem dX12_best_136 : decode cX12_best 136 = .ok (.getfield 261, 3) := by decide +kernel
theorem dX12_best_139 : decode cX12_best 139 = .ok (.goto 7, 3) := by decide +kernel
theorem dX12_best_142 : decode cX12_best 142 = .ok (.aload_n 0, 1) := by decide +kernel
theorem dX12_best_143 : decode cX12_best 143 = .ok (.getfield 264, 3) := by decide +kernel
theorem dX12_best_146 : decode cX12_best 146 = .ok (.ireturn, 1) := by decide +kernel
theorem dX12_best_147 : decode cX12_best 147 = .ok (.iload 4, 2) := by decide +kernel
theorem dX12_best_149 : decode cX12_best 149 = .ok (.aload_n 0, 1) := by decide +kernel
theorem dX12_best_150 : decode cX12_best 150 = .ok (.getfield 258, 3) := by decide +kernel
theorem dX12_best_153 : decode cX12_best 153 = .ok (.if_icmp .ge 13, 3) := by decide +kernel
theorem dX12_best_156 : decode cX12_best 156 = .ok (.aload_n 0, 1) := by decide +kernel
theorem dX12_best_157 : decode cX12_best 157 = .ok (.getfield 93, 3) := by decide +kernel
theorem dX12_best_160 : decode cX12_best 160 = .ok (.iload 4, 2) := by decide +kernel
theorem dX12_best_162 : decode cX12_best 162 = .ok (.iaload, 1) := by decide +kernel
theorem dX12_best_163 : decode cX12_best 163 = .ok (.goto 4, 3) := by decide +kernel
theorem dX12_best_166 : decode cX12_best 166 = .ok (.iconst (-1), 1) := by decide +kernel
theorem dX12_best_167 : decode cX12_best 167 = .ok (.ireturn, 1) := by decide +kernel
theorem dX12_feeds_0 : decode cX12_feeds 0 = .ok (.aload_n 0, 1) := by decide +kernel
theorem dX12_feeds_1 : decode cX12_feeds 1 = .ok (.iload_n 1, 1) := by decide +kernel
theorem dX12_feeds_2 : decode cX12_feeds 2 = .ok (.invokevirtual 130, 3) := by decide +kernel
theorem dX12_feeds_5 : decode cX12_feeds 5 = .ok (.ifCond .eq 19, 3) := by decide +kernel
theorem dX12_feeds_8 : decode cX12_feeds 8 = .ok (.aload_n 0, 1) := by decide +kernel
theorem dX12_feeds_9 : decode cX12_feeds 9 = .ok (.iload_n 2, 1) := by decide +kernel
theorem dX12_feeds_10 : decode cX12_feeds 10 = .ok (.invokevirtual 203, 3) := by decide +kernel
theorem dX12_feeds_13 : decode cX12_feeds 13 = .ok (.ifCond .eq 11, 3) := by decide +kernel
theorem dX12_feeds_16 : decode cX12_feeds 16 = .ok (.aload_n 0, 1) := by decide +kernel
theorem dX12_feeds_17 : decode cX12_feeds 17 = .ok (.iload_n 3, 1) := by decide +kernel
theorem dX12_feeds_18 : decode cX12_feeds 18 = .ok (.invokevirtual 203, 3) := by decide +kernel
theorem dX12_feeds_21 : decode cX12_feeds 21 = .ok (.ifCond .ne 5, 3) := by decide +kernel
theorem dX12_feeds_24 : decode cX12_feeds 24 = .ok (.iconst (-1), 1) := by decide +kernel
theorem dX12_feeds_25 : decode cX12_feeds 25 = .ok (.ireturn, 1) := by decide +kernel
theorem dX12_feeds_26 : decode cX12_feeds 26 = .ok (.iload_n 2, 1) := by decide +kernel
theorem dX12_feeds_27 : decode cX12_feeds 27 = .ok (.iload_n 3, 1) := by decide +kernel
theorem dX12_feeds_28 : decode cX12_feeds 28 = .ok (.if_icmp .ne 6, 3) := by decide +kernel
theorem dX12_feeds_31 : decode cX12_feeds 31 = .ok (.bipush (-2), 2) := by decide +kernel
theorem dX12_feeds_33 : decode cX12_feeds 33 = .ok (.ireturn, 1) := by decide +kernel
theorem dX12_feeds_34 : decode cX12_feeds 34 = .ok (.iconst 0, 1) := by decide +kernel
theorem dX12_feeds_35 : decode cX12_feeds 35 = .ok (.istore 4, 2) := by decide +kernel
theorem dX12_feeds_37 : decode cX12_feeds 37 = .ok (.iload 4, 2) := by decide +kernel
theorem dX12_feeds_39 : decode cX12_feeds 39 = .ok (.bipush 10, 2) := by decide +kernel
theorem dX12_feeds_41 : decode cX12_feeds 41 = .ok (.if_icmp .ge 157, 3) := by decide +kernel
theorem dX12_feeds_44 : decode cX12_feeds 44 = .ok (.aload_n 0, 1) := by decide +kernel
theorem dX12_feeds_45 : decode cX12_feeds 45 = .ok (.iload_n 1, 1) := by decide +kernel
theorem dX12_feeds_46 : decode cX12_feeds 46 = .ok (.iload 4, 2) := by decide +kernel
theorem dX12_feeds_48 : decode cX12_feeds 48 = .ok (.invokevirtual 228, 3) := by decide +kernel
theorem dX12_feeds_51 : decode cX12_feeds 51 = .ok (.ifCond .eq 141, 3) := by decide +kernel
theorem dX12_feeds_54 : decode cX12_feeds 54 = .ok (.aload_n 0, 1) := by decide +kernel
theorem dX12_feeds_55 : decode cX12_feeds 55 = .ok (.iload_n 1, 1) := by decide +kernel
theorem dX12_feeds_56 : decode cX12_feeds 56 = .ok (.iload 4, 2) := by decide +kernel
theorem dX12_feeds_58 : decode cX12_feeds 58 = .ok (.invokevirtual 209, 3) := by decide +kernel
theorem dX12_feeds_61 : decode cX12_feeds 61 = .ok (.aload_n 0, 1) := by decide +kernel
theorem dX12_feeds_62 : decode cX12_feeds 62 = .ok (.iload_n 2, 1) := by decide +kernel
theorem dX12_feeds_63 : decode cX12_feeds 63 = .ok (.invokevirtual 212, 3) := by decide +kernel
theorem dX12_feeds_66 : decode cX12_feeds 66 = .ok (.aload_n 0, 1) := by decide +kernel
theorem dX12_feeds_67 : decode cX12_feeds 67 = .ok (.iload_n 3, 1) := by decide +kernel
theorem dX12_feeds_68 : decode cX12_feeds 68 = .ok (.invokevirtual 212, 3) := by decide +kernel
theorem dX12_feeds_71 : decode cX12_feeds 71 = .ok (.aload_n 0, 1) := by decide +kernel
theorem dX12_feeds_72 : decode cX12_feeds 72 = .ok (.getfield 175, 3) := by decide +kernel
theorem dX12_feeds_75 : decode cX12_feeds 75 = .ok (.istore 5, 2) := by decide +kernel
theorem dX12_feeds_77 : decode cX12_feeds 77 = .ok (.iconst 0, 1) := by decide +kernel
theorem dX12_feeds_78 : decode cX12_feeds 78 = .ok (.istore 6, 2) := by decide +kernel
theorem dX12_feeds_80 : decode cX12_feeds 80 = .ok (.iload 6, 2) := by decide +kernel
theorem dX12_feeds_82 : decode cX12_feeds 82 = .ok (.iload 5, 2) := by decide +kernel
theorem dX12_feeds_84 : decode cX12_feeds 84 = .ok (.if_icmp .ge 23, 3) := by decide +kernel
theorem dX12_feeds_87 : decode cX12_feeds 87 = .ok (.aload_n 0, 1) := by decide +kernel
theorem dX12_feeds_88 : decode cX12_feeds 88 = .ok (.getfield 96, 3) := by decide +kernel
theorem dX12_feeds_91 : decode cX12_feeds 91 = .ok (.iload 6, 2) := by decide +kernel
theorem dX12_feeds_93 : decode cX12_feeds 93 = .ok (.aload_n 0, 1) := by decide +kernel
theorem dX12_feeds_94 : decode cX12_feeds 94 = .ok (.getfield 75, 3) := by decide +kernel
theorem dX12_feeds_97 : decode cX12_feeds 97 = .ok (.iload 6, 2) := by decide +kernel
theorem dX12_feeds_99 : decode cX12_feeds 99 = .ok (.iaload, 1) := by decide +kernel
theorem dX12_feeds_100 : decode cX12_feeds 100 = .ok (.iastore, 1) := by decide +kernel
theorem dX12_feeds_101 : decode cX12_feeds 101 = .ok (.iinc 6 1, 3) := by decide +kernel
theorem dX12_feeds_104 : decode cX12_feeds 104 = .ok (.goto (-24), 3) := by decide +kernel
theorem dX12_feeds_107 : decode cX12_feeds 107 = .ok (.aload_n 0, 1) := by decide +kernel
theorem dX12_feeds_108 : decode cX12_feeds 108 = .ok (.iload_n 1, 1) := by decide +kernel
theorem dX12_feeds_109 : decode cX12_feeds 109 = .ok (.iload 4, 2) := by decide +kernel
theorem dX12_feeds_111 : decode cX12_feeds 111 = .ok (.invokevirtual 209, 3) := by decide +kernel
theorem dX12_feeds_114 : decode cX12_feeds 114 = .ok (.aload_n 0, 1) := by decide +kernel
theorem dX12_feeds_115 : decode cX12_feeds 115 = .ok (.iload_n 3, 1) := by decide +kernel
theorem dX12_feeds_116 : decode cX12_feeds 116 = .ok (.invokevirtual 212, 3) := by decide +kernel
theorem dX12_feeds_119 : decode cX12_feeds 119 = .ok (.aload_n 0, 1) := by decide +kernel
theorem dX12_feeds_120 : decode cX12_feeds 120 = .ok (.iload_n 2, 1) := by decide +kernel
theorem dX12_feeds_121 : decode cX12_feeds 121 = .ok (.invokevirtual 212, 3) := by decide +kernel
theorem dX12_feeds_124 : decode cX12_feeds 124 = .ok (.aload_n 0, 1) := by decide +kernel
theorem dX12_feeds_125 : decode cX12_feeds 125 = .ok (.getfield 175, 3) := by decide +kernel
theorem dX12_feeds_128 : decode cX12_feeds 128 = .ok (.iload 5, 2) := by decide +kernel
theorem dX12_feeds_130 : decode cX12_feeds 130 = .ok (.if_icmp .ne 7, 3) := by decide +kernel
theorem dX12_feeds_133 : decode cX12_feeds 133 = .ok (.iconst 1, 1) := by decide +kernel
theorem dX12_feeds_134 : decode cX12_feeds 134 = .ok (.goto 4, 3) := by decide +kernel
theorem dX12_feeds_137 : decode cX12_feeds 137 = .ok (.iconst 0, 1) := by decide +kernel
theorem dX12_feeds_138 : decode cX12_feeds 138 = .ok (.istore 6, 2) := by decide +kernel
theorem dX12_feeds_140 : decode cX12_feeds 140 = .ok (.iconst 0, 1) := by decide +kernel
theorem dX12_feeds_141 : decode cX12_feeds 141 = .ok (.istore 7, 2) := by decide +kernel
theorem dX12_feeds_143 : decode cX12_feeds 143 = .ok (.iload 7, 2) := by decide +kernel
theorem dX12_feeds_145 : decode cX12_feeds 145 = .ok (.iload 5, 2) := by decide +kernel
theorem dX12_feeds_147 : decode cX12_feeds 147 = .ok (.if_icmp .ge 38, 3) := by decide +kernel
theorem dX12_feeds_150 : decode cX12_feeds 150 = .ok (.iload 6, 2) := by decide +kernel
theorem dX12_feeds_152 : decode cX12_feeds 152 = .ok (.ifCond .eq 33, 3) := by decide +kernel
theorem dX12_feeds_155 : decode cX12_feeds 155 = .ok (.aload_n 0, 1) := by decide +kernel
theorem dX12_feeds_156 : decode cX12_feeds 156 = .ok (.getfield 75, 3) := by decide +kernel
theorem dX12_feeds_159 : decode cX12_feeds 159 = .ok (.iload 7, 2) := by decide +kernel
theorem dX12_feeds_161 : decode cX12_feeds 161 = .ok (.iaload, 1) := by decide +kernel
theorem dX12_feeds_162 : decode cX12_feeds 162 = .ok (.aload_n 0, 1) := by decide +kernel
theorem dX12_feeds_163 : decode cX12_feeds 163 = .ok (.getfield 96, 3) := by decide +kernel
theorem dX12_feeds_166 : decode cX12_feeds 166 = .ok (.iload 7, 2) := by decide +kernel
theorem dX12_feeds_168 : decode cX12_feeds 168 = .ok (.iaload, 1) := by decide +kernel
theorem dX12_feeds_169 : decode cX12_feeds 169 = .ok (.if_icmp .ne 7, 3) := by decide +kernel
theorem dX12_feeds_172 : decode cX12_feeds 172 = .ok (.iconst 1, 1) := by decide +kernel
theorem dX12_feeds_173 : decode cX12_feeds 173 = .ok (.goto 4, 3) := by decide +kernel
theorem dX12_feeds_176 : decode cX12_feeds 176 = .ok (.iconst 0, 1) := by decide +kernel
theorem dX12_feeds_177 : decode cX12_feeds 177 = .ok (.istore 6, 2) := by decide +kernel
theorem dX12_feeds_179 : decode cX12_feeds 179 = .ok (.iinc 7 1, 3) := by decide +kernel
theorem dX12_feeds_182 : decode cX12_feeds 182 = .ok (.goto (-39), 3) := by decide +kernel
theorem dX12_feeds_185 : decode cX12_feeds 185 = .ok (.iload 6, 2) := by decide +kernel
theorem dX12_feeds_187 : decode cX12_feeds 187 = .ok (.ifCond .ne 5, 3) := by decide +kernel
theorem dX12_feeds_190 : decode cX12_feeds 190 = .ok (.iconst 1, 1) := by decide +kernel
theorem dX12_feeds_191 : decode cX12_feeds 191 = .ok (.ireturn, 1) := by decide +kernel
theorem dX12_feeds_192 : decode cX12_feeds 192 = .ok (.iinc 4 1, 3) := by decide +kernel
theorem dX12_feeds_195 : decode cX12_feeds 195 = .ok (.goto (-158), 3) := by decide +kernel
theorem dX12_feeds_198 : decode cX12_feeds 198 = .ok (.iconst 0, 1) := by decide +kernel
theorem dX12_feeds_199 : decode cX12_feeds 199 = .ok (.ireturn, 1) := by decide +kernel
theorem dX12_refuses_0 : decode cX12_refuses 0 = .ok (.iload_n 1, 1) := by decide +kernel
theorem dX12_refuses_1 : decode cX12_refuses 1 = .ok (.iconst 1, 1) := by decide +kernel
theorem dX12_refuses_2 : decode cX12_refuses 2 = .ok (.iconst 1, 1) := by decide +kernel
theorem dX12_refuses_3 : decode cX12_refuses 3 = .ok (.aload_n 0, 1) := by decide +kernel
theorem dX12_refuses_4 : decode cX12_refuses 4 = .ok (.getfield 120, 3) := by decide +kernel
theorem dX12_refuses_7 : decode cX12_refuses 7 = .ok (.ishl, 1) := by decide +kernel
theorem dX12_refuses_8 : decode cX12_refuses 8 = .ok (.iconst 1, 1) := by decide +kernel
theorem dX12_refuses_9 : decode cX12_refuses 9 = .ok (.isub, 1) := by decide +kernel
theorem dX12_refuses_10 : decode cX12_refuses 10 = .ok (.invokestatic 123, 3) := by decide +kernel
theorem dX12_refuses_13 : decode cX12_refuses 13 = .ok (.ifCond .eq 11, 3) := by decide +kernel
theorem dX12_refuses_16 : decode cX12_refuses 16 = .ok (.iload_n 1, 1) := by decide +kernel
theorem dX12_refuses_17 : decode cX12_refuses 17 = .ok (.invokestatic 273, 3) := by decide +kernel
theorem dX12_refuses_20 : decode cX12_refuses 20 = .ok (.iconst 3, 1) := by decide +kernel
theorem dX12_refuses_21 : decode cX12_refuses 21 = .ok (.if_icmp .ge 6, 3) := by decide +kernel
theorem dX12_refuses_24 : decode cX12_refuses 24 = .ok (.bipush (-2), 2) := by decide +kernel
theorem dX12_refuses_26 : decode cX12_refuses 26 = .ok (.ireturn, 1) := by decide +kernel
theorem dX12_refuses_27 : decode cX12_refuses 27 = .ok (.aload_n 0, 1) := by decide +kernel
theorem dX12_refuses_28 : decode cX12_refuses 28 = .ok (.iconst 0, 1) := by decide +kernel
theorem dX12_refuses_29 : decode cX12_refuses 29 = .ok (.putfield 277, 3) := by decide +kernel
theorem dX12_refuses_32 : decode cX12_refuses 32 = .ok (.iconst 0, 1) := by decide +kernel
theorem dX12_refuses_33 : decode cX12_refuses 33 = .ok (.istore_n 2, 1) := by decide +kernel
theorem dX12_refuses_34 : decode cX12_refuses 34 = .ok (.iload_n 2, 1) := by decide +kernel
theorem dX12_refuses_35 : decode cX12_refuses 35 = .ok (.aload_n 0, 1) := by decide +kernel
theorem dX12_refuses_36 : decode cX12_refuses 36 = .ok (.getfield 120, 3) := by decide +kernel
theorem dX12_refuses_39 : decode cX12_refuses 39 = .ok (.if_icmp .ge 38, 3) := by decide +kernel
theorem dX12_refuses_42 : decode cX12_refuses 42 = .ok (.iload_n 1, 1) := by decide +kernel
theorem dX12_refuses_43 : decode cX12_refuses 43 = .ok (.iload_n 2, 1) := by decide +kernel
theorem dX12_refuses_44 : decode cX12_refuses 44 = .ok (.ishr, 1) := by decide +kernel
theorem dX12_refuses_45 : decode cX12_refuses 45 = .ok (.iconst 1, 1) := by decide +kernel
theorem dX12_refuses_46 : decode cX12_refuses 46 = .ok (.iand, 1) := by decide +kernel
theorem dX12_refuses_47 : decode cX12_refuses 47 = .ok (.iconst 1, 1) := by decide +kernel
theorem dX12_refuses_48 : decode cX12_refuses 48 = .ok (.if_icmp .ne 23, 3) := by decide +kernel
theorem dX12_refuses_51 : decode cX12_refuses 51 = .ok (.aload_n 0, 1) := by decide +kernel
theorem dX12_refuses_52 : decode cX12_refuses 52 = .ok (.getfield 99, 3) := by decide +kernel
theorem dX12_refuses_55 : decode cX12_refuses 55 = .ok (.aload_n 0, 1) := by decide +kernel
theorem dX12_refuses_56 : decode cX12_refuses 56 = .ok (.getfield 277, 3) := by decide +kernel
theorem dX12_refuses_59 : decode cX12_refuses 59 = .ok (.iload_n 2, 1) := by decide +kernel
theorem dX12_refuses_60 : decode cX12_refuses 60 = .ok (.iastore, 1) := by decide +kernel
theorem dX12_refuses_61 : decode cX12_refuses 61 = .ok (.aload_n 0, 1) := by decide +kernel
theorem dX12_refuses_62 : decode cX12_refuses 62 = .ok (.dup, 1) := by decide +kernel
theorem dX12_refuses_63 : decode cX12_refuses 63 = .ok (.getfield 277, 3) := by decide +kernel
theorem dX12_refuses_66 : decode cX12_refuses 66 = .ok (.iconst 1, 1) := by decide +kernel
theorem dX12_refuses_67 : decode cX12_refuses 67 = .ok (.iadd, 1) := by decide +kernel
theorem dX12_refuses_68 : decode cX12_refuses 68 = .ok (.putfield 277, 3) := by decide +kernel
theorem dX12_refuses_71 : decode cX12_refuses 71 = .ok (.iinc 2 1, 3) := by decide +kernel
theorem dX12_refuses_74 : decode cX12_refuses 74 = .ok (.goto (-40), 3) := by decide +kernel
theorem dX12_refuses_77 : decode cX12_refuses 77 = .ok (.iconst 0, 1) := by decide +kernel
theorem dX12_refuses_78 : decode cX12_refuses 78 = .ok (.istore_n 2, 1) := by decide +kernel
theorem dX12_refuses_79 : decode cX12_refuses 79 = .ok (.iload_n 2, 1) := by decide +kernel
theorem dX12_refuses_80 : decode cX12_refuses 80 = .ok (.bipush 10, 2) := by decide +kernel
theorem dX12_refuses_82 : decode cX12_refuses 82 = .ok (.if_icmp .ge 102, 3) := by decide +kernel
theorem dX12_refuses_85 : decode cX12_refuses 85 = .ok (.iconst 0, 1) := by decide +kernel
theorem dX12_refuses_86 : decode cX12_refuses 86 = .ok (.istore_n 3, 1) := by decide +kernel
theorem dX12_refuses_87 : decode cX12_refuses 87 = .ok (.iload_n 3, 1) := by decide +kernel
theorem dX12_refuses_88 : decode cX12_refuses 88 = .ok (.aload_n 0, 1) := by decide +kernel
theorem dX12_refuses_89 : decode cX12_refuses 89 = .ok (.getfield 277, 3) := by decide +kernel
theorem dX12_refuses_92 : decode cX12_refuses 92 = .ok (.if_icmp .ge 86, 3) := by decide +kernel
theorem dX12_refuses_95 : decode cX12_refuses 95 = .ok (.aload_n 0, 1) := by decide +kernel
theorem dX12_refuses_96 : decode cX12_refuses 96 = .ok (.getfield 99, 3) := by decide +kernel
theorem dX12_refuses_99 : decode cX12_refuses 99 = .ok (.iload_n 3, 1) := by decide +kernel
theorem dX12_refuses_100 : decode cX12_refuses 100 = .ok (.iaload, 1) := by decide +kernel
theorem dX12_refuses_101 : decode cX12_refuses 101 = .ok (.istore 4, 2) := by decide +kernel
theorem dX12_refuses_103 : decode cX12_refuses 103 = .ok (.aload_n 0, 1) := by decide +kernel
theorem dX12_refuses_104 : decode cX12_refuses 104 = .ok (.iload 4, 2) := by decide +kernel
theorem dX12_refuses_106 : decode cX12_refuses 106 = .ok (.iload_n 2, 1) := by decide +kernel
theorem dX12_refuses_107 : decode cX12_refuses 107 = .ok (.invokevirtual 228, 3) := by decide +kernel
theorem dX12_refuses_110 : decode cX12_refuses 110 = .ok (.ifCond .eq 13, 3) := by decide +kernel
theorem dX12_refuses_113 : decode cX12_refuses 113 = .ok (.aload_n 0, 1) := by decide +kernel
theorem dX12_refuses_114 : decode cX12_refuses 114 = .ok (.iload_n 2, 1) := by decide +kernel
theorem dX12_refuses_115 : decode cX12_refuses 115 = .ok (.iload 4, 2) := by decide +kernel
theorem dX12_refuses_117 : decode cX12_refuses 117 = .ok (.invokevirtual 246, 3) := by decide +kernel
theorem dX12_refuses_120 : decode cX12_refuses 120 = .ok (.goto 4, 3) := by decide +kernel
theorem dX12_refuses_123 : decode cX12_refuses 123 = .ok (.iconst 0, 1) := by decide +kernel
theorem dX12_refuses_124 : decode cX12_refuses 124 = .ok (.istore 5, 2) := by decide +kernel
theorem dX12_refuses_126 : decode cX12_refuses 126 = .ok (.iconst 0, 1) := by decide +kernel
theorem dX12_refuses_127 : decode cX12_refuses 127 = .ok (.istore 6, 2) := by decide +kernel
theorem dX12_refuses_129 : decode cX12_refuses 129 = .ok (.iload 5, 2) := by decide +kernel
theorem dX12_refuses_131 : decode cX12_refuses 131 = .ok (.ifCond .le 19, 3) := by decide +kernel
theorem dX12_refuses_134 : decode cX12_refuses 134 = .ok (.iload 5, 2) := by decide +kernel
theorem dX12_refuses_136 : decode cX12_refuses 136 = .ok (.iload 6, 2) := by decide +kernel
theorem dX12_refuses_138 : decode cX12_refuses 138 = .ok (.ishr, 1) := by decide +kernel
theorem dX12_refuses_139 : decode cX12_refuses 139 = .ok (.iconst 1, 1) := by decide +kernel
theorem dX12_refuses_140 : decode cX12_refuses 140 = .ok (.iand, 1) := by decide +kernel
theorem dX12_refuses_141 : decode cX12_refuses 141 = .ok (.ifCond .ne 9, 3) := by decide +kernel
theorem dX12_refuses_144 : decode cX12_refuses 144 = .ok (.iinc 6 1, 3) := by decide +kernel
theorem dX12_refuses_147 : decode cX12_refuses 147 = .ok (.goto (-18), 3) := by decide +kernel
theorem dX12_refuses_150 : decode cX12_refuses 150 = .ok (.aload_n 0, 1) := by decide +kernel
theorem dX12_refuses_151 : decode cX12_refuses 151 = .ok (.getfield 108, 3) := by decide +kernel
theorem dX12_refuses_154 : decode cX12_refuses 154 = .ok (.bipush 6, 2) := by decide +kernel
theorem dX12_refuses_156 : decode cX12_refuses 156 = .ok (.iload_n 2, 1) := by decide +kernel
theorem dX12_refuses_157 : decode cX12_refuses 157 = .ok (.imul, 1) := by decide +kernel
theorem dX12_refuses_158 : decode cX12_refuses 158 = .ok (.iload_n 3, 1) := by decide +kernel
theorem dX12_refuses_159 : decode cX12_refuses 159 = .ok (.iadd, 1) := by decide +kernel
theorem dX12_refuses_160 : decode cX12_refuses 160 = .ok (.iload 5, 2) := by decide +kernel
theorem dX12_refuses_162 : decode cX12_refuses 162 = .ok (.ifCond .ne 7, 3) := by decide +kernel
theorem dX12_refuses_165 : decode cX12_refuses 165 = .ok (.iconst (-1), 1) := by decide +kernel
theorem dX12_refuses_166 : decode cX12_refuses 166 = .ok (.goto 5, 3) := by decide +kernel
theorem dX12_refuses_169 : decode cX12_refuses 169 = .ok (.iload 6, 2) := by decide +kernel
theorem dX12_refuses_171 : decode cX12_refuses 171 = .ok (.iastore, 1) := by decide +kernel
theorem dX12_refuses_172 : decode cX12_refuses 172 = .ok (.iinc 3 1, 3) := by decide +kernel
theorem dX12_refuses_175 : decode cX12_refuses 175 = .ok (.goto (-88), 3) := by decide +kernel
theorem dX12_refuses_178 : decode cX12_refuses 178 = .ok (.iinc 2 1, 3) := by decide +kernel
theorem dX12_refuses_181 : decode cX12_refuses 181 = .ok (.goto (-102), 3) := by decide +kernel
theorem dX12_refuses_184 : decode cX12_refuses 184 = .ok (.iconst 0, 1) := by decide +kernel
theorem dX12_refuses_185 : decode cX12_refuses 185 = .ok (.ireturn, 1) := by decide +kernel
theorem dX12_trees_0 : decode cX12_trees 0 = .ok (.aload_n 0, 1) := by decide +kernel
theorem dX12_trees_1 : decode cX12_trees 1 = .ok (.getfield 277, 3) := by decide +kernel
theorem dX12_trees_4 : decode cX12_trees 4 = .ok (.iconst 3, 1) := by decide +kernel
theorem dX12_trees_5 : decode cX12_trees 5 = .ok (.if_icmp .ne 7, 3) := by decide +kernel
theorem dX12_trees_8 : decode cX12_trees 8 = .ok (.iconst 1, 1) := by decide +kernel
theorem dX12_trees_9 : decode cX12_trees 9 = .ok (.goto 30, 3) := by decide +kernel
theorem dX12_trees_12 : decode cX12_trees 12 = .ok (.aload_n 0, 1) := by decide +kernel
theorem dX12_trees_13 : decode cX12_trees 13 = .ok (.getfield 277, 3) := by decide +kernel
theorem dX12_trees_16 : decode cX12_trees 16 = .ok (.iconst 4, 1) := by decide +kernel
theorem dX12_trees_17 : decode cX12_trees 17 = .ok (.if_icmp .ne 7, 3) := by decide +kernel
theorem dX12_trees_20 : decode cX12_trees 20 = .ok (.iconst 3, 1) := by decide +kernel
theorem dX12_trees_21 : decode cX12_trees 21 = .ok (.goto 18, 3) := by decide +kernel
theorem dX12_trees_24 : decode cX12_trees 24 = .ok (.aload_n 0, 1) := by decide +kernel
theorem dX12_trees_25 : decode cX12_trees 25 = .ok (.getfield 277, 3) := by decide +kernel
theorem dX12_trees_28 : decode cX12_trees 28 = .ok (.iconst 5, 1) := by decide +kernel
theorem dX12_trees_29 : decode cX12_trees 29 = .ok (.if_icmp .ne 8, 3) := by decide +kernel
theorem dX12_trees_32 : decode cX12_trees 32 = .ok (.bipush 15, 2) := by decide +kernel
theorem dX12_trees_34 : decode cX12_trees 34 = .ok (.goto 5, 3) := by decide +kernel
theorem dX12_trees_37 : decode cX12_trees 37 = .ok (.bipush 105, 2) := by decide +kernel
theorem dX12_trees_39 : decode cX12_trees 39 = .ok (.ireturn, 1) := by decide +kernel
theorem dX12_grows_0 : decode cX12_grows 0 = .ok (.aload_n 0, 1) := by decide +kernel
theorem dX12_grows_1 : decode cX12_grows 1 = .ok (.iconst 3, 1) := by decide +kernel
theorem dX12_grows_2 : decode cX12_grows 2 = .ok (.putfield 280, 3) := by decide +kernel
theorem dX12_grows_5 : decode cX12_grows 5 = .ok (.aload_n 0, 1) := by decide +kernel
theorem dX12_grows_6 : decode cX12_grows 6 = .ok (.bipush 7, 2) := by decide +kernel
theorem dX12_grows_8 : decode cX12_grows 8 = .ok (.putfield 283, 3) := by decide +kernel
theorem dX12_grows_11 : decode cX12_grows 11 = .ok (.iconst 0, 1) := by decide +kernel
theorem dX12_grows_12 : decode cX12_grows 12 = .ok (.istore_n 2, 1) := by decide +kernel
theorem dX12_grows_13 : decode cX12_grows 13 = .ok (.iload_n 2, 1) := by decide +kernel
theorem dX12_grows_14 : decode cX12_grows 14 = .ok (.iconst 3, 1) := by decide +kernel
theorem dX12_grows_15 : decode cX12_grows 15 = .ok (.if_icmp .ge 24, 3) := by decide +kernel
theorem dX12_grows_18 : decode cX12_grows 18 = .ok (.aload_n 0, 1) := by decide +kernel
theorem dX12_grows_19 : decode cX12_grows 19 = .ok (.getfield 102, 3) := by decide +kernel
theorem dX12_grows_22 : decode cX12_grows 22 = .ok (.iload_n 2, 1) := by decide +kernel
theorem dX12_grows_23 : decode cX12_grows 23 = .ok (.bipush 6, 2) := by decide +kernel
theorem dX12_grows_25 : decode cX12_grows 25 = .ok (.iastore, 1) := by decide +kernel
theorem dX12_grows_26 : decode cX12_grows 26 = .ok (.aload_n 0, 1) := by decide +kernel
theorem dX12_grows_27 : decode cX12_grows 27 = .ok (.getfield 105, 3) := by decide +kernel
theorem dX12_grows_30 : decode cX12_grows 30 = .ok (.iload_n 2, 1) := by decide +kernel
theorem dX12_grows_31 : decode cX12_grows 31 = .ok (.iload_n 2, 1) := by decide +kernel
theorem dX12_grows_32 : decode cX12_grows 32 = .ok (.iastore, 1) := by decide +kernel
theorem dX12_grows_33 : decode cX12_grows 33 = .ok (.iinc 2 1, 3) := by decide +kernel
theorem dX12_grows_36 : decode cX12_grows 36 = .ok (.goto (-23), 3) := by decide +kernel
theorem dX12_grows_39 : decode cX12_grows 39 = .ok (.iload_n 1, 1) := by decide +kernel
theorem dX12_grows_40 : decode cX12_grows 40 = .ok (.istore_n 2, 1) := by decide +kernel
theorem dX12_grows_41 : decode cX12_grows 41 = .ok (.aload_n 0, 1) := by decide +kernel
theorem dX12_grows_42 : decode cX12_grows 42 = .ok (.invokevirtual 286, 3) := by decide +kernel
theorem dX12_grows_45 : decode cX12_grows 45 = .ok (.istore_n 3, 1) := by decide +kernel
theorem dX12_grows_46 : decode cX12_grows 46 = .ok (.iconst 3, 1) := by decide +kernel
theorem dX12_grows_47 : decode cX12_grows 47 = .ok (.istore 4, 2) := by decide +kernel
theorem dX12_grows_49 : decode cX12_grows 49 = .ok (.iload 4, 2) := by decide +kernel
theorem dX12_grows_51 : decode cX12_grows 51 = .ok (.aload_n 0, 1) := by decide +kernel
theorem dX12_grows_52 : decode cX12_grows 52 = .ok (.getfield 277, 3) := by decide +kernel
theorem dX12_grows_55 : decode cX12_grows 55 = .ok (.if_icmp .ge 119, 3) := by decide +kernel
theorem dX12_grows_58 : decode cX12_grows 58 = .ok (.iconst 2, 1) := by decide +kernel
theorem dX12_grows_59 : decode cX12_grows 59 = .ok (.iload 4, 2) := by decide +kernel
theorem dX12_grows_61 : decode cX12_grows 61 = .ok (.imul, 1) := by decide +kernel
theorem dX12_grows_62 : decode cX12_grows 62 = .ok (.iconst 3, 1) := by decide +kernel
theorem dX12_grows_63 : decode cX12_grows 63 = .ok (.isub, 1) := by decide +kernel
theorem dX12_grows_64 : decode cX12_grows 64 = .ok (.istore 5, 2) := by decide +kernel
theorem dX12_grows_66 : decode cX12_grows 66 = .ok (.iload_n 3, 1) := by decide +kernel
theorem dX12_grows_67 : decode cX12_grows 67 = .ok (.iload 5, 2) := by decide +kernel
theorem dX12_grows_69 : decode cX12_grows 69 = .ok (.idiv, 1) := by decide +kernel
theorem dX12_grows_70 : decode cX12_grows 70 = .ok (.istore_n 3, 1) := by decide +kernel
theorem dX12_grows_71 : decode cX12_grows 71 = .ok (.iload_n 2, 1) := by decide +kernel
theorem dX12_grows_72 : decode cX12_grows 72 = .ok (.iload_n 3, 1) := by decide +kernel
theorem dX12_grows_73 : decode cX12_grows 73 = .ok (.idiv, 1) := by decide +kernel
theorem dX12_grows_74 : decode cX12_grows 74 = .ok (.istore 6, 2) := by decide +kernel
theorem dX12_grows_76 : decode cX12_grows 76 = .ok (.iload_n 2, 1) := by decide +kernel
theorem dX12_grows_77 : decode cX12_grows 77 = .ok (.iload_n 3, 1) := by decide +kernel
theorem dX12_grows_78 : decode cX12_grows 78 = .ok (.irem, 1) := by decide +kernel
theorem dX12_grows_79 : decode cX12_grows 79 = .ok (.istore_n 2, 1) := by decide +kernel
theorem dX12_grows_80 : decode cX12_grows 80 = .ok (.aload_n 0, 1) := by decide +kernel
theorem dX12_grows_81 : decode cX12_grows 81 = .ok (.getfield 102, 3) := by decide +kernel
theorem dX12_grows_84 : decode cX12_grows 84 = .ok (.aload_n 0, 1) := by decide +kernel
theorem dX12_grows_85 : decode cX12_grows 85 = .ok (.getfield 280, 3) := by decide +kernel
theorem dX12_grows_88 : decode cX12_grows 88 = .ok (.aload_n 0, 1) := by decide +kernel
theorem dX12_grows_89 : decode cX12_grows 89 = .ok (.getfield 283, 3) := by decide +kernel
theorem dX12_grows_92 : decode cX12_grows 92 = .ok (.iastore, 1) := by decide +kernel
theorem dX12_grows_93 : decode cX12_grows 93 = .ok (.aload_n 0, 1) := by decide +kernel
theorem dX12_grows_94 : decode cX12_grows 94 = .ok (.getfield 105, 3) := by decide +kernel
theorem dX12_grows_97 : decode cX12_grows 97 = .ok (.aload_n 0, 1) := by decide +kernel
theorem dX12_grows_98 : decode cX12_grows 98 = .ok (.getfield 280, 3) := by decide +kernel
theorem dX12_grows_101 : decode cX12_grows 101 = .ok (.aload_n 0, 1) := by decide +kernel
theorem dX12_grows_102 : decode cX12_grows 102 = .ok (.getfield 105, 3) := by decide +kernel
theorem dX12_grows_105 : decode cX12_grows 105 = .ok (.iload 6, 2) := by decide +kernel
theorem dX12_grows_107 : decode cX12_grows 107 = .ok (.iaload, 1) := by decide +kernel
theorem dX12_grows_108 : decode cX12_grows 108 = .ok (.iastore, 1) := by decide +kernel
theorem dX12_grows_109 : decode cX12_grows 109 = .ok (.aload_n 0, 1) := by decide +kernel
theorem dX12_grows_110 : decode cX12_grows 110 = .ok (.getfield 105, 3) := by decide +kernel
theorem dX12_grows_113 : decode cX12_grows 113 = .ok (.iload 6, 2) := by decide +kernel
theorem dX12_grows_115 : decode cX12_grows 115 = .ok (.aload_n 0, 1) := by decide +kernel
theorem dX12_grows_116 : decode cX12_grows 116 = .ok (.getfield 283, 3) := by decide +kernel
theorem dX12_grows_119 : decode cX12_grows 119 = .ok (.iastore, 1) := by decide +kernel
theorem dX12_grows_120 : decode cX12_grows 120 = .ok (.aload_n 0, 1) := by decide +kernel
theorem dX12_grows_121 : decode cX12_grows 121 = .ok (.getfield 102, 3) := by decide +kernel
theorem dX12_grows_124 : decode cX12_grows 124 = .ok (.aload_n 0, 1) := by decide +kernel
theorem dX12_grows_125 : decode cX12_grows 125 = .ok (.getfield 280, 3) := by decide +kernel
theorem dX12_grows_128 : decode cX12_grows 128 = .ok (.iconst 1, 1) := by decide +kernel
theorem dX12_grows_129 : decode cX12_grows 129 = .ok (.iadd, 1) := by decide +kernel
theorem dX12_grows_130 : decode cX12_grows 130 = .ok (.aload_n 0, 1) := by decide +kernel
theorem dX12_grows_131 : decode cX12_grows 131 = .ok (.getfield 283, 3) := by decide +kernel
theorem dX12_grows_134 : decode cX12_grows 134 = .ok (.iastore, 1) := by decide +kernel
theorem dX12_grows_135 : decode cX12_grows 135 = .ok (.aload_n 0, 1) := by decide +kernel
theorem dX12_grows_136 : decode cX12_grows 136 = .ok (.getfield 105, 3) := by decide +kernel
theorem dX12_grows_139 : decode cX12_grows 139 = .ok (.aload_n 0, 1) := by decide +kernel
theorem dX12_grows_140 : decode cX12_grows 140 = .ok (.getfield 280, 3) := by decide +kernel
theorem dX12_grows_143 : decode cX12_grows 143 = .ok (.iconst 1, 1) := by decide +kernel
theorem dX12_grows_144 : decode cX12_grows 144 = .ok (.iadd, 1) := by decide +kernel
theorem dX12_grows_145 : decode cX12_grows 145 = .ok (.iload 4, 2) := by decide +kernel
theorem dX12_grows_147 : decode cX12_grows 147 = .ok (.iastore, 1) := by decide +kernel
theorem dX12_grows_148 : decode cX12_grows 148 = .ok (.aload_n 0, 1) := by decide +kernel
theorem dX12_grows_149 : decode cX12_grows 149 = .ok (.dup, 1) := by decide +kernel
theorem dX12_grows_150 : decode cX12_grows 150 = .ok (.getfield 280, 3) := by decide +kernel
theorem dX12_grows_153 : decode cX12_grows 153 = .ok (.iconst 2, 1) := by decide +kernel
theorem dX12_grows_154 : decode cX12_grows 154 = .ok (.iadd, 1) := by decide +kernel
theorem dX12_grows_155 : decode cX12_grows 155 = .ok (.putfield 280, 3) := by decide +kernel
theorem dX12_grows_158 : decode cX12_grows 158 = .ok (.aload_n 0, 1) := by decide +kernel
theorem dX12_grows_159 : decode cX12_grows 159 = .ok (.dup, 1) := by decide +kernel
theorem dX12_grows_160 : decode cX12_grows 160 = .ok (.getfield 283, 3) := by decide +kernel
theorem dX12_grows_163 : decode cX12_grows 163 = .ok (.iconst 1, 1) := by decide +kernel
theorem dX12_grows_164 : decode cX12_grows 164 = .ok (.iadd, 1) := by decide +kernel
theorem dX12_grows_165 : decode cX12_grows 165 = .ok (.putfield 283, 3) := by decide +kernel
theorem dX12_grows_168 : decode cX12_grows 168 = .ok (.iinc 4 1, 3) := by decide +kernel
theorem dX12_grows_171 : decode cX12_grows 171 = .ok (.goto (-122), 3) := by decide +kernel
theorem dX12_grows_174 : decode cX12_grows 174 = .ok (.return_, 1) := by decide +kernel
theorem dX12_below_0 : decode cX12_below 0 = .ok (.iload_n 2, 1) := by decide +kernel
theorem dX12_below_1 : decode cX12_below 1 = .ok (.bipush 6, 2) := by decide +kernel
theorem dX12_below_3 : decode cX12_below 3 = .ok (.if_icmp .ge 40, 3) := by decide +kernel
theorem dX12_below_6 : decode cX12_below 6 = .ok (.aload_n 0, 1) := by decide +kernel
theorem dX12_below_7 : decode cX12_below 7 = .ok (.getfield 108, 3) := by decide +kernel
theorem dX12_below_10 : decode cX12_below 10 = .ok (.bipush 6, 2) := by decide +kernel
theorem dX12_below_12 : decode cX12_below 12 = .ok (.iload_n 1, 1) := by decide +kernel
theorem dX12_below_13 : decode cX12_below 13 = .ok (.imul, 1) := by decide +kernel
theorem dX12_below_14 : decode cX12_below 14 = .ok (.iload_n 2, 1) := by decide +kernel
theorem dX12_below_15 : decode cX12_below 15 = .ok (.iadd, 1) := by decide +kernel
theorem dX12_below_16 : decode cX12_below 16 = .ok (.iaload, 1) := by decide +kernel
theorem dX12_below_17 : decode cX12_below 17 = .ok (.iconst (-1), 1) := by decide +kernel
theorem dX12_below_18 : decode cX12_below 18 = .ok (.if_icmp .eq 18, 3) := by decide +kernel
theorem dX12_below_21 : decode cX12_below 21 = .ok (.aload_n 0, 1) := by decide +kernel
theorem dX12_below_22 : decode cX12_below 22 = .ok (.getfield 108, 3) := by decide +kernel
theorem dX12_below_25 : decode cX12_below 25 = .ok (.bipush 6, 2) := by decide +kernel
theorem dX12_below_27 : decode cX12_below 27 = .ok (.iload_n 1, 1) := by decide +kernel
theorem dX12_below_28 : decode cX12_below 28 = .ok (.imul, 1) := by decide +kernel
theorem dX12_below_29 : decode cX12_below 29 = .ok (.iload_n 2, 1) := by decide +kernel
theorem dX12_below_30 : decode cX12_below 30 = .ok (.iadd, 1) := by decide +kernel
theorem dX12_below_31 : decode cX12_below 31 = .ok (.iaload, 1) := by decide +kernel
theorem dX12_below_32 : decode cX12_below 32 = .ok (.iload_n 3, 1) := by decide +kernel
theorem dX12_below_33 : decode cX12_below 33 = .ok (.if_icmp .ne 7, 3) := by decide +kernel
theorem dX12_below_36 : decode cX12_below 36 = .ok (.iconst 0, 1) := by decide +kernel
theorem dX12_below_37 : decode cX12_below 37 = .ok (.goto 5, 3) := by decide +kernel
theorem dX12_below_40 : decode cX12_below 40 = .ok (.ldc 224, 2) := by decide +kernel
theorem dX12_below_42 : decode cX12_below 42 = .ok (.ireturn, 1) := by decide +kernel
theorem dX12_below_43 : decode cX12_below 43 = .ok (.iconst 0, 1) := by decide +kernel
theorem dX12_below_44 : decode cX12_below 44 = .ok (.istore 4, 2) := by decide +kernel
theorem dX12_below_46 : decode cX12_below 46 = .ok (.iconst 0, 1) := by decide +kernel
theorem dX12_below_47 : decode cX12_below 47 = .ok (.istore 5, 2) := by decide +kernel
theorem dX12_below_49 : decode cX12_below 49 = .ok (.iload 5, 2) := by decide +kernel
theorem dX12_below_51 : decode cX12_below 51 = .ok (.aload_n 0, 1) := by decide +kernel
theorem dX12_below_52 : decode cX12_below 52 = .ok (.getfield 280, 3) := by decide +kernel
theorem dX12_below_55 : decode cX12_below 55 = .ok (.if_icmp .ge 95, 3) := by decide +kernel
theorem dX12_below_58 : decode cX12_below 58 = .ok (.aload_n 0, 1) := by decide +kernel
theorem dX12_below_59 : decode cX12_below 59 = .ok (.getfield 102, 3) := by decide +kernel
theorem dX12_below_62 : decode cX12_below 62 = .ok (.iload 5, 2) := by decide +kernel
theorem dX12_below_64 : decode cX12_below 64 = .ok (.iaload, 1) := by decide +kernel
theorem dX12_below_65 : decode cX12_below 65 = .ok (.iload_n 2, 1) := by decide +kernel
theorem dX12_below_66 : decode cX12_below 66 = .ok (.if_icmp .ne 78, 3) := by decide +kernel
theorem dX12_below_69 : decode cX12_below 69 = .ok (.ldc 224, 2) := by decide +kernel
theorem dX12_below_71 : decode cX12_below 71 = .ok (.istore 6, 2) := by decide +kernel
theorem dX12_below_73 : decode cX12_below 73 = .ok (.iconst 0, 1) := by decide +kernel
theorem dX12_below_74 : decode cX12_below 74 = .ok (.istore 7, 2) := by decide +kernel
theorem dX12_below_76 : decode cX12_below 76 = .ok (.iload 7, 2) := by decide +kernel
theorem dX12_below_78 : decode cX12_below 78 = .ok (.bipush 6, 2) := by decide +kernel
theorem dX12_below_80 : decode cX12_below 80 = .ok (.if_icmp .ge 57, 3) := by decide +kernel
theorem dX12_below_83 : decode cX12_below 83 = .ok (.aload_n 0, 1) := by decide +kernel
theorem dX12_below_84 : decode cX12_below 84 = .ok (.getfield 111, 3) := by decide +kernel
theorem dX12_below_87 : decode cX12_below 87 = .ok (.bipush 6, 2) := by decide +kernel
theorem dX12_below_89 : decode cX12_below 89 = .ok (.aload_n 0, 1) := by decide +kernel
theorem dX12_below_90 : decode cX12_below 90 = .ok (.getfield 105, 3) := by decide +kernel
theorem dX12_below_93 : decode cX12_below 93 = .ok (.iload 5, 2) := by decide +kernel
theorem dX12_below_95 : decode cX12_below 95 = .ok (.iaload, 1) := by decide +kernel
theorem dX12_below_96 : decode cX12_below 96 = .ok (.imul, 1) := by decide +kernel
theorem dX12_below_97 : decode cX12_below 97 = .ok (.iload 7, 2) := by decide +kernel
theorem dX12_below_99 : decode cX12_below 99 = .ok (.iadd, 1) := by decide +kernel
theorem dX12_below_100 : decode cX12_below 100 = .ok (.iaload, 1) := by decide +kernel
theorem dX12_below_101 : decode cX12_below 101 = .ok (.iload 7, 2) := by decide +kernel
theorem dX12_below_103 : decode cX12_below 103 = .ok (.iload_n 3, 1) := by decide +kernel
theorem dX12_below_104 : decode cX12_below 104 = .ok (.if_icmp .ne 7, 3) := by decide +kernel
theorem dX12_below_107 : decode cX12_below 107 = .ok (.iconst 0, 1) := by decide +kernel
theorem dX12_below_108 : decode cX12_below 108 = .ok (.goto 4, 3) := by decide +kernel
theorem dX12_below_111 : decode cX12_below 111 = .ok (.iconst 1, 1) := by decide +kernel
theorem dX12_below_112 : decode cX12_below 112 = .ok (.iadd, 1) := by decide +kernel
theorem dX12_below_113 : decode cX12_below 113 = .ok (.istore 8, 2) := by decide +kernel
theorem dX12_below_115 : decode cX12_below 115 = .ok (.iload 8, 2) := by decide +kernel
theorem dX12_below_117 : decode cX12_below 117 = .ok (.iload 6, 2) := by decide +kernel
theorem dX12_below_119 : decode cX12_below 119 = .ok (.if_icmp .ge 8, 3) := by decide +kernel
theorem dX12_below_122 : decode cX12_below 122 = .ok (.iload 8, 2) := by decide +kernel
theorem dX12_below_124 : decode cX12_below 124 = .ok (.goto 5, 3) := by decide +kernel
theorem dX12_below_127 : decode cX12_below 127 = .ok (.iload 6, 2) := by decide +kernel
theorem dX12_below_129 : decode cX12_below 129 = .ok (.istore 6, 2) := by decide +kernel
theorem dX12_below_131 : decode cX12_below 131 = .ok (.iinc 7 1, 3) := by decide +kernel
theorem dX12_below_134 : decode cX12_below 134 = .ok (.goto (-58), 3) := by decide +kernel
theorem dX12_below_137 : decode cX12_below 137 = .ok (.iload 4, 2) := by decide +kernel
theorem dX12_below_139 : decode cX12_below 139 = .ok (.iload 6, 2) := by decide +kernel
theorem dX12_below_141 : decode cX12_below 141 = .ok (.iadd, 1) := by decide +kernel
theorem dX12_below_142 : decode cX12_below 142 = .ok (.istore 4, 2) := by decide +kernel
theorem dX12_below_144 : decode cX12_below 144 = .ok (.iinc 5 1, 3) := by decide +kernel
theorem dX12_below_147 : decode cX12_below 147 = .ok (.goto (-98), 3) := by decide +kernel
theorem dX12_below_150 : decode cX12_below 150 = .ok (.iload 4, 2) := by decide +kernel
theorem dX12_below_152 : decode cX12_below 152 = .ok (.ireturn, 1) := by decide +kernel
theorem dX12_stepsOf_0 : decode cX12_stepsOf 0 = .ok (.aload_n 0, 1) := by decide +kernel
theorem dX12_stepsOf_1 : decode cX12_stepsOf 1 = .ok (.iload_n 1, 1) := by decide +kernel
theorem dX12_stepsOf_2 : decode cX12_stepsOf 2 = .ok (.invokevirtual 289, 3) := by decide +kernel
theorem dX12_stepsOf_5 : decode cX12_stepsOf 5 = .ok (.iconst 0, 1) := by decide +kernel
theorem dX12_stepsOf_6 : decode cX12_stepsOf 6 = .ok (.istore_n 2, 1) := by decide +kernel
theorem dX12_stepsOf_7 : decode cX12_stepsOf 7 = .ok (.iconst 0, 1) := by decide +kernel
theorem dX12_stepsOf_8 : decode cX12_stepsOf 8 = .ok (.istore_n 3, 1) := by decide +kernel
theorem dX12_stepsOf_9 : decode cX12_stepsOf 9 = .ok (.iload_n 3, 1) := by decide +kernel
theorem dX12_stepsOf_10 : decode cX12_stepsOf 10 = .ok (.bipush 10, 2) := by decide +kernel
theorem dX12_stepsOf_12 : decode cX12_stepsOf 12 = .ok (.if_icmp .ge 320, 3) := by decide +kernel
theorem dX12_stepsOf_15 : decode cX12_stepsOf 15 = .ok (.iconst 0, 1) := by decide +kernel
theorem dX12_stepsOf_16 : decode cX12_stepsOf 16 = .ok (.istore 4, 2) := by decide +kernel
theorem dX12_stepsOf_18 : decode cX12_stepsOf 18 = .ok (.iload 4, 2) := by decide +kernel
theorem dX12_stepsOf_20 : decode cX12_stepsOf 20 = .ok (.aload_n 0, 1) := by decide +kernel
theorem dX12_stepsOf_21 : decode cX12_stepsOf 21 = .ok (.getfield 277, 3) := by decide +kernel
theorem dX12_stepsOf_24 : decode cX12_stepsOf 24 = .ok (.if_icmp .ge 47, 3) := by decide +kernel
theorem dX12_stepsOf_27 : decode cX12_stepsOf 27 = .ok (.iconst 0, 1) := by decide +kernel
theorem dX12_stepsOf_28 : decode cX12_stepsOf 28 = .ok (.istore 5, 2) := by decide +kernel
theorem dX12_stepsOf_30 : decode cX12_stepsOf 30 = .ok (.iload 5, 2) := by decide +kernel
theorem dX12_stepsOf_32 : decode cX12_stepsOf 32 = .ok (.bipush 6, 2) := by decide +kernel
theorem dX12_stepsOf_34 : decode cX12_stepsOf 34 = .ok (.if_icmp .ge 31, 3) := by decide +kernel
theorem dX12_stepsOf_37 : decode cX12_stepsOf 37 = .ok (.aload_n 0, 1) := by decide +kernel
theorem dX12_stepsOf_38 : decode cX12_stepsOf 38 = .ok (.getfield 111, 3) := by decide +kernel
theorem dX12_stepsOf_41 : decode cX12_stepsOf 41 = .ok (.bipush 6, 2) := by decide +kernel
theorem dX12_stepsOf_43 : decode cX12_stepsOf 43 = .ok (.iload 4, 2) := by decide +kernel
theorem dX12_stepsOf_45 : decode cX12_stepsOf 45 = .ok (.imul, 1) := by decide +kernel
theorem dX12_stepsOf_46 : decode cX12_stepsOf 46 = .ok (.iload 5, 2) := by decide +kernel
theorem dX12_stepsOf_48 : decode cX12_stepsOf 48 = .ok (.iadd, 1) := by decide +kernel
theorem dX12_stepsOf_49 : decode cX12_stepsOf 49 = .ok (.aload_n 0, 1) := by decide +kernel
theorem dX12_stepsOf_50 : decode cX12_stepsOf 50 = .ok (.iload_n 3, 1) := by decide +kernel
theorem dX12_stepsOf_51 : decode cX12_stepsOf 51 = .ok (.iload 4, 2) := by decide +kernel
theorem dX12_stepsOf_53 : decode cX12_stepsOf 53 = .ok (.iload 5, 2) := by decide +kernel
theorem dX12_stepsOf_55 : decode cX12_stepsOf 55 = .ok (.invokevirtual 292, 3) := by decide +kernel
theorem dX12_stepsOf_58 : decode cX12_stepsOf 58 = .ok (.iastore, 1) := by decide +kernel
theorem dX12_stepsOf_59 : decode cX12_stepsOf 59 = .ok (.iinc 5 1, 3) := by decide +kernel
theorem dX12_stepsOf_62 : decode cX12_stepsOf 62 = .ok (.goto (-32), 3) := by decide +kernel
theorem dX12_stepsOf_65 : decode cX12_stepsOf 65 = .ok (.iinc 4 1, 3) := by decide +kernel
theorem dX12_stepsOf_68 : decode cX12_stepsOf 68 = .ok (.goto (-50), 3) := by decide +kernel
theorem dX12_stepsOf_71 : decode cX12_stepsOf 71 = .ok (.iconst 0, 1) := by decide +kernel
theorem dX12_stepsOf_72 : decode cX12_stepsOf 72 = .ok (.istore 4, 2) := by decide +kernel
theorem dX12_stepsOf_74 : decode cX12_stepsOf 74 = .ok (.iload 4, 2) := by decide +kernel
theorem dX12_stepsOf_76 : decode cX12_stepsOf 76 = .ok (.iconst 1, 1) := by decide +kernel
theorem dX12_stepsOf_77 : decode cX12_stepsOf 77 = .ok (.aload_n 0, 1) := by decide +kernel
theorem dX12_stepsOf_78 : decode cX12_stepsOf 78 = .ok (.getfield 283, 3) := by decide +kernel
theorem dX12_stepsOf_81 : decode cX12_stepsOf 81 = .ok (.bipush 6, 2) := by decide +kernel
theorem dX12_stepsOf_83 : decode cX12_stepsOf 83 = .ok (.isub, 1) := by decide +kernel
theorem dX12_stepsOf_84 : decode cX12_stepsOf 84 = .ok (.ishl, 1) := by decide +kernel
theorem dX12_stepsOf_85 : decode cX12_stepsOf 85 = .ok (.iconst 1, 1) := by decide +kernel
theorem dX12_stepsOf_86 : decode cX12_stepsOf 86 = .ok (.isub, 1) := by decide +kernel
theorem dX12_stepsOf_87 : decode cX12_stepsOf 87 = .ok (.if_icmp .eq 182, 3) := by decide +kernel
theorem dX12_stepsOf_90 : decode cX12_stepsOf 90 = .ok (.aload_n 0, 1) := by decide +kernel
theorem dX12_stepsOf_91 : decode cX12_stepsOf 91 = .ok (.getfield 283, 3) := by decide +kernel
theorem dX12_stepsOf_94 : decode cX12_stepsOf 94 = .ok (.iconst 1, 1) := by decide +kernel
theorem dX12_stepsOf_95 : decode cX12_stepsOf 95 = .ok (.isub, 1) := by decide +kernel
theorem dX12_stepsOf_96 : decode cX12_stepsOf 96 = .ok (.istore 5, 2) := by decide +kernel
theorem dX12_stepsOf_98 : decode cX12_stepsOf 98 = .ok (.iload 5, 2) := by decide +kernel
theorem dX12_stepsOf_100 : decode cX12_stepsOf 100 = .ok (.bipush 6, 2) := by decide +kernel
theorem dX12_stepsOf_102 : decode cX12_stepsOf 102 = .ok (.if_icmp .lt 164, 3) := by decide +kernel
theorem dX12_stepsOf_105 : decode cX12_stepsOf 105 = .ok (.iload 4, 2) := by decide +kernel
theorem dX12_stepsOf_107 : decode cX12_stepsOf 107 = .ok (.iload 5, 2) := by decide +kernel
theorem dX12_stepsOf_109 : decode cX12_stepsOf 109 = .ok (.bipush 6, 2) := by decide +kernel
theorem dX12_stepsOf_111 : decode cX12_stepsOf 111 = .ok (.isub, 1) := by decide +kernel
theorem dX12_stepsOf_112 : decode cX12_stepsOf 112 = .ok (.ishr, 1) := by decide +kernel
theorem dX12_stepsOf_113 : decode cX12_stepsOf 113 = .ok (.iconst 1, 1) := by decide +kernel
theorem dX12_stepsOf_114 : decode cX12_stepsOf 114 = .ok (.iand, 1) := by decide +kernel
theorem dX12_stepsOf_115 : decode cX12_stepsOf 115 = .ok (.ifCond .ne 7, 3) := by decide +kernel
theorem dX12_stepsOf_118 : decode cX12_stepsOf 118 = .ok (.iconst 1, 1) := by decide +kernel
theorem dX12_stepsOf_119 : decode cX12_stepsOf 119 = .ok (.goto 4, 3) := by decide +kernel
theorem dX12_stepsOf_122 : decode cX12_stepsOf 122 = .ok (.iconst 0, 1) := by decide +kernel
theorem dX12_stepsOf_123 : decode cX12_stepsOf 123 = .ok (.istore 6, 2) := by decide +kernel
theorem dX12_stepsOf_125 : decode cX12_stepsOf 125 = .ok (.iconst 0, 1) := by decide +kernel
theorem dX12_stepsOf_126 : decode cX12_stepsOf 126 = .ok (.istore 7, 2) := by decide +kernel
theorem dX12_stepsOf_128 : decode cX12_stepsOf 128 = .ok (.iload 7, 2) := by decide +kernel
theorem dX12_stepsOf_130 : decode cX12_stepsOf 130 = .ok (.aload_n 0, 1) := by decide +kernel
theorem dX12_stepsOf_131 : decode cX12_stepsOf 131 = .ok (.getfield 280, 3) := by decide +kernel
theorem dX12_stepsOf_134 : decode cX12_stepsOf 134 = .ok (.if_icmp .ge 62, 3) := by decide +kernel
theorem dX12_stepsOf_137 : decode cX12_stepsOf 137 = .ok (.iload 6, 2) := by decide +kernel
theorem dX12_stepsOf_139 : decode cX12_stepsOf 139 = .ok (.ifCond .eq 48, 3) := by decide +kernel
theorem dX12_stepsOf_142 : decode cX12_stepsOf 142 = .ok (.aload_n 0, 1) := by decide +kernel
theorem dX12_stepsOf_143 : decode cX12_stepsOf 143 = .ok (.getfield 102, 3) := by decide +kernel
theorem dX12_stepsOf_146 : decode cX12_stepsOf 146 = .ok (.iload 7, 2) := by decide +kernel
theorem dX12_stepsOf_148 : decode cX12_stepsOf 148 = .ok (.iaload, 1) := by decide +kernel
theorem dX12_stepsOf_149 : decode cX12_stepsOf 149 = .ok (.iload 5, 2) := by decide +kernel
theorem dX12_stepsOf_151 : decode cX12_stepsOf 151 = .ok (.if_icmp .ne 32, 3) := by decide +kernel
theorem dX12_stepsOf_154 : decode cX12_stepsOf 154 = .ok (.aload_n 0, 1) := by decide +kernel
theorem dX12_stepsOf_155 : decode cX12_stepsOf 155 = .ok (.getfield 105, 3) := by decide +kernel
theorem dX12_stepsOf_158 : decode cX12_stepsOf 158 = .ok (.iload 7, 2) := by decide +kernel
theorem dX12_stepsOf_160 : decode cX12_stepsOf 160 = .ok (.iaload, 1) := by decide +kernel
theorem dX12_stepsOf_161 : decode cX12_stepsOf 161 = .ok (.iconst 5, 1) := by decide +kernel
theorem dX12_stepsOf_162 : decode cX12_stepsOf 162 = .ok (.if_icmp .le 21, 3) := by decide +kernel
theorem dX12_stepsOf_165 : decode cX12_stepsOf 165 = .ok (.iload 4, 2) := by decide +kernel
theorem dX12_stepsOf_167 : decode cX12_stepsOf 167 = .ok (.aload_n 0, 1) := by decide +kernel
theorem dX12_stepsOf_168 : decode cX12_stepsOf 168 = .ok (.getfield 105, 3) := by decide +kernel
theorem dX12_stepsOf_171 : decode cX12_stepsOf 171 = .ok (.iload 7, 2) := by decide +kernel
theorem dX12_stepsOf_173 : decode cX12_stepsOf 173 = .ok (.iaload, 1) := by decide +kernel
theorem dX12_stepsOf_174 : decode cX12_stepsOf 174 = .ok (.bipush 6, 2) := by decide +kernel
theorem dX12_stepsOf_176 : decode cX12_stepsOf 176 = .ok (.isub, 1) := by decide +kernel
theorem dX12_stepsOf_177 : decode cX12_stepsOf 177 = .ok (.ishr, 1) := by decide +kernel
theorem dX12_stepsOf_178 : decode cX12_stepsOf 178 = .ok (.iconst 1, 1) := by decide +kernel
theorem dX12_stepsOf_179 : decode cX12_stepsOf 179 = .ok (.iand, 1) := by decide +kernel
theorem dX12_stepsOf_180 : decode cX12_stepsOf 180 = .ok (.ifCond .eq 7, 3) := by decide +kernel
theorem dX12_stepsOf_183 : decode cX12_stepsOf 183 = .ok (.iconst 1, 1) := by decide +kernel
theorem dX12_stepsOf_184 : decode cX12_stepsOf 184 = .ok (.goto 4, 3) := by decide +kernel
theorem dX12_stepsOf_187 : decode cX12_stepsOf 187 = .ok (.iconst 0, 1) := by decide +kernel
theorem dX12_stepsOf_188 : decode cX12_stepsOf 188 = .ok (.istore 6, 2) := by decide +kernel
theorem dX12_stepsOf_190 : decode cX12_stepsOf 190 = .ok (.iinc 7 1, 3) := by decide +kernel
theorem dX12_stepsOf_193 : decode cX12_stepsOf 193 = .ok (.goto (-65), 3) := by decide +kernel
theorem dX12_stepsOf_196 : decode cX12_stepsOf 196 = .ok (.iconst 0, 1) := by decide +kernel
theorem dX12_stepsOf_197 : decode cX12_stepsOf 197 = .ok (.istore 7, 2) := by decide +kernel
theorem dX12_stepsOf_199 : decode cX12_stepsOf 199 = .ok (.iload 7, 2) := by decide +kernel
theorem dX12_stepsOf_201 : decode cX12_stepsOf 201 = .ok (.bipush 6, 2) := by decide +kernel
theorem dX12_stepsOf_203 : decode cX12_stepsOf 203 = .ok (.if_icmp .ge 36, 3) := by decide +kernel
theorem dX12_stepsOf_206 : decode cX12_stepsOf 206 = .ok (.iload 6, 2) := by decide +kernel
theorem dX12_stepsOf_208 : decode cX12_stepsOf 208 = .ok (.ifCond .eq 31, 3) := by decide +kernel
theorem dX12_stepsOf_211 : decode cX12_stepsOf 211 = .ok (.aload_n 0, 1) := by decide +kernel
theorem dX12_stepsOf_212 : decode cX12_stepsOf 212 = .ok (.getfield 111, 3) := by decide +kernel
theorem dX12_stepsOf_215 : decode cX12_stepsOf 215 = .ok (.bipush 6, 2) := by decide +kernel
theorem dX12_stepsOf_217 : decode cX12_stepsOf 217 = .ok (.iload 5, 2) := by decide +kernel
theorem dX12_stepsOf_219 : decode cX12_stepsOf 219 = .ok (.imul, 1) := by decide +kernel
theorem dX12_stepsOf_220 : decode cX12_stepsOf 220 = .ok (.iload 7, 2) := by decide +kernel
theorem dX12_stepsOf_222 : decode cX12_stepsOf 222 = .ok (.iadd, 1) := by decide +kernel
theorem dX12_stepsOf_223 : decode cX12_stepsOf 223 = .ok (.aload_n 0, 1) := by decide +kernel
theorem dX12_stepsOf_224 : decode cX12_stepsOf 224 = .ok (.iload_n 3, 1) := by decide +kernel
theorem dX12_stepsOf_225 : decode cX12_stepsOf 225 = .ok (.iload 5, 2) := by decide +kernel
theorem dX12_stepsOf_227 : decode cX12_stepsOf 227 = .ok (.iload 7, 2) := by decide +kernel
theorem dX12_stepsOf_229 : decode cX12_stepsOf 229 = .ok (.invokevirtual 292, 3) := by decide +kernel
theorem dX12_stepsOf_232 : decode cX12_stepsOf 232 = .ok (.iastore, 1) := by decide +kernel
theorem dX12_stepsOf_233 : decode cX12_stepsOf 233 = .ok (.iinc 7 1, 3) := by decide +kernel
theorem dX12_stepsOf_236 : decode cX12_stepsOf 236 = .ok (.goto (-37), 3) := by decide +kernel
theorem dX12_stepsOf_239 : decode cX12_stepsOf 239 = .ok (.iload 4, 2) := by decide +kernel
theorem dX12_stepsOf_241 : decode cX12_stepsOf 241 = .ok (.iload 6, 2) := by decide +kernel
theorem dX12_stepsOf_243 : decode cX12_stepsOf 243 = .ok (.ifCond .eq 13, 3) := by decide +kernel
theorem dX12_stepsOf_246 : decode cX12_stepsOf 246 = .ok (.iconst 1, 1) := by decide +kernel
theorem dX12_stepsOf_247 : decode cX12_stepsOf 247 = .ok (.iload 5, 2) := by decide +kernel
theorem dX12_stepsOf_249 : decode cX12_stepsOf 249 = .ok (.bipush 6, 2) := by decide +kernel
theorem dX12_stepsOf_251 : decode cX12_stepsOf 251 = .ok (.isub, 1) := by decide +kernel
theorem dX12_stepsOf_252 : decode cX12_stepsOf 252 = .ok (.ishl, 1) := by decide +kernel
theorem dX12_stepsOf_253 : decode cX12_stepsOf 253 = .ok (.goto 4, 3) := by decide +kernel
theorem dX12_stepsOf_256 : decode cX12_stepsOf 256 = .ok (.iconst 0, 1) := by decide +kernel
theorem dX12_stepsOf_257 : decode cX12_stepsOf 257 = .ok (.ior, 1) := by decide +kernel
theorem dX12_stepsOf_258 : decode cX12_stepsOf 258 = .ok (.istore 4, 2) := by decide +kernel
theorem dX12_stepsOf_260 : decode cX12_stepsOf 260 = .ok (.iinc 5 (-1), 3) := by decide +kernel
theorem dX12_stepsOf_263 : decode cX12_stepsOf 263 = .ok (.goto (-165), 3) := by decide +kernel
theorem dX12_stepsOf_266 : decode cX12_stepsOf 266 = .ok (.goto (-192), 3) := by decide +kernel
theorem dX12_stepsOf_269 : decode cX12_stepsOf 269 = .ok (.ldc 224, 2) := by decide +kernel
theorem dX12_stepsOf_271 : decode cX12_stepsOf 271 = .ok (.istore 5, 2) := by decide +kernel
theorem dX12_stepsOf_273 : decode cX12_stepsOf 273 = .ok (.iconst 0, 1) := by decide +kernel
theorem dX12_stepsOf_274 : decode cX12_stepsOf 274 = .ok (.istore 6, 2) := by decide +kernel
theorem dX12_stepsOf_276 : decode cX12_stepsOf 276 = .ok (.iload 6, 2) := by decide +kernel
theorem dX12_stepsOf_278 : decode cX12_stepsOf 278 = .ok (.bipush 6, 2) := by decide +kernel
theorem dX12_stepsOf_280 : decode cX12_stepsOf 280 = .ok (.if_icmp .ge 41, 3) := by decide +kernel
theorem dX12_stepsOf_283 : decode cX12_stepsOf 283 = .ok (.aload_n 0, 1) := by decide +kernel
theorem dX12_stepsOf_284 : decode cX12_stepsOf 284 = .ok (.getfield 111, 3) := by decide +kernel
theorem dX12_stepsOf_287 : decode cX12_stepsOf 287 = .ok (.bipush 36, 2) := by decide +kernel
theorem dX12_stepsOf_289 : decode cX12_stepsOf 289 = .ok (.iload 6, 2) := by decide +kernel
theorem dX12_stepsOf_291 : decode cX12_stepsOf 291 = .ok (.iadd, 1) := by decide +kernel
theorem dX12_stepsOf_292 : decode cX12_stepsOf 292 = .ok (.iaload, 1) := by decide +kernel
theorem dX12_stepsOf_293 : decode cX12_stepsOf 293 = .ok (.iload 5, 2) := by decide +kernel
theorem dX12_stepsOf_295 : decode cX12_stepsOf 295 = .ok (.if_icmp .ge 16, 3) := by decide +kernel
theorem dX12_stepsOf_298 : decode cX12_stepsOf 298 = .ok (.aload_n 0, 1) := by decide +kernel
theorem dX12_stepsOf_299 : decode cX12_stepsOf 299 = .ok (.getfield 111, 3) := by decide +kernel
theorem dX12_stepsOf_302 : decode cX12_stepsOf 302 = .ok (.bipush 36, 2) := by decide +kernel
theorem dX12_stepsOf_304 : decode cX12_stepsOf 304 = .ok (.iload 6, 2) := by decide +kernel
theorem dX12_stepsOf_306 : decode cX12_stepsOf 306 = .ok (.iadd, 1) := by decide +kernel
theorem dX12_stepsOf_307 : decode cX12_stepsOf 307 = .ok (.iaload, 1) := by decide +kernel
theorem dX12_stepsOf_308 : decode cX12_stepsOf 308 = .ok (.goto 5, 3) := by decide +kernel
theorem dX12_stepsOf_311 : decode cX12_stepsOf 311 = .ok (.iload 5, 2) := by decide +kernel
theorem dX12_stepsOf_313 : decode cX12_stepsOf 313 = .ok (.istore 5, 2) := by decide +kernel
theorem dX12_stepsOf_315 : decode cX12_stepsOf 315 = .ok (.iinc 6 1, 3) := by decide +kernel
theorem dX12_stepsOf_318 : decode cX12_stepsOf 318 = .ok (.goto (-42), 3) := by decide +kernel
theorem dX12_stepsOf_321 : decode cX12_stepsOf 321 = .ok (.iload_n 2, 1) := by decide +kernel
theorem dX12_stepsOf_322 : decode cX12_stepsOf 322 = .ok (.iload 5, 2) := by decide +kernel
theorem dX12_stepsOf_324 : decode cX12_stepsOf 324 = .ok (.iadd, 1) := by decide +kernel
theorem dX12_stepsOf_325 : decode cX12_stepsOf 325 = .ok (.istore_n 2, 1) := by decide +kernel
theorem dX12_stepsOf_326 : decode cX12_stepsOf 326 = .ok (.iinc 3 1, 3) := by decide +kernel
theorem dX12_stepsOf_329 : decode cX12_stepsOf 329 = .ok (.goto (-320), 3) := by decide +kernel
theorem dX12_stepsOf_332 : decode cX12_stepsOf 332 = .ok (.iload_n 2, 1) := by decide +kernel
theorem dX12_stepsOf_333 : decode cX12_stepsOf 333 = .ok (.ireturn, 1) := by decide +kernel
theorem dX12_steps_0 : decode cX12_steps 0 = .ok (.aload_n 0, 1) := by decide +kernel
theorem dX12_steps_1 : decode cX12_steps 1 = .ok (.iload_n 1, 1) := by decide +kernel
theorem dX12_steps_2 : decode cX12_steps 2 = .ok (.invokevirtual 296, 3) := by decide +kernel
theorem dX12_steps_5 : decode cX12_steps 5 = .ok (.istore_n 3, 1) := by decide +kernel
theorem dX12_steps_6 : decode cX12_steps 6 = .ok (.iload_n 3, 1) := by decide +kernel
theorem dX12_steps_7 : decode cX12_steps 7 = .ok (.ifCond .eq 5, 3) := by decide +kernel
theorem dX12_steps_10 : decode cX12_steps 10 = .ok (.iload_n 3, 1) := by decide +kernel
theorem dX12_steps_11 : decode cX12_steps 11 = .ok (.ireturn, 1) := by decide +kernel
theorem dX12_steps_12 : decode cX12_steps 12 = .ok (.iload_n 2, 1) := by decide +kernel
theorem dX12_steps_13 : decode cX12_steps 13 = .ok (.iconst 0, 1) := by decide +kernel
theorem dX12_steps_14 : decode cX12_steps 14 = .ok (.aload_n 0, 1) := by decide +kernel
theorem dX12_steps_15 : decode cX12_steps 15 = .ok (.invokevirtual 286, 3) := by decide +kernel
theorem dX12_steps_18 : decode cX12_steps 18 = .ok (.iconst 1, 1) := by decide +kernel
theorem dX12_steps_19 : decode cX12_steps 19 = .ok (.isub, 1) := by decide +kernel
theorem dX12_steps_20 : decode cX12_steps 20 = .ok (.invokestatic 123, 3) := by decide +kernel
theorem dX12_steps_23 : decode cX12_steps 23 = .ok (.ifCond .eq 11, 3) := by decide +kernel
theorem dX12_steps_26 : decode cX12_steps 26 = .ok (.aload_n 0, 1) := by decide +kernel
theorem dX12_steps_27 : decode cX12_steps 27 = .ok (.iload_n 2, 1) := by decide +kernel
theorem dX12_steps_28 : decode cX12_steps 28 = .ok (.invokevirtual 299, 3) := by decide +kernel
theorem dX12_steps_31 : decode cX12_steps 31 = .ok (.goto 5, 3) := by decide +kernel
theorem dX12_steps_34 : decode cX12_steps 34 = .ok (.bipush (-2), 2) := by decide +kernel
theorem dX12_steps_36 : decode cX12_steps 36 = .ok (.ireturn, 1) := by decide +kernel
theorem dX12_tree_0 : decode cX12_tree 0 = .ok (.aload_n 0, 1) := by decide +kernel
theorem dX12_tree_1 : decode cX12_tree 1 = .ok (.iload_n 1, 1) := by decide +kernel
theorem dX12_tree_2 : decode cX12_tree 2 = .ok (.invokevirtual 296, 3) := by decide +kernel
theorem dX12_tree_5 : decode cX12_tree 5 = .ok (.istore_n 3, 1) := by decide +kernel
theorem dX12_tree_6 : decode cX12_tree 6 = .ok (.iload_n 3, 1) := by decide +kernel
theorem dX12_tree_7 : decode cX12_tree 7 = .ok (.ifCond .eq 5, 3) := by decide +kernel
theorem dX12_tree_10 : decode cX12_tree 10 = .ok (.iload_n 3, 1) := by decide +kernel
theorem dX12_tree_11 : decode cX12_tree 11 = .ok (.ireturn, 1) := by decide +kernel
theorem dX12_tree_12 : decode cX12_tree 12 = .ok (.iload_n 2, 1) := by decide +kernel
theorem dX12_tree_13 : decode cX12_tree 13 = .ok (.iconst 0, 1) := by decide +kernel
theorem dX12_tree_14 : decode cX12_tree 14 = .ok (.iconst 2, 1) := by decide +kernel
theorem dX12_tree_15 : decode cX12_tree 15 = .ok (.invokestatic 123, 3) := by decide +kernel
theorem dX12_tree_18 : decode cX12_tree 18 = .ok (.ifCond .ne 5, 3) := by decide +kernel
theorem dX12_tree_21 : decode cX12_tree 21 = .ok (.iconst (-1), 1) := by decide +kernel
theorem dX12_tree_22 : decode cX12_tree 22 = .ok (.ireturn, 1) := by decide +kernel
theorem dX12_tree_23 : decode cX12_tree 23 = .ok (.iconst (-1), 1) := by decide +kernel
theorem dX12_tree_24 : decode cX12_tree 24 = .ok (.istore 4, 2) := by decide +kernel
theorem dX12_tree_26 : decode cX12_tree 26 = .ok (.iconst 0, 1) := by decide +kernel
theorem dX12_tree_27 : decode cX12_tree 27 = .ok (.istore 5, 2) := by decide +kernel
theorem dX12_tree_29 : decode cX12_tree 29 = .ok (.iconst 0, 1) := by decide +kernel
theorem dX12_tree_30 : decode cX12_tree 30 = .ok (.istore 6, 2) := by decide +kernel
theorem dX12_tree_32 : decode cX12_tree 32 = .ok (.iconst 0, 1) := by decide +kernel
theorem dX12_tree_33 : decode cX12_tree 33 = .ok (.istore 7, 2) := by decide +kernel
theorem dX12_tree_35 : decode cX12_tree 35 = .ok (.iload 7, 2) := by decide +kernel
theorem dX12_tree_37 : decode cX12_tree 37 = .ok (.aload_n 0, 1) := by decide +kernel
theorem dX12_tree_38 : decode cX12_tree 38 = .ok (.invokevirtual 286, 3) := by decide +kernel
theorem dX12_tree_41 : decode cX12_tree 41 = .ok (.if_icmp .ge 92, 3) := by decide +kernel
theorem dX12_tree_44 : decode cX12_tree 44 = .ok (.aload_n 0, 1) := by decide +kernel
theorem dX12_tree_45 : decode cX12_tree 45 = .ok (.iload 7, 2) := by decide +kernel
theorem dX12_tree_47 : decode cX12_tree 47 = .ok (.invokevirtual 299, 3) := by decide +kernel
theorem dX12_tree_50 : decode cX12_tree 50 = .ok (.istore 8, 2) := by decide +kernel
theorem dX12_tree_52 : decode cX12_tree 52 = .ok (.iload 4, 2) := by decide +kernel
theorem dX12_tree_54 : decode cX12_tree 54 = .ok (.iconst (-1), 1) := by decide +kernel
theorem dX12_tree_55 : decode cX12_tree 55 = .ok (.if_icmp .eq 10, 3) := by decide +kernel
theorem dX12_tree_58 : decode cX12_tree 58 = .ok (.iload 8, 2) := by decide +kernel
theorem dX12_tree_60 : decode cX12_tree 60 = .ok (.iload 5, 2) := by decide +kernel
theorem dX12_tree_62 : decode cX12_tree 62 = .ok (.if_icmp .ge 7, 3) := by decide +kernel
theorem dX12_tree_65 : decode cX12_tree 65 = .ok (.iconst 1, 1) := by decide +kernel
theorem dX12_tree_66 : decode cX12_tree 66 = .ok (.goto 4, 3) := by decide +kernel
theorem dX12_tree_69 : decode cX12_tree 69 = .ok (.iconst 0, 1) := by decide +kernel
theorem dX12_tree_70 : decode cX12_tree 70 = .ok (.istore 9, 2) := by decide +kernel
theorem dX12_tree_72 : decode cX12_tree 72 = .ok (.iload 9, 2) := by decide +kernel
theorem dX12_tree_74 : decode cX12_tree 74 = .ok (.ifCond .eq 7, 3) := by decide +kernel
theorem dX12_tree_77 : decode cX12_tree 77 = .ok (.iconst 1, 1) := by decide +kernel
theorem dX12_tree_78 : decode cX12_tree 78 = .ok (.goto 19, 3) := by decide +kernel
theorem dX12_tree_81 : decode cX12_tree 81 = .ok (.iload 8, 2) := by decide +kernel
theorem dX12_tree_83 : decode cX12_tree 83 = .ok (.iload 5, 2) := by decide +kernel
theorem dX12_tree_85 : decode cX12_tree 85 = .ok (.if_icmp .ne 10, 3) := by decide +kernel
theorem dX12_tree_88 : decode cX12_tree 88 = .ok (.iload 6, 2) := by decide +kernel
theorem dX12_tree_90 : decode cX12_tree 90 = .ok (.iconst 1, 1) := by decide +kernel
theorem dX12_tree_91 : decode cX12_tree 91 = .ok (.iadd, 1) := by decide +kernel
theorem dX12_tree_92 : decode cX12_tree 92 = .ok (.goto 5, 3) := by decide +kernel
theorem dX12_tree_95 : decode cX12_tree 95 = .ok (.iload 6, 2) := by decide +kernel
theorem dX12_tree_97 : decode cX12_tree 97 = .ok (.istore 6, 2) := by decide +kernel
theorem dX12_tree_99 : decode cX12_tree 99 = .ok (.iload 9, 2) := by decide +kernel
theorem dX12_tree_101 : decode cX12_tree 101 = .ok (.ifCond .eq 8, 3) := by decide +kernel
theorem dX12_tree_104 : decode cX12_tree 104 = .ok (.iload 7, 2) := by decide +kernel
theorem dX12_tree_106 : decode cX12_tree 106 = .ok (.goto 5, 3) := by decide +kernel
theorem dX12_tree_109 : decode cX12_tree 109 = .ok (.iload 4, 2) := by decide +kernel
theorem dX12_tree_111 : decode cX12_tree 111 = .ok (.istore 4, 2) := by decide +kernel
theorem dX12_tree_113 : decode cX12_tree 113 = .ok (.iload 9, 2) := by decide +kernel
theorem dX12_tree_115 : decode cX12_tree 115 = .ok (.ifCond .eq 8, 3) := by decide +kernel
theorem dX12_tree_118 : decode cX12_tree 118 = .ok (.iload 8, 2) := by decide +kernel
theorem dX12_tree_120 : decode cX12_tree 120 = .ok (.goto 5, 3) := by decide +kernel
theorem dX12_tree_123 : decode cX12_tree 123 = .ok (.iload 5, 2) := by decide +kernel
theorem dX12_tree_125 : decode cX12_tree 125 = .ok (.istore 5, 2) := by decide +kernel
theorem dX12_tree_127 : decode cX12_tree 127 = .ok (.iinc 7 1, 3) := by decide +kernel
theorem dX12_tree_130 : decode cX12_tree 130 = .ok (.goto (-95), 3) := by decide +kernel
theorem dX12_tree_133 : decode cX12_tree 133 = .ok (.iload_n 2, 1) := by decide +kernel
theorem dX12_tree_134 : decode cX12_tree 134 = .ok (.ifCond .ne 8, 3) := by decide +kernel
theorem dX12_tree_137 : decode cX12_tree 137 = .ok (.iload 4, 2) := by decide +kernel
theorem dX12_tree_139 : decode cX12_tree 139 = .ok (.goto 15, 3) := by decide +kernel
theorem dX12_tree_142 : decode cX12_tree 142 = .ok (.iload_n 2, 1) := by decide +kernel
theorem dX12_tree_143 : decode cX12_tree 143 = .ok (.iconst 1, 1) := by decide +kernel
theorem dX12_tree_144 : decode cX12_tree 144 = .ok (.if_icmp .ne 8, 3) := by decide +kernel
theorem dX12_tree_147 : decode cX12_tree 147 = .ok (.iload 5, 2) := by decide +kernel
theorem dX12_tree_149 : decode cX12_tree 149 = .ok (.goto 5, 3) := by decide +kernel
theorem dX12_tree_152 : decode cX12_tree 152 = .ok (.iload 6, 2) := by decide +kernel
theorem dX12_tree_154 : decode cX12_tree 154 = .ok (.ireturn, 1) := by decide +kernel
theorem dX12_claim_0 : decode cX12_claim 0 = .ok (.aload_n 0, 1) := by decide +kernel
theorem dX12_claim_1 : decode cX12_claim 1 = .ok (.iload_n 2, 1) := by decide +kernel
theorem dX12_claim_2 : decode cX12_claim 2 = .ok (.iload_n 1, 1) := by decide +kernel
theorem dX12_claim_3 : decode cX12_claim 3 = .ok (.invokevirtual 228, 3) := by decide +kernel
theorem dX12_claim_6 : decode cX12_claim 6 = .ok (.ifCond .eq 12, 3) := by decide +kernel
theorem dX12_claim_9 : decode cX12_claim 9 = .ok (.aload_n 0, 1) := by decide +kernel
theorem dX12_claim_10 : decode cX12_claim 10 = .ok (.iload_n 3, 1) := by decide +kernel
theorem dX12_claim_11 : decode cX12_claim 11 = .ok (.iload_n 1, 1) := by decide +kernel
theorem dX12_claim_12 : decode cX12_claim 12 = .ok (.invokevirtual 228, 3) := by decide +kernel
theorem dX12_claim_15 : decode cX12_claim 15 = .ok (.ifCond .ne 5, 3) := by decide +kernel
theorem dX12_claim_18 : decode cX12_claim 18 = .ok (.iconst (-1), 1) := by decide +kernel
theorem dX12_claim_19 : decode cX12_claim 19 = .ok (.ireturn, 1) := by decide +kernel
theorem dX12_claim_20 : decode cX12_claim 20 = .ok (.iload_n 2, 1) := by decide +kernel
theorem dX12_claim_21 : decode cX12_claim 21 = .ok (.iload_n 3, 1) := by decide +kernel
theorem dX12_claim_22 : decode cX12_claim 22 = .ok (.if_icmp .eq 14, 3) := by decide +kernel
theorem dX12_claim_25 : decode cX12_claim 25 = .ok (.iload 5, 2) := by decide +kernel
theorem dX12_claim_27 : decode cX12_claim 27 = .ok (.iconst 0, 1) := by decide +kernel
theorem dX12_claim_28 : decode cX12_claim 28 = .ok (.bipush 10, 2) := by decide +kernel
theorem dX12_claim_30 : decode cX12_claim 30 = .ok (.invokestatic 123, 3) := by decide +kernel
theorem dX12_claim_33 : decode cX12_claim 33 = .ok (.ifCond .ne 6, 3) := by decide +kernel
theorem dX12_claim_36 : decode cX12_claim 36 = .ok (.bipush (-2), 2) := by decide +kernel
theorem dX12_claim_38 : decode cX12_claim 38 = .ok (.ireturn, 1) := by decide +kernel
theorem dX12_claim_39 : decode cX12_claim 39 = .ok (.aload_n 0, 1) := by decide +kernel
theorem dX12_claim_40 : decode cX12_claim 40 = .ok (.getfield 218, 3) := by decide +kernel
theorem dX12_claim_43 : decode cX12_claim 43 = .ok (.ifCond .eq 6, 3) := by decide +kernel
theorem dX12_claim_46 : decode cX12_claim 46 = .ok (.bipush (-3), 2) := by decide +kernel
theorem dX12_claim_48 : decode cX12_claim 48 = .ok (.ireturn, 1) := by decide +kernel
theorem dX12_claim_49 : decode cX12_claim 49 = .ok (.aload_n 0, 1) := by decide +kernel
theorem dX12_claim_50 : decode cX12_claim 50 = .ok (.getfield 221, 3) := by decide +kernel
theorem dX12_claim_53 : decode cX12_claim 53 = .ok (.bipush 60, 2) := by decide +kernel
theorem dX12_claim_55 : decode cX12_claim 55 = .ok (.if_icmp .ne 6, 3) := by decide +kernel
theorem dX12_claim_58 : decode cX12_claim 58 = .ok (.bipush (-4), 2) := by decide +kernel
theorem dX12_claim_60 : decode cX12_claim 60 = .ok (.ireturn, 1) := by decide +kernel
theorem dX12_claim_61 : decode cX12_claim 61 = .ok (.aload_n 0, 1) := by decide +kernel
theorem dX12_claim_62 : decode cX12_claim 62 = .ok (.getfield 69, 3) := by decide +kernel
theorem dX12_claim_65 : decode cX12_claim 65 = .ok (.aload_n 0, 1) := by decide +kernel
theorem dX12_claim_66 : decode cX12_claim 66 = .ok (.getfield 221, 3) := by decide +kernel
theorem dX12_claim_69 : decode cX12_claim 69 = .ok (.iload 5, 2) := by decide +kernel
theorem dX12_claim_71 : decode cX12_claim 71 = .ok (.iastore, 1) := by decide +kernel
theorem dX12_claim_72 : decode cX12_claim 72 = .ok (.aload_n 0, 1) := by decide +kernel
theorem dX12_claim_73 : decode cX12_claim 73 = .ok (.getfield 72, 3) := by decide +kernel
theorem dX12_claim_76 : decode cX12_claim 76 = .ok (.aload_n 0, 1) := by decide +kernel
theorem dX12_claim_77 : decode cX12_claim 77 = .ok (.getfield 221, 3) := by decide +kernel
theorem dX12_claim_80 : decode cX12_claim 80 = .ok (.iload 4, 2) := by decide +kernel
theorem dX12_claim_82 : decode cX12_claim 82 = .ok (.aload_n 0, 1) := by decide +kernel
theorem dX12_claim_83 : decode cX12_claim 83 = .ok (.getfield 23, 3) := by decide +kernel
theorem dX12_claim_86 : decode cX12_claim 86 = .ok (.bipush 10, 2) := by decide +kernel
theorem dX12_claim_88 : decode cX12_claim 88 = .ok (.iload_n 2, 1) := by decide +kernel
theorem dX12_claim_89 : decode cX12_claim 89 = .ok (.imul, 1) := by decide +kernel
theorem dX12_claim_90 : decode cX12_claim 90 = .ok (.iload_n 1, 1) := by decide +kernel
theorem dX12_claim_91 : decode cX12_claim 91 = .ok (.iadd, 1) := by decide +kernel
theorem dX12_claim_92 : decode cX12_claim 92 = .ok (.iaload, 1) := by decide +kernel
theorem dX12_claim_93 : decode cX12_claim 93 = .ok (.aload_n 0, 1) := by decide +kernel
theorem dX12_claim_94 : decode cX12_claim 94 = .ok (.getfield 23, 3) := by decide +kernel
theorem dX12_claim_97 : decode cX12_claim 97 = .ok (.bipush 10, 2) := by decide +kernel
theorem dX12_claim_99 : decode cX12_claim 99 = .ok (.iload_n 3, 1) := by decide +kernel
theorem dX12_claim_100 : decode cX12_claim 100 = .ok (.imul, 1) := by decide +kernel
theorem dX12_claim_101 : decode cX12_claim 101 = .ok (.iload_n 1, 1) := by decide +kernel
theorem dX12_claim_102 : decode cX12_claim 102 = .ok (.iadd, 1) := by decide +kernel
theorem dX12_claim_103 : decode cX12_claim 103 = .ok (.iaload, 1) := by decide +kernel
theorem dX12_claim_104 : decode cX12_claim 104 = .ok (.if_icmp .ne 7, 3) := by decide +kernel
theorem dX12_claim_107 : decode cX12_claim 107 = .ok (.iconst 1, 1) := by decide +kernel
theorem dX12_claim_108 : decode cX12_claim 108 = .ok (.goto 4, 3) := by decide +kernel
theorem dX12_claim_111 : decode cX12_claim 111 = .ok (.iconst 0, 1) := by decide +kernel
theorem dX12_claim_112 : decode cX12_claim 112 = .ok (.if_icmp .ne 7, 3) := by decide +kernel
theorem dX12_claim_115 : decode cX12_claim 115 = .ok (.iconst 1, 1) := by decide +kernel
theorem dX12_claim_116 : decode cX12_claim 116 = .ok (.goto 4, 3) := by decide +kernel
theorem dX12_claim_119 : decode cX12_claim 119 = .ok (.iconst 0, 1) := by decide +kernel
theorem dX12_claim_120 : decode cX12_claim 120 = .ok (.bastore, 1) := by decide +kernel
theorem dX12_claim_121 : decode cX12_claim 121 = .ok (.aload_n 0, 1) := by decide +kernel
theorem dX12_claim_122 : decode cX12_claim 122 = .ok (.dup, 1) := by decide +kernel
theorem dX12_claim_123 : decode cX12_claim 123 = .ok (.getfield 221, 3) := by decide +kernel
theorem dX12_claim_126 : decode cX12_claim 126 = .ok (.iconst 1, 1) := by decide +kernel
theorem dX12_claim_127 : decode cX12_claim 127 = .ok (.iadd, 1) := by decide +kernel
theorem dX12_claim_128 : decode cX12_claim 128 = .ok (.putfield 221, 3) := by decide +kernel
theorem dX12_claim_131 : decode cX12_claim 131 = .ok (.aload_n 0, 1) := by decide +kernel
theorem dX12_claim_132 : decode cX12_claim 132 = .ok (.getfield 221, 3) := by decide +kernel
theorem dX12_claim_135 : decode cX12_claim 135 = .ok (.iconst 1, 1) := by decide +kernel
theorem dX12_claim_136 : decode cX12_claim 136 = .ok (.isub, 1) := by decide +kernel
theorem dX12_claim_137 : decode cX12_claim 137 = .ok (.ireturn, 1) := by decide +kernel
theorem dX12_right_0 : decode cX12_right 0 = .ok (.iload_n 1, 1) := by decide +kernel
theorem dX12_right_1 : decode cX12_right 1 = .ok (.iconst 0, 1) := by decide +kernel
theorem dX12_right_2 : decode cX12_right 2 = .ok (.aload_n 0, 1) := by decide +kernel
theorem dX12_right_3 : decode cX12_right 3 = .ok (.getfield 221, 3) := by decide +kernel
theorem dX12_right_6 : decode cX12_right 6 = .ok (.iconst 1, 1) := by decide +kernel
theorem dX12_right_7 : decode cX12_right 7 = .ok (.isub, 1) := by decide +kernel
theorem dX12_right_8 : decode cX12_right 8 = .ok (.invokestatic 123, 3) := by decide +kernel
theorem dX12_right_11 : decode cX12_right 11 = .ok (.ifCond .ne 5, 3) := by decide +kernel
theorem dX12_right_14 : decode cX12_right 14 = .ok (.iconst (-1), 1) := by decide +kernel
theorem dX12_right_15 : decode cX12_right 15 = .ok (.ireturn, 1) := by decide +kernel
theorem dX12_right_16 : decode cX12_right 16 = .ok (.aload_n 0, 1) := by decide +kernel
theorem dX12_right_17 : decode cX12_right 17 = .ok (.getfield 218, 3) := by decide +kernel
theorem dX12_right_20 : decode cX12_right 20 = .ok (.ifCond .ne 8, 3) := by decide +kernel
theorem dX12_right_23 : decode cX12_right 23 = .ok (.bipush (-3), 2) := by decide +kernel
theorem dX12_right_25 : decode cX12_right 25 = .ok (.goto 17, 3) := by decide +kernel
theorem dX12_right_28 : decode cX12_right 28 = .ok (.aload_n 0, 1) := by decide +kernel
theorem dX12_right_29 : decode cX12_right 29 = .ok (.getfield 72, 3) := by decide +kernel
theorem dX12_right_32 : decode cX12_right 32 = .ok (.iload_n 1, 1) := by decide +kernel
theorem dX12_right_33 : decode cX12_right 33 = .ok (.baload, 1) := by decide +kernel
theorem dX12_right_34 : decode cX12_right 34 = .ok (.ifCond .eq 7, 3) := by decide +kernel
theorem dX12_right_37 : decode cX12_right 37 = .ok (.iconst 1, 1) := by decide +kernel
theorem dX12_right_38 : decode cX12_right 38 = .ok (.goto 4, 3) := by decide +kernel
theorem dX12_right_41 : decode cX12_right 41 = .ok (.iconst 0, 1) := by decide +kernel
theorem dX12_right_42 : decode cX12_right 42 = .ok (.ireturn, 1) := by decide +kernel
theorem dX12_sure_0 : decode cX12_sure 0 = .ok (.iload_n 2, 1) := by decide +kernel
theorem dX12_sure_1 : decode cX12_sure 1 = .ok (.iconst 0, 1) := by decide +kernel
theorem dX12_sure_2 : decode cX12_sure 2 = .ok (.iconst 1, 1) := by decide +kernel
theorem dX12_sure_3 : decode cX12_sure 3 = .ok (.invokestatic 123, 3) := by decide +kernel
theorem dX12_sure_6 : decode cX12_sure 6 = .ok (.ifCond .ne 5, 3) := by decide +kernel
theorem dX12_sure_9 : decode cX12_sure 9 = .ok (.iconst (-1), 1) := by decide +kernel
theorem dX12_sure_10 : decode cX12_sure 10 = .ok (.ireturn, 1) := by decide +kernel
theorem dX12_sure_11 : decode cX12_sure 11 = .ok (.iload_n 1, 1) := by decide +kernel
theorem dX12_sure_12 : decode cX12_sure 12 = .ok (.iconst 0, 1) := by decide +kernel
theorem dX12_sure_13 : decode cX12_sure 13 = .ok (.bipush 10, 2) := by decide +kernel
theorem dX12_sure_15 : decode cX12_sure 15 = .ok (.invokestatic 123, 3) := by decide +kernel
theorem dX12_sure_18 : decode cX12_sure 18 = .ok (.ifCond .ne 6, 3) := by decide +kernel
theorem dX12_sure_21 : decode cX12_sure 21 = .ok (.bipush (-2), 2) := by decide +kernel
theorem dX12_sure_23 : decode cX12_sure 23 = .ok (.ireturn, 1) := by decide +kernel
theorem dX12_sure_24 : decode cX12_sure 24 = .ok (.iload_n 2, 1) := by decide +kernel
theorem dX12_sure_25 : decode cX12_sure 25 = .ok (.iconst 1, 1) := by decide +kernel
theorem dX12_sure_26 : decode cX12_sure 26 = .ok (.if_icmp .ne 13, 3) := by decide +kernel
theorem dX12_sure_29 : decode cX12_sure 29 = .ok (.aload_n 0, 1) := by decide +kernel
theorem dX12_sure_30 : decode cX12_sure 30 = .ok (.getfield 218, 3) := by decide +kernel
theorem dX12_sure_33 : decode cX12_sure 33 = .ok (.ifCond .ne 6, 3) := by decide +kernel
theorem dX12_sure_36 : decode cX12_sure 36 = .ok (.bipush (-3), 2) := by decide +kernel
theorem dX12_sure_38 : decode cX12_sure 38 = .ok (.ireturn, 1) := by decide +kernel
theorem dX12_sure_39 : decode cX12_sure 39 = .ok (.iconst 0, 1) := by decide +kernel
theorem dX12_sure_40 : decode cX12_sure 40 = .ok (.istore_n 3, 1) := by decide +kernel
theorem dX12_sure_41 : decode cX12_sure 41 = .ok (.iconst 0, 1) := by decide +kernel
theorem dX12_sure_42 : decode cX12_sure 42 = .ok (.istore 4, 2) := by decide +kernel
theorem dX12_sure_44 : decode cX12_sure 44 = .ok (.iload 4, 2) := by decide +kernel
theorem dX12_sure_46 : decode cX12_sure 46 = .ok (.aload_n 0, 1) := by decide +kernel
theorem dX12_sure_47 : decode cX12_sure 47 = .ok (.getfield 221, 3) := by decide +kernel
theorem dX12_sure_50 : decode cX12_sure 50 = .ok (.if_icmp .ge 42, 3) := by decide +kernel
theorem dX12_sure_53 : decode cX12_sure 53 = .ok (.iload_n 3, 1) := by decide +kernel
theorem dX12_sure_54 : decode cX12_sure 54 = .ok (.aload_n 0, 1) := by decide +kernel
theorem dX12_sure_55 : decode cX12_sure 55 = .ok (.getfield 69, 3) := by decide +kernel
theorem dX12_sure_58 : decode cX12_sure 58 = .ok (.iload 4, 2) := by decide +kernel
theorem dX12_sure_60 : decode cX12_sure 60 = .ok (.iaload, 1) := by decide +kernel
theorem dX12_sure_61 : decode cX12_sure 61 = .ok (.iload_n 1, 1) := by decide +kernel
theorem dX12_sure_62 : decode cX12_sure 62 = .ok (.if_icmp .ne 21, 3) := by decide +kernel
theorem dX12_sure_65 : decode cX12_sure 65 = .ok (.iload_n 2, 1) := by decide +kernel
theorem dX12_sure_66 : decode cX12_sure 66 = .ok (.ifCond .eq 13, 3) := by decide +kernel
theorem dX12_sure_69 : decode cX12_sure 69 = .ok (.aload_n 0, 1) := by decide +kernel
theorem dX12_sure_70 : decode cX12_sure 70 = .ok (.getfield 72, 3) := by decide +kernel
theorem dX12_sure_73 : decode cX12_sure 73 = .ok (.iload 4, 2) := by decide +kernel
theorem dX12_sure_75 : decode cX12_sure 75 = .ok (.baload, 1) := by decide +kernel
theorem dX12_sure_76 : decode cX12_sure 76 = .ok (.ifCond .eq 7, 3) := by decide +kernel
theorem dX12_sure_79 : decode cX12_sure 79 = .ok (.iconst 1, 1) := by decide +kernel
theorem dX12_sure_80 : decode cX12_sure 80 = .ok (.goto 4, 3) := by decide +kernel
theorem dX12_sure_83 : decode cX12_sure 83 = .ok (.iconst 0, 1) := by decide +kernel
theorem dX12_sure_84 : decode cX12_sure 84 = .ok (.iadd, 1) := by decide +kernel
theorem dX12_sure_85 : decode cX12_sure 85 = .ok (.istore_n 3, 1) := by decide +kernel
theorem dX12_sure_86 : decode cX12_sure 86 = .ok (.iinc 4 1, 3) := by decide +kernel
theorem dX12_sure_89 : decode cX12_sure 89 = .ok (.goto (-45), 3) := by decide +kernel
theorem dX12_sure_92 : decode cX12_sure 92 = .ok (.iload_n 3, 1) := by decide +kernel
theorem dX12_sure_93 : decode cX12_sure 93 = .ok (.ireturn, 1) := by decide +kernel
theorem dX12_runs_0 : decode cX12_runs 0 = .ok (.aload_n 0, 1) := by decide +kernel
theorem dX12_runs_1 : decode cX12_runs 1 = .ok (.getfield 302, 3) := by decide +kernel
theorem dX12_runs_4 : decode cX12_runs 4 = .ok (.bipush 20, 2) := by decide +kernel
theorem dX12_runs_6 : decode cX12_runs 6 = .ok (.if_icmp .ge 13, 3) := by decide +kernel
theorem dX12_runs_9 : decode cX12_runs 9 = .ok (.aload_n 0, 1) := by decide +kernel
theorem dX12_runs_10 : decode cX12_runs 10 = .ok (.getfield 114, 3) := by decide +kernel
theorem dX12_runs_13 : decode cX12_runs 13 = .ok (.aload_n 0, 1) := by decide +kernel
theorem dX12_runs_14 : decode cX12_runs 14 = .ok (.getfield 302, 3) := by decide +kernel
theorem dX12_runs_17 : decode cX12_runs 17 = .ok (.iload_n 1, 1) := by decide +kernel
theorem dX12_runs_18 : decode cX12_runs 18 = .ok (.iastore, 1) := by decide +kernel
theorem dX12_runs_19 : decode cX12_runs 19 = .ok (.aload_n 0, 1) := by decide +kernel
theorem dX12_runs_20 : decode cX12_runs 20 = .ok (.dup, 1) := by decide +kernel
theorem dX12_runs_21 : decode cX12_runs 21 = .ok (.getfield 302, 3) := by decide +kernel
theorem dX12_runs_24 : decode cX12_runs 24 = .ok (.iconst 1, 1) := by decide +kernel
theorem dX12_runs_25 : decode cX12_runs 25 = .ok (.iadd, 1) := by decide +kernel
theorem dX12_runs_26 : decode cX12_runs 26 = .ok (.putfield 302, 3) := by decide +kernel
theorem dX12_runs_29 : decode cX12_runs 29 = .ok (.return_, 1) := by decide +kernel
theorem dX12_isUnder_0 : decode cX12_isUnder 0 = .ok (.iload_n 1, 1) := by decide +kernel
theorem dX12_isUnder_1 : decode cX12_isUnder 1 = .ok (.ifCond .eq 28, 3) := by decide +kernel
theorem dX12_isUnder_4 : decode cX12_isUnder 4 = .ok (.iload_n 1, 1) := by decide +kernel
theorem dX12_isUnder_5 : decode cX12_isUnder 5 = .ok (.iload_n 0, 1) := by decide +kernel
theorem dX12_isUnder_6 : decode cX12_isUnder 6 = .ok (.if_icmp .eq 23, 3) := by decide +kernel
theorem dX12_isUnder_9 : decode cX12_isUnder 9 = .ok (.iload_n 1, 1) := by decide +kernel
theorem dX12_isUnder_10 : decode cX12_isUnder 10 = .ok (.iconst 1, 1) := by decide +kernel
theorem dX12_isUnder_11 : decode cX12_isUnder 11 = .ok (.if_icmp .ne 8, 3) := by decide +kernel
theorem dX12_isUnder_14 : decode cX12_isUnder 14 = .ok (.iload_n 0, 1) := by decide +kernel
theorem dX12_isUnder_15 : decode cX12_isUnder 15 = .ok (.iconst 4, 1) := by decide +kernel
theorem dX12_isUnder_16 : decode cX12_isUnder 16 = .ok (.if_icmp .eq 13, 3) := by decide +kernel
theorem dX12_isUnder_19 : decode cX12_isUnder 19 = .ok (.iload_n 1, 1) := by decide +kernel
theorem dX12_isUnder_20 : decode cX12_isUnder 20 = .ok (.iconst 2, 1) := by decide +kernel
theorem dX12_isUnder_21 : decode cX12_isUnder 21 = .ok (.if_icmp .ne 12, 3) := by decide +kernel
theorem dX12_isUnder_24 : decode cX12_isUnder 24 = .ok (.iload_n 0, 1) := by decide +kernel
theorem dX12_isUnder_25 : decode cX12_isUnder 25 = .ok (.iconst 4, 1) := by decide +kernel
theorem dX12_isUnder_26 : decode cX12_isUnder 26 = .ok (.if_icmp .le 7, 3) := by decide +kernel
theorem dX12_isUnder_29 : decode cX12_isUnder 29 = .ok (.iconst 1, 1) := by decide +kernel
theorem dX12_isUnder_30 : decode cX12_isUnder 30 = .ok (.goto 4, 3) := by decide +kernel
theorem dX12_isUnder_33 : decode cX12_isUnder 33 = .ok (.iconst 0, 1) := by decide +kernel
theorem dX12_isUnder_34 : decode cX12_isUnder 34 = .ok (.ireturn, 1) := by decide +kernel
theorem dX12_plainTells_0 : decode cX12_plainTells 0 = .ok (.aload_n 0, 1) := by decide +kernel
theorem dX12_plainTells_1 : decode cX12_plainTells 1 = .ok (.iconst 1, 1) := by decide +kernel
theorem dX12_plainTells_2 : decode cX12_plainTells 2 = .ok (.invokevirtual 305, 3) := by decide +kernel
theorem dX12_plainTells_5 : decode cX12_plainTells 5 = .ok (.iload_n 1, 1) := by decide +kernel
theorem dX12_plainTells_6 : decode cX12_plainTells 6 = .ok (.aload_n 0, 1) := by decide +kernel
theorem dX12_plainTells_7 : decode cX12_plainTells 7 = .ok (.getfield 308, 3) := by decide +kernel
theorem dX12_plainTells_10 : decode cX12_plainTells 10 = .ok (.iadd, 1) := by decide +kernel
theorem dX12_plainTells_11 : decode cX12_plainTells 11 = .ok (.ireturn, 1) := by decide +kernel
theorem dX12_tells_0 : decode cX12_tells 0 = .ok (.aload_n 0, 1) := by decide +kernel
theorem dX12_tells_1 : decode cX12_tells 1 = .ok (.getfield 311, 3) := by decide +kernel
theorem dX12_tells_4 : decode cX12_tells 4 = .ok (.iconst 5, 1) := by decide +kernel
theorem dX12_tells_5 : decode cX12_tells 5 = .ok (.if_icmp .ne 20, 3) := by decide +kernel
theorem dX12_tells_8 : decode cX12_tells 8 = .ok (.aload_n 0, 1) := by decide +kernel
theorem dX12_tells_9 : decode cX12_tells 9 = .ok (.bipush 51, 2) := by decide +kernel
theorem dX12_tells_11 : decode cX12_tells 11 = .ok (.invokevirtual 305, 3) := by decide +kernel
theorem dX12_tells_14 : decode cX12_tells 14 = .ok (.aload_n 0, 1) := by decide +kernel
theorem dX12_tells_15 : decode cX12_tells 15 = .ok (.iload_n 1, 1) := by decide +kernel
theorem dX12_tells_16 : decode cX12_tells 16 = .ok (.invokevirtual 314, 3) := by decide +kernel
theorem dX12_tells_19 : decode cX12_tells 19 = .ok (.aload_n 0, 1) := by decide +kernel
theorem dX12_tells_20 : decode cX12_tells 20 = .ok (.getfield 308, 3) := by decide +kernel
theorem dX12_tells_23 : decode cX12_tells 23 = .ok (.iadd, 1) := by decide +kernel
theorem dX12_tells_24 : decode cX12_tells 24 = .ok (.ireturn, 1) := by decide +kernel
theorem dX12_tells_25 : decode cX12_tells 25 = .ok (.aload_n 0, 1) := by decide +kernel
theorem dX12_tells_26 : decode cX12_tells 26 = .ok (.getfield 311, 3) := by decide +kernel
theorem dX12_tells_29 : decode cX12_tells 29 = .ok (.iconst 1, 1) := by decide +kernel
theorem dX12_tells_30 : decode cX12_tells 30 = .ok (.invokestatic 317, 3) := by decide +kernel
theorem dX12_tells_33 : decode cX12_tells 33 = .ok (.ifCond .eq 17, 3) := by decide +kernel
theorem dX12_tells_36 : decode cX12_tells 36 = .ok (.aload_n 0, 1) := by decide +kernel
theorem dX12_tells_37 : decode cX12_tells 37 = .ok (.bipush 11, 2) := by decide +kernel
theorem dX12_tells_39 : decode cX12_tells 39 = .ok (.invokevirtual 305, 3) := by decide +kernel
theorem dX12_tells_42 : decode cX12_tells 42 = .ok (.aload_n 0, 1) := by decide +kernel
theorem dX12_tells_43 : decode cX12_tells 43 = .ok (.iload_n 1, 1) := by decide +kernel
theorem dX12_tells_44 : decode cX12_tells 44 = .ok (.iconst 3, 1) := by decide +kernel
theorem dX12_tells_45 : decode cX12_tells 45 = .ok (.imul, 1) := by decide +kernel
theorem dX12_tells_46 : decode cX12_tells 46 = .ok (.invokevirtual 314, 3) := by decide +kernel
theorem dX12_tells_49 : decode cX12_tells 49 = .ok (.ireturn, 1) := by decide +kernel
theorem dX12_tells_50 : decode cX12_tells 50 = .ok (.aload_n 0, 1) := by decide +kernel
theorem dX12_tells_51 : decode cX12_tells 51 = .ok (.iload_n 1, 1) := by decide +kernel
theorem dX12_tells_52 : decode cX12_tells 52 = .ok (.invokevirtual 314, 3) := by decide +kernel
theorem dX12_tells_55 : decode cX12_tells 55 = .ok (.ireturn, 1) := by decide +kernel
theorem dX12_plainLeads_0 : decode cX12_plainLeads 0 = .ok (.aload_n 0, 1) := by decide +kernel
theorem dX12_plainLeads_1 : decode cX12_plainLeads 1 = .ok (.iconst 2, 1) := by decide +kernel
theorem dX12_plainLeads_2 : decode cX12_plainLeads 2 = .ok (.invokevirtual 305, 3) := by decide +kernel
theorem dX12_plainLeads_5 : decode cX12_plainLeads 5 = .ok (.aload_n 0, 1) := by decide +kernel
theorem dX12_plainLeads_6 : decode cX12_plainLeads 6 = .ok (.iload_n 1, 1) := by decide +kernel
theorem dX12_plainLeads_7 : decode cX12_plainLeads 7 = .ok (.invokevirtual 320, 3) := by decide +kernel
theorem dX12_plainLeads_10 : decode cX12_plainLeads 10 = .ok (.aload_n 0, 1) := by decide +kernel
theorem dX12_plainLeads_11 : decode cX12_plainLeads 11 = .ok (.getfield 323, 3) := by decide +kernel
theorem dX12_plainLeads_14 : decode cX12_plainLeads 14 = .ok (.isub, 1) := by decide +kernel
theorem dX12_plainLeads_15 : decode cX12_plainLeads 15 = .ok (.ireturn, 1) := by decide +kernel
theorem dX12_leads_0 : decode cX12_leads 0 = .ok (.aload_n 0, 1) := by decide +kernel
theorem dX12_leads_1 : decode cX12_leads 1 = .ok (.getfield 311, 3) := by decide +kernel
theorem dX12_leads_4 : decode cX12_leads 4 = .ok (.iconst 4, 1) := by decide +kernel
theorem dX12_leads_5 : decode cX12_leads 5 = .ok (.if_icmp .ne 25, 3) := by decide +kernel
theorem dX12_leads_8 : decode cX12_leads 8 = .ok (.aload_n 0, 1) := by decide +kernel
theorem dX12_leads_9 : decode cX12_leads 9 = .ok (.bipush 41, 2) := by decide +kernel
theorem dX12_leads_11 : decode cX12_leads 11 = .ok (.invokevirtual 305, 3) := by decide +kernel
theorem dX12_leads_14 : decode cX12_leads 14 = .ok (.aload_n 0, 1) := by decide +kernel
theorem dX12_leads_15 : decode cX12_leads 15 = .ok (.iload_n 1, 1) := by decide +kernel
theorem dX12_leads_16 : decode cX12_leads 16 = .ok (.iconst 1, 1) := by decide +kernel
theorem dX12_leads_17 : decode cX12_leads 17 = .ok (.isub, 1) := by decide +kernel
theorem dX12_leads_18 : decode cX12_leads 18 = .ok (.invokevirtual 326, 3) := by decide +kernel
theorem dX12_leads_21 : decode cX12_leads 21 = .ok (.istore_n 2, 1) := by decide +kernel
theorem dX12_leads_22 : decode cX12_leads 22 = .ok (.iload_n 2, 1) := by decide +kernel
theorem dX12_leads_23 : decode cX12_leads 23 = .ok (.aload_n 0, 1) := by decide +kernel
theorem dX12_leads_24 : decode cX12_leads 24 = .ok (.iconst 2, 1) := by decide +kernel
theorem dX12_leads_25 : decode cX12_leads 25 = .ok (.invokevirtual 320, 3) := by decide +kernel
theorem dX12_leads_28 : decode cX12_leads 28 = .ok (.iadd, 1) := by decide +kernel
theorem dX12_leads_29 : decode cX12_leads 29 = .ok (.ireturn, 1) := by decide +kernel
theorem dX12_leads_30 : decode cX12_leads 30 = .ok (.aload_n 0, 1) := by decide +kernel
theorem dX12_leads_31 : decode cX12_leads 31 = .ok (.getfield 311, 3) := by decide +kernel
theorem dX12_leads_34 : decode cX12_leads 34 = .ok (.iconst 2, 1) := by decide +kernel
theorem dX12_leads_35 : decode cX12_leads 35 = .ok (.invokestatic 317, 3) := by decide +kernel
theorem dX12_leads_38 : decode cX12_leads 38 = .ok (.ifCond .eq 18, 3) := by decide +kernel
theorem dX12_leads_41 : decode cX12_leads 41 = .ok (.aload_n 0, 1) := by decide +kernel
theorem dX12_leads_42 : decode cX12_leads 42 = .ok (.bipush 21, 2) := by decide +kernel
theorem dX12_leads_44 : decode cX12_leads 44 = .ok (.invokevirtual 305, 3) := by decide +kernel
theorem dX12_leads_47 : decode cX12_leads 47 = .ok (.aload_n 0, 1) := by decide +kernel
theorem dX12_leads_48 : decode cX12_leads 48 = .ok (.iload_n 1, 1) := by decide +kernel
theorem dX12_leads_49 : decode cX12_leads 49 = .ok (.invokevirtual 326, 3) := by decide +kernel
theorem dX12_leads_52 : decode cX12_leads 52 = .ok (.bipush 7, 2) := by decide +kernel
theorem dX12_leads_54 : decode cX12_leads 54 = .ok (.ixor, 1) := by decide +kernel
theorem dX12_leads_55 : decode cX12_leads 55 = .ok (.ireturn, 1) := by decide +kernel
theorem dX12_leads_56 : decode cX12_leads 56 = .ok (.aload_n 0, 1) := by decide +kernel
theorem dX12_leads_57 : decode cX12_leads 57 = .ok (.iload_n 1, 1) := by decide +kernel
theorem dX12_leads_58 : decode cX12_leads 58 = .ok (.invokevirtual 326, 3) := by decide +kernel
theorem dX12_leads_61 : decode cX12_leads 61 = .ok (.ireturn, 1) := by decide +kernel
theorem dX12_plainMarks_0 : decode cX12_plainMarks 0 = .ok (.aload_n 0, 1) := by decide +kernel
theorem dX12_plainMarks_1 : decode cX12_plainMarks 1 = .ok (.iconst 3, 1) := by decide +kernel
theorem dX12_plainMarks_2 : decode cX12_plainMarks 2 = .ok (.invokevirtual 305, 3) := by decide +kernel
theorem dX12_plainMarks_5 : decode cX12_plainMarks 5 = .ok (.aload_n 0, 1) := by decide +kernel
theorem dX12_plainMarks_6 : decode cX12_plainMarks 6 = .ok (.iload_n 1, 1) := by decide +kernel
theorem dX12_plainMarks_7 : decode cX12_plainMarks 7 = .ok (.invokevirtual 329, 3) := by decide +kernel
theorem dX12_plainMarks_10 : decode cX12_plainMarks 10 = .ok (.iconst 2, 1) := by decide +kernel
theorem dX12_plainMarks_11 : decode cX12_plainMarks 11 = .ok (.imul, 1) := by decide +kernel
theorem dX12_plainMarks_12 : decode cX12_plainMarks 12 = .ok (.ireturn, 1) := by decide +kernel
theorem dX12_marks_0 : decode cX12_marks 0 = .ok (.aload_n 0, 1) := by decide +kernel
theorem dX12_marks_1 : decode cX12_marks 1 = .ok (.getfield 311, 3) := by decide +kernel
theorem dX12_marks_4 : decode cX12_marks 4 = .ok (.iconst 3, 1) := by decide +kernel
theorem dX12_marks_5 : decode cX12_marks 5 = .ok (.if_icmp .ne 16, 3) := by decide +kernel
theorem dX12_marks_8 : decode cX12_marks 8 = .ok (.aload_n 0, 1) := by decide +kernel
theorem dX12_marks_9 : decode cX12_marks 9 = .ok (.bipush 31, 2) := by decide +kernel
theorem dX12_marks_11 : decode cX12_marks 11 = .ok (.invokevirtual 305, 3) := by decide +kernel
theorem dX12_marks_14 : decode cX12_marks 14 = .ok (.aload_n 0, 1) := by decide +kernel
theorem dX12_marks_15 : decode cX12_marks 15 = .ok (.iload_n 1, 1) := by decide +kernel
theorem dX12_marks_16 : decode cX12_marks 16 = .ok (.invokevirtual 332, 3) := by decide +kernel
theorem dX12_marks_19 : decode cX12_marks 19 = .ok (.ineg, 1) := by decide +kernel
theorem dX12_marks_20 : decode cX12_marks 20 = .ok (.ireturn, 1) := by decide +kernel
theorem dX12_marks_21 : decode cX12_marks 21 = .ok (.aload_n 0, 1) := by decide +kernel
theorem dX12_marks_22 : decode cX12_marks 22 = .ok (.getfield 311, 3) := by decide +kernel
theorem dX12_marks_25 : decode cX12_marks 25 = .ok (.bipush 6, 2) := by decide +kernel
theorem dX12_marks_27 : decode cX12_marks 27 = .ok (.if_icmp .ne 19, 3) := by decide +kernel
theorem dX12_marks_30 : decode cX12_marks 30 = .ok (.aload_n 0, 1) := by decide +kernel
theorem dX12_marks_31 : decode cX12_marks 31 = .ok (.bipush 61, 2) := by decide +kernel
theorem dX12_marks_33 : decode cX12_marks 33 = .ok (.invokevirtual 305, 3) := by decide +kernel
theorem dX12_marks_36 : decode cX12_marks 36 = .ok (.aload_n 0, 1) := by decide +kernel
theorem dX12_marks_37 : decode cX12_marks 37 = .ok (.iload_n 1, 1) := by decide +kernel
theorem dX12_marks_38 : decode cX12_marks 38 = .ok (.iconst 1, 1) := by decide +kernel
theorem dX12_marks_39 : decode cX12_marks 39 = .ok (.iadd, 1) := by decide +kernel
theorem dX12_marks_40 : decode cX12_marks 40 = .ok (.invokevirtual 332, 3) := by decide +kernel
theorem dX12_marks_43 : decode cX12_marks 43 = .ok (.iconst 3, 1) := by decide +kernel
theorem dX12_marks_44 : decode cX12_marks 44 = .ok (.ixor, 1) := by decide +kernel
theorem dX12_marks_45 : decode cX12_marks 45 = .ok (.ireturn, 1) := by decide +kernel
theorem dX12_marks_46 : decode cX12_marks 46 = .ok (.aload_n 0, 1) := by decide +kernel
theorem dX12_marks_47 : decode cX12_marks 47 = .ok (.iload_n 1, 1) := by decide +kernel
theorem dX12_marks_48 : decode cX12_marks 48 = .ok (.invokevirtual 332, 3) := by decide +kernel
theorem dX12_marks_51 : decode cX12_marks 51 = .ok (.ireturn, 1) := by decide +kernel
theorem dX12_act_0 : decode cX12_act 0 = .ok (.aload_n 0, 1) := by decide +kernel
theorem dX12_act_1 : decode cX12_act 1 = .ok (.iconst 0, 1) := by decide +kernel
theorem dX12_act_2 : decode cX12_act 2 = .ok (.putfield 302, 3) := by decide +kernel
theorem dX12_act_5 : decode cX12_act 5 = .ok (.iload_n 1, 1) := by decide +kernel
theorem dX12_act_6 : decode cX12_act 6 = .ok (.iconst 0, 1) := by decide +kernel
theorem dX12_act_7 : decode cX12_act 7 = .ok (.aload_n 0, 1) := by decide +kernel
theorem dX12_act_8 : decode cX12_act 8 = .ok (.getfield 189, 3) := by decide +kernel
theorem dX12_act_11 : decode cX12_act 11 = .ok (.iconst 1, 1) := by decide +kernel
theorem dX12_act_12 : decode cX12_act 12 = .ok (.isub, 1) := by decide +kernel
theorem dX12_act_13 : decode cX12_act 13 = .ok (.invokestatic 123, 3) := by decide +kernel
theorem dX12_act_16 : decode cX12_act 16 = .ok (.ifCond .eq 12, 3) := by decide +kernel
theorem dX12_act_19 : decode cX12_act 19 = .ok (.iload_n 2, 1) := by decide +kernel
theorem dX12_act_20 : decode cX12_act 20 = .ok (.iconst 0, 1) := by decide +kernel
theorem dX12_act_21 : decode cX12_act 21 = .ok (.iconst 2, 1) := by decide +kernel
theorem dX12_act_22 : decode cX12_act 22 = .ok (.invokestatic 123, 3) := by decide +kernel
theorem dX12_act_25 : decode cX12_act 25 = .ok (.ifCond .ne 5, 3) := by decide +kernel
theorem dX12_act_28 : decode cX12_act 28 = .ok (.iconst 0, 1) := by decide +kernel
theorem dX12_act_29 : decode cX12_act 29 = .ok (.ireturn, 1) := by decide +kernel
theorem dX12_act_30 : decode cX12_act 30 = .ok (.aload_n 0, 1) := by decide +kernel
theorem dX12_act_31 : decode cX12_act 31 = .ok (.aload_n 0, 1) := by decide +kernel
theorem dX12_act_32 : decode cX12_act 32 = .ok (.getfield 54, 3) := by decide +kernel
theorem dX12_act_35 : decode cX12_act 35 = .ok (.iload_n 1, 1) := by decide +kernel
theorem dX12_act_36 : decode cX12_act 36 = .ok (.iaload, 1) := by decide +kernel
theorem dX12_act_37 : decode cX12_act 37 = .ok (.putfield 311, 3) := by decide +kernel
theorem dX12_act_40 : decode cX12_act 40 = .ok (.aload_n 0, 1) := by decide +kernel
theorem dX12_act_41 : decode cX12_act 41 = .ok (.iload_n 1, 1) := by decide +kernel
theorem dX12_act_42 : decode cX12_act 42 = .ok (.putfield 308, 3) := by decide +kernel
theorem dX12_act_45 : decode cX12_act 45 = .ok (.aload_n 0, 1) := by decide +kernel
theorem dX12_act_46 : decode cX12_act 46 = .ok (.aload_n 0, 1) := by decide +kernel
theorem dX12_act_47 : decode cX12_act 47 = .ok (.getfield 57, 3) := by decide +kernel
theorem dX12_act_50 : decode cX12_act 50 = .ok (.iload_n 1, 1) := by decide +kernel
theorem dX12_act_51 : decode cX12_act 51 = .ok (.iaload, 1) := by decide +kernel
theorem dX12_act_52 : decode cX12_act 52 = .ok (.putfield 323, 3) := by decide +kernel
theorem dX12_act_55 : decode cX12_act 55 = .ok (.iload_n 2, 1) := by decide +kernel
theorem dX12_act_56 : decode cX12_act 56 = .ok (.ifCond .ne 11, 3) := by decide +kernel
theorem dX12_act_59 : decode cX12_act 59 = .ok (.aload_n 0, 1) := by decide +kernel
theorem dX12_act_60 : decode cX12_act 60 = .ok (.iload_n 3, 1) := by decide +kernel
theorem dX12_act_61 : decode cX12_act 61 = .ok (.invokevirtual 320, 3) := by decide +kernel
theorem dX12_act_64 : decode cX12_act 64 = .ok (.goto 21, 3) := by decide +kernel
theorem dX12_act_67 : decode cX12_act 67 = .ok (.iload_n 2, 1) := by decide +kernel
theorem dX12_act_68 : decode cX12_act 68 = .ok (.iconst 1, 1) := by decide +kernel
theorem dX12_act_69 : decode cX12_act 69 = .ok (.if_icmp .ne 11, 3) := by decide +kernel
theorem dX12_act_72 : decode cX12_act 72 = .ok (.aload_n 0, 1) := by decide +kernel
theorem dX12_act_73 : decode cX12_act 73 = .ok (.iload_n 3, 1) := by decide +kernel
theorem dX12_act_74 : decode cX12_act 74 = .ok (.invokevirtual 329, 3) := by decide +kernel
theorem dX12_act_77 : decode cX12_act 77 = .ok (.goto 8, 3) := by decide +kernel
theorem dX12_act_80 : decode cX12_act 80 = .ok (.aload_n 0, 1) := by decide +kernel
theorem dX12_act_81 : decode cX12_act 81 = .ok (.iload_n 3, 1) := by decide +kernel
theorem dX12_act_82 : decode cX12_act 82 = .ok (.invokevirtual 335, 3) := by decide +kernel
theorem dX12_act_85 : decode cX12_act 85 = .ok (.ireturn, 1) := by decide +kernel
theorem dX12_trace_0 : decode cX12_trace 0 = .ok (.iload_n 1, 1) := by decide +kernel
theorem dX12_trace_1 : decode cX12_trace 1 = .ok (.iconst 0, 1) := by decide +kernel
theorem dX12_trace_2 : decode cX12_trace 2 = .ok (.aload_n 0, 1) := by decide +kernel
theorem dX12_trace_3 : decode cX12_trace 3 = .ok (.getfield 302, 3) := by decide +kernel
theorem dX12_trace_6 : decode cX12_trace 6 = .ok (.bipush 20, 2) := by decide +kernel
theorem dX12_trace_8 : decode cX12_trace 8 = .ok (.if_icmp .ge 10, 3) := by decide +kernel
theorem dX12_trace_11 : decode cX12_trace 11 = .ok (.aload_n 0, 1) := by decide +kernel
theorem dX12_trace_12 : decode cX12_trace 12 = .ok (.getfield 302, 3) := by decide +kernel
theorem dX12_trace_15 : decode cX12_trace 15 = .ok (.goto 5, 3) := by decide +kernel
theorem dX12_trace_18 : decode cX12_trace 18 = .ok (.bipush 20, 2) := by decide +kernel
theorem dX12_trace_20 : decode cX12_trace 20 = .ok (.iconst 1, 1) := by decide +kernel
theorem dX12_trace_21 : decode cX12_trace 21 = .ok (.isub, 1) := by decide +kernel
theorem dX12_trace_22 : decode cX12_trace 22 = .ok (.invokestatic 123, 3) := by decide +kernel
theorem dX12_trace_25 : decode cX12_trace 25 = .ok (.ifCond .eq 12, 3) := by decide +kernel
theorem dX12_trace_28 : decode cX12_trace 28 = .ok (.aload_n 0, 1) := by decide +kernel
theorem dX12_trace_29 : decode cX12_trace 29 = .ok (.getfield 114, 3) := by decide +kernel
theorem dX12_trace_32 : decode cX12_trace 32 = .ok (.iload_n 1, 1) := by decide +kernel
theorem dX12_trace_33 : decode cX12_trace 33 = .ok (.iaload, 1) := by decide +kernel
theorem dX12_trace_34 : decode cX12_trace 34 = .ok (.goto 4, 3) := by decide +kernel
theorem dX12_trace_37 : decode cX12_trace 37 = .ok (.iconst (-1), 1) := by decide +kernel
theorem dX12_trace_38 : decode cX12_trace 38 = .ok (.ireturn, 1) := by decide +kernel
theorem dX12_as_0 : decode cX12_as 0 = .ok (.iload_n 1, 1) := by decide +kernel
theorem dX12_as_1 : decode cX12_as 1 = .ok (.iconst 0, 1) := by decide +kernel
theorem dX12_as_2 : decode cX12_as 2 = .ok (.aload_n 0, 1) := by decide +kernel
theorem dX12_as_3 : decode cX12_as 3 = .ok (.getfield 189, 3) := by decide +kernel
theorem dX12_as_6 : decode cX12_as 6 = .ok (.iconst 1, 1) := by decide +kernel
theorem dX12_as_7 : decode cX12_as 7 = .ok (.isub, 1) := by decide +kernel
theorem dX12_as_8 : decode cX12_as 8 = .ok (.invokestatic 123, 3) := by decide +kernel
theorem dX12_as_11 : decode cX12_as 11 = .ok (.ifCond .eq 13, 3) := by decide +kernel
theorem dX12_as_14 : decode cX12_as 14 = .ok (.iload_n 2, 1) := by decide +kernel
theorem dX12_as_15 : decode cX12_as 15 = .ok (.iconst 0, 1) := by decide +kernel
theorem dX12_as_16 : decode cX12_as 16 = .ok (.bipush 6, 2) := by decide +kernel
theorem dX12_as_18 : decode cX12_as 18 = .ok (.invokestatic 123, 3) := by decide +kernel
theorem dX12_as_21 : decode cX12_as 21 = .ok (.ifCond .ne 5, 3) := by decide +kernel
theorem dX12_as_24 : decode cX12_as 24 = .ok (.iconst (-1), 1) := by decide +kernel
theorem dX12_as_25 : decode cX12_as 25 = .ok (.ireturn, 1) := by decide +kernel
theorem dX12_as_26 : decode cX12_as 26 = .ok (.aload_n 0, 1) := by decide +kernel
theorem dX12_as_27 : decode cX12_as 27 = .ok (.getfield 54, 3) := by decide +kernel
theorem dX12_as_30 : decode cX12_as 30 = .ok (.iload_n 1, 1) := by decide +kernel
theorem dX12_as_31 : decode cX12_as 31 = .ok (.iaload, 1) := by decide +kernel
theorem dX12_as_32 : decode cX12_as 32 = .ok (.iload_n 2, 1) := by decide +kernel
theorem dX12_as_33 : decode cX12_as 33 = .ok (.invokestatic 317, 3) := by decide +kernel
theorem dX12_as_36 : decode cX12_as 36 = .ok (.ifCond .eq 12, 3) := by decide +kernel
theorem dX12_as_39 : decode cX12_as 39 = .ok (.aload_n 0, 1) := by decide +kernel
theorem dX12_as_40 : decode cX12_as 40 = .ok (.getfield 57, 3) := by decide +kernel
theorem dX12_as_43 : decode cX12_as 43 = .ok (.iload_n 1, 1) := by decide +kernel
theorem dX12_as_44 : decode cX12_as 44 = .ok (.iaload, 1) := by decide +kernel
theorem dX12_as_45 : decode cX12_as 45 = .ok (.goto 5, 3) := by decide +kernel
theorem dX12_as_48 : decode cX12_as 48 = .ok (.bipush (-6), 2) := by decide +kernel
theorem dX12_as_50 : decode cX12_as 50 = .ok (.ireturn, 1) := by decide +kernel
theorem dX12_count_0 : decode cX12_count 0 = .ok (.iload_n 1, 1) := by decide +kernel
theorem dX12_count_1 : decode cX12_count 1 = .ok (.tableswitch 87 0 7 #[47, 52, 57, 62, 67, 72, 77, 82], 47) := by decide +kernel
theorem dX12_count_48 : decode cX12_count 48 = .ok (.aload_n 0, 1) := by decide +kernel
theorem dX12_count_49 : decode cX12_count 49 = .ok (.getfield 120, 3) := by decide +kernel
theorem dX12_count_52 : decode cX12_count 52 = .ok (.ireturn, 1) := by decide +kernel
theorem dX12_count_53 : decode cX12_count 53 = .ok (.aload_n 0, 1) := by decide +kernel
theorem dX12_count_54 : decode cX12_count 54 = .ok (.getfield 127, 3) := by decide +kernel
theorem dX12_count_57 : decode cX12_count 57 = .ok (.ireturn, 1) := by decide +kernel
theorem dX12_count_58 : decode cX12_count 58 = .ok (.aload_n 0, 1) := by decide +kernel
theorem dX12_count_59 : decode cX12_count 59 = .ok (.getfield 189, 3) := by decide +kernel
theorem dX12_count_62 : decode cX12_count 62 = .ok (.ireturn, 1) := by decide +kernel
theorem dX12_count_63 : decode cX12_count 63 = .ok (.aload_n 0, 1) := by decide +kernel
theorem dX12_count_64 : decode cX12_count 64 = .ok (.getfield 196, 3) := by decide +kernel
theorem dX12_count_67 : decode cX12_count 67 = .ok (.ireturn, 1) := by decide +kernel
theorem dX12_count_68 : decode cX12_count 68 = .ok (.aload_n 0, 1) := by decide +kernel
theorem dX12_count_69 : decode cX12_count 69 = .ok (.getfield 221, 3) := by decide +kernel
theorem dX12_count_72 : decode cX12_count 72 = .ok (.ireturn, 1) := by decide +kernel
theorem dX12_count_73 : decode cX12_count 73 = .ok (.aload_n 0, 1) := by decide +kernel
theorem dX12_count_74 : decode cX12_count 74 = .ok (.getfield 137, 3) := by decide +kernel
theorem dX12_count_77 : decode cX12_count 77 = .ok (.ireturn, 1) := by decide +kernel
theorem dX12_count_78 : decode cX12_count 78 = .ok (.aload_n 0, 1) := by decide +kernel
theorem dX12_count_79 : decode cX12_count 79 = .ok (.getfield 140, 3) := by decide +kernel
theorem dX12_count_82 : decode cX12_count 82 = .ok (.ireturn, 1) := by decide +kernel
theorem dX12_count_83 : decode cX12_count 83 = .ok (.aload_n 0, 1) := by decide +kernel
theorem dX12_count_84 : decode cX12_count 84 = .ok (.getfield 302, 3) := by decide +kernel
theorem dX12_count_87 : decode cX12_count 87 = .ok (.ireturn, 1) := by decide +kernel
theorem dX12_count_88 : decode cX12_count 88 = .ok (.iconst (-1), 1) := by decide +kernel
theorem dX12_count_89 : decode cX12_count 89 = .ok (.ireturn, 1) := by decide +kernel
end
section
/-! ===== a small machine: memory is a map of whole numbers; a state of a method is a place, locals, a stack, a shape and the data ===== -/
abbrev iv (z : Int) : Int32 := Int32.ofInt z
abbrev mmV : Type := Int ⊕ Int ⊕ Int64
abbrev vI (z : Int) : mmV := Sum.inl z
abbrev vR (k : Int) : mmV := Sum.inr (Sum.inl k)
abbrev vL (w : Int64) : mmV := Sum.inr (Sum.inr w)
/-- launch, the script's address, the first new address, the script's size, the script, class numbers and slots, array class numbers -/
abbrev mmE : Type := Launch × Nat × Nat × Nat × (Nat → Int32) × va_G × (Nat → ClassId)
/-- the next free cell, kind and length of each, references -/
abbrev mmG : Type := Int × (Int → Nat × Int) × (Int → Int → Int)
abbrev mmD : Type := Int → Int → Int
abbrev mmM : Type := MethodName × ByteArray × Nat × Option FieldType
abbrev mmQ : Type := Option mmV → mmG → mmD → Prop
def mm_ad (E : mmE) (k : Int) : Nat := if k = 1 then E.2.1 else E.2.2.1 + (k - 2).toNat
def mm_sh (E : mmE) : mmV → Value
  | .inl z => .int (Int32.ofInt z)
  | .inr (.inl k) => if k = 0 then .null else .ref (mm_ad E k)
  | .inr (.inr w) => .long w
def mm_ty : Nat → Nat → FieldType
  | 0 => tyX0
  | 1 => tyX1
  | 2 => tyX3
  | 3 => tyX4
  | 4 => tyX5
  | 5 => tyX6
  | 6 => tyX7
  | 7 => tyX8
  | 8 => tyX9
  | 9 => tyX10
  | 10 => tyX11
  | _ => tyX12
def mm_isR (kind j : Nat) : Bool := if kind < 12 then (match mm_ty kind j with | .int => false | .boolean => false | _ => true) else if kind < 14 then false else true
def mm_aty : Nat → FieldType
  | 12 => .int
  | 13 => .boolean
  | 14 => .object RX10
  | 15 => .object RX4
  | _ => .object RX2
def mm_val (E : mmE) (G : mmG) (D : mmD) (k : Int) (j : Nat) : Value := mm_sh E (if mm_isR (G.2.1 k).1 j = true then vR (G.2.2 k j) else vI (D k j))
def mm_cell (E : mmE) (G : mmG) (D : mmD) (H : Heap) (k : Int) : Prop :=
  if (G.2.1 k).1 < 12 then ∃ r : vw_C, vwCl[(G.2.1 k).1]? = some r ∧ t_OB (mm_ad E k) (E.2.2.2.2.2.1.1 (G.2.1 k).1) r.2.2 (E.2.2.2.2.2.1.2 (G.2.1 k).1) H (mm_val E G D k)
  else H[mm_ad E k]? = some (arrV (E.2.2.2.2.2.2 (G.2.1 k).1) (G.2.1 k).2.toNat (mm_val E G D k))
def mm_hold (E : mmE) (U : State) (G : mmG) (D : mmD) (H : Heap) : Prop :=
  va_X E.2.1 E.2.2.2.1 E.2.2.2.2.1 U H ∧ E.2.1 < E.2.2.1 ∧ 2 ≤ G.1 ∧ (H.size : Int) = E.2.2.1 + G.1 - 2 ∧ ∀ k : Int, 2 ≤ k → k < G.1 → mm_cell E G D H k
def mm_nc : List (String × String) := [(RX1, RX8), (RX1, RX9), (RX1, RX6), (RX1, RX3), (RX3, RX8), (RX3, RX9), (RX3, RX6), (RX3, RX1), (RX5, RX8), (RX5, RX9), (RX5, RX6), (RX5, RX3), (RX5, RX1), (RX6, RX5), (RX6, RX9), (RX6, RX3), (RX6, RX1), (RX8, RX5), (RX8, RX9), (RX8, RX6), (RX8, RX3), (RX8, RX1), (RX9, RX8), (RX9, RX5), (RX9, RX6), (RX9, RX3), (RX9, RX1)]
def mm_tbl : List Cond := lw_tbl.filter goodWord
theorem mm_tbl_good : ∀ w ∈ mm_tbl, w ∈ lw_tbl ∧ ((w.onTables && w.keeps) = true ∨ ∃ ty, w = .arrayClass ty) := fun w hw => ⟨(List.mem_filter.mp hw).1, good_of_word (List.mem_filter.mp hw).2⟩
def mm_yc : List (String × String) := [(RX6, RX8), (RX1, RX5), (RX3, RX5), (RX1, RX2), (RX3, RX2), (RX5, RX2), (RX6, RX2), (RX8, RX2), (RX9, RX2)]
def mm_Yc (C T : String) (U : State) : Prop := ∃ c t : ClassId, U.vm.findClass C = some c ∧ U.vm.findClass T = some t ∧ U.vm.assignable c t = true
theorem mm_Yc.moved {C T : String} {u U : State} (hvm : u.vm.Alike U.vm) (h : mm_Yc C T u) : mm_Yc C T U := by
  obtain ⟨c, t, h1, h2, h3⟩ := h
  exact ⟨c, t, by rw [hvm.findClass]; exact h1, by rw [hvm.findClass]; exact h2, by rw [hvm.assignable]; exact h3⟩
def mm_K (E : mmE) (U : State) : Prop :=
  va_K E.2.2.2.2.2.1 vwCl [] U ∧ (∀ k : Nat, 12 ≤ k → k ≤ 16 → ArrOfT U (E.2.2.2.2.2.2 k) (mm_aty k) ∧ va_RA U (E.2.2.2.2.2.2 k) (mm_aty k)) ∧ (∀ q ∈ mm_nc, va_Nc q.1 q.2 U) ∧ (∀ q ∈ mm_yc, mm_Yc q.1 q.2 U)
  ∧ va_AO RX10 U ∧ va_AO RX4 U ∧ va_AO RX2 U ∧ va_Nw (.methodLinkNest RX4 43 yX11_isLetterByte RX11) U ∧ va_Nw (.methodLinkNest RX4 78 yX11_isVowel RX11) U ∧ va_Nw (.methodLinkNest RX7 37 yX11_isVowel RX11) U ∧ va_Nw (.declares ⟨RX2, "kindNumber", "()I"⟩) U
theorem mm_K.warm {E : mmE} {s U : State} (hW : s.WarmedH U.vm) (h : mm_K E s) : mm_K E U := by
  obtain ⟨h1, h2, h3, h4, h5, h6, h7, h8, h9, h10, h11⟩ := h
  exact ⟨va_K.moved hW.alike h1, fun k a b => ⟨arrOfT_moved hW.alike (h2 k a b).1, (h2 k a b).2.moved hW.alike⟩, fun q hq => (h3 q hq).moved hW.alike, fun q hq => (h4 q hq).moved hW.alike, h5.moved hW.alike, h6.moved hW.alike, h7.moved hW.alike, h8.warmM hW, h9.warmM hW, h10.warmM hW, h11.warmD hW⟩
theorem mm_K.same {E : mmE} {s U : State} (hW : s.vm = U.vm) (h : mm_K E s) : mm_K E U := by
  have ha : s.vm.Alike U.vm := hW ▸ Vm.Alike.refl s.vm
  obtain ⟨h1, h2, h3, h4, h5, h6, h7, h8, h9, h10, h11⟩ := h
  exact ⟨va_K.moved ha h1, fun k a b => ⟨arrOfT_moved ha (h2 k a b).1, (h2 k a b).2.moved ha⟩, fun q hq => (h3 q hq).moved ha, fun q hq => (h4 q hq).moved ha, h5.moved ha, h6.moved ha, h7.moved ha, h8.same rfl hW, h9.same rfl hW, h10.same rfl hW, h11.same rfl hW⟩
theorem mm_hold.moved {E : mmE} {s U : State} {G : mmG} {D : mmD} {H : Heap} (ha : s.vm.Alike U.vm) (h : mm_hold E s G D H) : mm_hold E U G D H := ⟨h.1.moved ha, h.2⟩
/-- the locals: what is known of them -/
def mm_L (E : mmE) (ls : Array Slot) (nL : Nat) (L : List (Option mmV)) : Prop := ls.size = nL ∧ lv_wf ls ∧ ∀ (k : Nat) (v : mmV), L[k]? = some (some v) → ls[k]? = some (.val (mm_sh E v))
def mm_ctx (E : mmE) (Y : mmM) (d kc ks : Nat) (p : Program) (s : State) (m : MethodId) (args : Array Value) (meth : Method) (c : Code) (R : Room) (cells slots : Nat) : Prop :=
  p.tables.exec = Jvm.exec ∧ c.code = Y.2.1 ∧ c.maxLocals = Y.2.2.1 ∧ meth.sig.returnType = Y.2.2.2 ∧ meth.locks = false ∧ s.vm.findClass Y.1.cls = some m.cls ∧ meth.name = Y.1.name ∧ (∀ w ∈ mm_tbl, w.before args s = true) ∧ mm_K E s
  ∧ d ≤ R.frames ∧ 64 * d ≤ R.locals ∧ cells + kc ≤ R.cells ∧ slots + ks ≤ R.slots
def mm_Q (E : mmE) (Q : mmQ) : Array Value → State → Outcome → State → Prop := fun _ _ o t => ∃ (r : Option mmV) (G : mmG) (D : mmD), o = .returned (r.map (mm_sh E)) ∧ Q r G D ∧ mm_hold E t G D t.heap
/-- from this place on the method returns, with Q of its answer and the memory -/
def Go (E : mmE) (d kc ks : Nat) (Y : mmM) (pc : Nat) (L : List (Option mmV)) (st : List mmV) (G : mmG) (D : mmD) (Q : mmQ) : Prop :=
  ∀ (p : Program) (e : Env) (s : State) (m : MethodId) (args : Array Value) (below : List Frame) (meth : Method) (c : Code) (H : Heap) (locs : List Loc) (cells slots : Nat) (ls : Array Slot) (R : Room),
    mm_ctx E Y d kc ks p s m args meth c R cells slots → mm_hold E s G D H → (∀ q ∈ locs, E.2.2.1 ≤ q.base) → mm_L E ls Y.2.2.1 L →
    W p E.1 e R s m args below meth c H locs cells slots (MQ below (mm_Q E Q) args s R.cells R.slots (fun q => E.2.2.1 ≤ q)) (F0 m pc ls (st.map (mm_sh E)))
/-- the locals at a method's entry -/
def mm_ent : List mmV → List (Option mmV)
  | [] => []
  | .inr (.inr w) :: r => some (vL w) :: none :: mm_ent r
  | v :: r => some v :: mm_ent r
def Call (E : mmE) (d kc ks : Nat) (Y : mmM) (as : List mmV) (G : mmG) (D : mmD) (Q : mmQ) : Prop := Go E d kc ks Y 0 (mm_ent as ++ List.replicate (Y.2.2.1 - (mm_ent as).length) none) [] G D Q
theorem mm_L.store1 {E : mmE} {ls : Array Slot} {nL : Nat} {L : List (Option mmV)} {i : Nat} {v : mmV} (h : mm_L E ls nL L) (hi : i < nL) (hc : (mm_sh E v).category = 1) (hb : ∀ w, i = 0 ∨ L[i - 1]? ≠ some (some (vL w))) :
    ∃ ls', storeLocals ls i (mm_sh E v) = some ls' ∧ mm_L E ls' nL (L.set i (some v)) := by
  obtain ⟨h1, h2, h3⟩ := h
  obtain ⟨ls', e1, e2⟩ := lv_store1 (l := (List.range L.length).filterMap (fun k => match L[k]? with | some (some v) => some (k, mm_sh E v) | _ => none)) (v := mm_sh E v) ⟨h1, h2, fun q hq => by
    obtain ⟨k, -, hk⟩ := List.mem_filterMap.mp hq
    split at hk
    · rename_i w hw
      cases hk
      exact h3 k w hw
    · cases hk⟩ hi hc
  refine ⟨ls', e1, e2.1, e2.2.1, fun k w hk => ?_⟩
  by_cases hki : k = i
  · subst hki
    have : (L.set k (some v))[k]? = some (some w) := hk
    rw [List.getElem?_set] at this
    simp at this
    obtain ⟨-, rfl⟩ := this
    exact e2.2.2 _ List.mem_cons_self
  · rw [List.getElem?_set_ne (Ne.symm hki)] at hk
    refine e2.2.2 (k, mm_sh E w) (List.mem_cons_of_mem _ (List.mem_filter.mpr ⟨List.mem_filterMap.mpr ⟨k, ?_, ?_⟩, ?_⟩))
    · exact List.mem_range.mpr (List.getElem?_eq_some_iff.mp hk).1
    · rw [hk]
    · have hn : ¬ (k + 1 = i ∧ (mm_sh E w).category = 2) := by
        intro ⟨ha, hb2⟩
        match w, hk, hb2 with
        | .inl z, _, hb2 => simp [mm_sh, Value.category] at hb2
        | .inr (.inl z), _, hb2 => by_cases hz : z = 0 <;> simp [mm_sh, hz, Value.category] at hb2
        | .inr (.inr w), hk, _ =>
          rcases hb w with h | h
          · omega
          · exact h (by rw [show i - 1 = k by omega]; exact hk)
      simp only [Bool.and_eq_true, Bool.not_eq_true', beq_eq_false_iff_ne, ne_eq, Bool.and_eq_false_iff]
      refine ⟨hki, ?_⟩
      by_cases ha : k + 1 = i
      · exact Or.inr (fun hc => hn ⟨ha, hc⟩)
      · exact Or.inl ha
end
section
section Rules
variable {E : mmE} {d kc ks : Nat} {Y : mmM} {pc : Nat} {L : List (Option mmV)} {st : List mmV} {G : mmG} {D : mmD} {Q : mmQ}
theorem iv_add (a b : Int) : iv (a + b) = iv a + iv b := Int32.ofInt_add a b
theorem iv_sub (a b : Int) : iv (a - b) = iv a - iv b := Int32.ofInt_sub a b
theorem iv_mul (a b : Int) : iv (a * b) = iv a * iv b := Int32.ofInt_mul a b
theorem iv_neg (a : Int) : iv (-a) = - iv a := Int32.ofInt_neg a
theorem iv_toInt {a : Int} (h : -2147483648 ≤ a) (h2 : a < 2147483648) : (iv a).toInt = a := Int32.toInt_ofInt_of_le (by simpa using h) (by simpa using h2)
theorem iv_self (x : Int32) : iv x.toInt = x := Int32.ofInt_toInt x
theorem iv_lt {a b : Int} (h : -2147483648 ≤ a) (h2 : a < 2147483648) (h3 : -2147483648 ≤ b) (h4 : b < 2147483648) : iv a < iv b ↔ a < b := by
  rw [Int32.lt_iff_toInt_lt, iv_toInt h h2, iv_toInt h3 h4]
theorem iv_le {a b : Int} (h : -2147483648 ≤ a) (h2 : a < 2147483648) (h3 : -2147483648 ≤ b) (h4 : b < 2147483648) : iv a ≤ iv b ↔ a ≤ b := by
  rw [Int32.le_iff_toInt_le, iv_toInt h h2, iv_toInt h3 h4]
theorem iv_eq {a b : Int} (h : -2147483648 ≤ a) (h2 : a < 2147483648) (h3 : -2147483648 ≤ b) (h4 : b < 2147483648) : iv a = iv b ↔ a = b := by
  rw [← Int32.toInt_inj, iv_toInt h h2, iv_toInt h3 h4]
theorem g_iconst {n : Int} (hd : decode Y.2.1 pc = .ok (.iconst n, 1)) (k : Go E d kc ks Y (pc + 1) L (vI n :: st) G D Q) : Go E d kc ks Y pc L st G D Q := by
  intro p e s m args below meth c H locs cells slots ls R C hh hl hL
  exact lv_iconst C.1 C.2.1 hd rfl (k p e s m args below meth c H locs cells slots ls R C hh hl hL)
theorem g_bipush {n : Int} (hd : decode Y.2.1 pc = .ok (.bipush n, 2)) (hn : (Int8.ofInt n).toInt32 = iv n) (k : Go E d kc ks Y (pc + 2) L (vI n :: st) G D Q) : Go E d kc ks Y pc L st G D Q := by
  intro p e s m args below meth c H locs cells slots ls R C hh hl hL
  exact lv_bipush C.1 C.2.1 hd hn (k p e s m args below meth c H locs cells slots ls R C hh hl hL)
theorem g_sipush {n : Int} (hd : decode Y.2.1 pc = .ok (.sipush n, 3)) (hn : (Int16.ofInt n).toInt32 = iv n) (k : Go E d kc ks Y (pc + 3) L (vI n :: st) G D Q) : Go E d kc ks Y pc L st G D Q := by
  intro p e s m args below meth c H locs cells slots ls R C hh hl hL
  exact lv_sipush C.1 C.2.1 hd hn (k p e s m args below meth c H locs cells slots ls R C hh hl hL)
theorem g_ldc {i : Nat} {n : Int} {v : Int32} (hd : decode Y.2.1 pc = .ok (.ldc i, 2)) (hw : Cond.constant Y.1.cls i v ∈ mm_tbl) (hv : v = iv n) (k : Go E d kc ks Y (pc + 2) L (vI n :: st) G D Q) : Go E d kc ks Y pc L st G D Q := by
  intro p e s m args below meth c H locs cells slots ls R C hh hl hL
  subst hv
  exact lv_ldc C.1 C.2.1 C.2.2.2.2.2.1 (C.2.2.2.2.2.2.2.1 _ hw) hd (k p e s m args below meth c H locs cells slots ls R C hh hl hL)
theorem g_ldcw {i : Nat} {n : Int} {v : Int32} (hd : decode Y.2.1 pc = .ok (.ldc_w i, 3)) (hw : Cond.constant Y.1.cls i v ∈ mm_tbl) (hv : v = iv n) (k : Go E d kc ks Y (pc + 3) L (vI n :: st) G D Q) : Go E d kc ks Y pc L st G D Q := by
  intro p e s m args below meth c H locs cells slots ls R C hh hl hL
  subst hv
  exact lv_ldcw C.1 C.2.1 C.2.2.2.2.2.1 (C.2.2.2.2.2.2.2.1 _ hw) hd (k p e s m args below meth c H locs cells slots ls R C hh hl hL)
theorem g_ldc2 {i : Nat} {v : Int64} (hd : decode Y.2.1 pc = .ok (.ldc2_w i, 3)) (hw : Cond.constantLong Y.1.cls i v ∈ mm_tbl) (k : Go E d kc ks Y (pc + 3) L (vL v :: st) G D Q) : Go E d kc ks Y pc L st G D Q := by
  intro p e s m args below meth c H locs cells slots ls R C hh hl hL
  exact lv_ldc2 C.1 C.2.1 C.2.2.2.2.2.1 (C.2.2.2.2.2.2.2.1 _ hw) hd (k p e s m args below meth c H locs cells slots ls R C hh hl hL)
theorem g_iload {i : Nat} {x : Int} (hd : decode Y.2.1 pc = .ok (.iload i, 2)) (hl0 : L[i]? = some (some (vI x))) (k : Go E d kc ks Y (pc + 2) L (vI x :: st) G D Q) : Go E d kc ks Y pc L st G D Q := by
  intro p e s m args below meth c H locs cells slots ls R C hh hl hL
  exact lv_iload C.1 C.2.1 hd (hL.2.2 i _ hl0) (k p e s m args below meth c H locs cells slots ls R C hh hl hL)
theorem g_iload_n {j : Fin 4} {i : Nat} {x : Int} (hd : decode Y.2.1 pc = .ok (.iload_n j, 1)) (hi : (j : Nat) = i) (hl0 : L[i]? = some (some (vI x))) (k : Go E d kc ks Y (pc + 1) L (vI x :: st) G D Q) : Go E d kc ks Y pc L st G D Q := by
  intro p e s m args below meth c H locs cells slots ls R C hh hl hL
  exact lv_iload_n C.1 C.2.1 hd hi (hL.2.2 i _ hl0) (k p e s m args below meth c H locs cells slots ls R C hh hl hL)
theorem g_lload_n {j : Fin 4} {i : Nat} {x : Int64} (hd : decode Y.2.1 pc = .ok (.lload_n j, 1)) (hi : (j : Nat) = i) (hl0 : L[i]? = some (some (vL x))) (k : Go E d kc ks Y (pc + 1) L (vL x :: st) G D Q) : Go E d kc ks Y pc L st G D Q := by
  intro p e s m args below meth c H locs cells slots ls R C hh hl hL
  exact lv_lload_n C.1 C.2.1 hd hi (hL.2.2 i _ hl0) (k p e s m args below meth c H locs cells slots ls R C hh hl hL)
theorem g_aload {i : Nat} {x : Int} (hd : decode Y.2.1 pc = .ok (.aload i, 2)) (hl0 : L[i]? = some (some (vR x))) (k : Go E d kc ks Y (pc + 2) L (vR x :: st) G D Q) : Go E d kc ks Y pc L st G D Q := by
  intro p e s m args below meth c H locs cells slots ls R C hh hl hL
  have h1 := hL.2.2 i _ hl0
  have h2 := k p e s m args below meth c H locs cells slots ls R C hh hl hL
  by_cases hx : x = 0
  · simp only [List.map_cons, mm_sh, hx, if_true] at h1 h2
    exact lv_aloadN C.1 C.2.1 hd h1 h2
  · simp only [List.map_cons, mm_sh, hx, if_false] at h1 h2
    exact lv_aload C.1 C.2.1 hd h1 h2
theorem g_aload_n {j : Fin 4} {i : Nat} {x : Int} (hd : decode Y.2.1 pc = .ok (.aload_n j, 1)) (hi : (j : Nat) = i) (hl0 : L[i]? = some (some (vR x))) (k : Go E d kc ks Y (pc + 1) L (vR x :: st) G D Q) : Go E d kc ks Y pc L st G D Q := by
  intro p e s m args below meth c H locs cells slots ls R C hh hl hL
  have h1 := hL.2.2 i _ hl0
  have h2 := k p e s m args below meth c H locs cells slots ls R C hh hl hL
  by_cases hx : x = 0
  · simp only [List.map_cons, mm_sh, hx, if_true] at h1 h2
    exact lv_aload_nN C.1 C.2.1 hd hi h1 h2
  · simp only [List.map_cons, mm_sh, hx, if_false] at h1 h2
    exact lv_aload_n C.1 C.2.1 hd hi h1 h2
/-- the locals of a frame as the kit lists them -/
theorem mm_Lhas {E : mmE} {ls : Array Slot} {nL : Nat} {L : List (Option mmV)} (h : mm_L E ls nL L) : lv_has ls nL ((List.range L.length).filterMap (fun k => match L[k]? with | some (some v) => some (k, mm_sh E v) | _ => none)) := by
  obtain ⟨h1, h2, h3⟩ := h
  refine ⟨h1, h2, fun q hq => ?_⟩
  obtain ⟨k, -, hk⟩ := List.mem_filterMap.mp hq
  split at hk
  · rename_i w hw
    cases hk
    exact h3 k w hw
  · cases hk
/-- no long stands just ahead of place i -/
def mm_nl (L : List (Option mmV)) : Nat → Bool
  | 0 => true
  | i + 1 => match L[i]? with | some (some (.inr (.inr _))) => false | _ => true
theorem mm_nl_ok {L : List (Option mmV)} {i : Nat} (h : mm_nl L i = true) (w : Int64) : i = 0 ∨ L[i - 1]? ≠ some (some (vL w)) := by
  cases i with
  | zero => exact Or.inl rfl
  | succ i =>
    right
    intro hc
    simp only [Nat.add_sub_cancel] at hc
    simp [mm_nl, hc] at h
theorem mm_Lset {E : mmE} {ls ls' : Array Slot} {nL : Nat} {L : List (Option mmV)} {i : Nat} {v : mmV} (h : mm_L E ls nL L) (hn : mm_nl L i = true)
    (e2 : lv_has ls' nL ((i, mm_sh E v) :: ((List.range L.length).filterMap (fun k => match L[k]? with | some (some v) => some (k, mm_sh E v) | _ => none)).filter (fun q => !(q.1 == i) && !(q.1 + 1 == i && q.2.category == 2)))) : mm_L E ls' nL (L.set i (some v)) := by
  refine ⟨e2.1, e2.2.1, fun k w hk => ?_⟩
  by_cases hki : k = i
  · subst hki
    rw [List.getElem?_set] at hk
    simp at hk
    obtain ⟨-, rfl⟩ := hk
    exact e2.2.2 _ List.mem_cons_self
  · rw [List.getElem?_set_ne (Ne.symm hki)] at hk
    refine e2.2.2 (k, mm_sh E w) (List.mem_cons_of_mem _ (List.mem_filter.mpr ⟨List.mem_filterMap.mpr ⟨k, ?_, ?_⟩, ?_⟩))
    · exact List.mem_range.mpr (List.getElem?_eq_some_iff.mp hk).1
    · rw [hk]
    · have hn2 : ¬ (k + 1 = i ∧ (mm_sh E w).category = 2) := by
        intro ⟨ha, hb2⟩
        match w, hk, hb2 with
        | .inl z, _, hb2 => simp [mm_sh, Value.category] at hb2
        | .inr (.inl z), _, hb2 => by_cases hz : z = 0 <;> simp [mm_sh, hz, Value.category] at hb2
        | .inr (.inr w), hk, _ =>
          rcases mm_nl_ok hn w with h | h
          · omega
          · exact h (by rw [show i - 1 = k by omega]; exact hk)
      simp only [Bool.and_eq_true, Bool.not_eq_true', beq_eq_false_iff_ne, ne_eq, Bool.and_eq_false_iff]
      refine ⟨hki, ?_⟩
      by_cases ha : k + 1 = i
      · exact Or.inr (fun hc => hn2 ⟨ha, hc⟩)
      · exact Or.inl ha
theorem g_istore {i : Nat} {x : Int} (hd : decode Y.2.1 pc = .ok (.istore i, 2)) (hi : i < Y.2.2.1) (hn : mm_nl L i = true) (k : Go E d kc ks Y (pc + 2) (L.set i (some (vI x))) st G D Q) : Go E d kc ks Y pc L (vI x :: st) G D Q := by
  intro p e s m args below meth c H locs cells slots ls R C hh hl hL
  exact lv_istore C.1 C.2.1 hd (mm_Lhas hL) hi rfl (fun ls' hl' => k p e s m args below meth c H locs cells slots ls' R C hh hl (mm_Lset (v := vI x) hL hn hl'))
theorem g_istore_n {j : Fin 4} {i : Nat} {x : Int} (hd : decode Y.2.1 pc = .ok (.istore_n j, 1)) (hj : (j : Nat) = i) (hi : i < Y.2.2.1) (hn : mm_nl L i = true) (k : Go E d kc ks Y (pc + 1) (L.set i (some (vI x))) st G D Q) : Go E d kc ks Y pc L (vI x :: st) G D Q := by
  intro p e s m args below meth c H locs cells slots ls R C hh hl hL
  exact lv_istore_n C.1 C.2.1 hd hj (mm_Lhas hL) hi rfl (fun ls' hl' => k p e s m args below meth c H locs cells slots ls' R C hh hl (mm_Lset (v := vI x) hL hn hl'))
theorem g_astore {i : Nat} {x : Int} (hd : decode Y.2.1 pc = .ok (.astore i, 2)) (hi : i < Y.2.2.1) (hn : mm_nl L i = true) (k : Go E d kc ks Y (pc + 2) (L.set i (some (vR x))) st G D Q) : Go E d kc ks Y pc L (vR x :: st) G D Q := by
  intro p e s m args below meth c H locs cells slots ls R C hh hl hL
  by_cases hx : x = 0
  · have e1 : mm_sh E (vR x) = .null := by simp [mm_sh, hx]
    rw [List.map_cons, e1]
    exact lv_astoreN C.1 C.2.1 hd (mm_Lhas hL) hi rfl (fun ls' hl' => k p e s m args below meth c H locs cells slots ls' R C hh hl (mm_Lset (v := vR x) hL hn (by rw [e1]; exact hl')))
  · have e1 : mm_sh E (vR x) = .ref (mm_ad E x) := by simp [mm_sh, hx]
    rw [List.map_cons, e1]
    exact lv_astore C.1 C.2.1 hd (mm_Lhas hL) hi rfl (fun ls' hl' => k p e s m args below meth c H locs cells slots ls' R C hh hl (mm_Lset (v := vR x) hL hn (by rw [e1]; exact hl')))
theorem g_astore_n {j : Fin 4} {i : Nat} {x : Int} (hd : decode Y.2.1 pc = .ok (.astore_n j, 1)) (hj : (j : Nat) = i) (hi : i < Y.2.2.1) (hn : mm_nl L i = true) (k : Go E d kc ks Y (pc + 1) (L.set i (some (vR x))) st G D Q) : Go E d kc ks Y pc L (vR x :: st) G D Q := by
  intro p e s m args below meth c H locs cells slots ls R C hh hl hL
  by_cases hx : x = 0
  · have e1 : mm_sh E (vR x) = .null := by simp [mm_sh, hx]
    rw [List.map_cons, e1]
    exact lv_astore_nN C.1 C.2.1 hd hj (mm_Lhas hL) hi rfl (fun ls' hl' => k p e s m args below meth c H locs cells slots ls' R C hh hl (mm_Lset (v := vR x) hL hn (by rw [e1]; exact hl')))
  · have e1 : mm_sh E (vR x) = .ref (mm_ad E x) := by simp [mm_sh, hx]
    rw [List.map_cons, e1]
    exact lv_astore_n C.1 C.2.1 hd hj (mm_Lhas hL) hi rfl (fun ls' hl' => k p e s m args below meth c H locs cells slots ls' R C hh hl (mm_Lset (v := vR x) hL hn (by rw [e1]; exact hl')))
theorem g_iinc {i : Nat} {n x : Int} (hd : decode Y.2.1 pc = .ok (.iinc i n, 3)) (hi : i < Y.2.2.1) (hl0 : L[i]? = some (some (vI x))) (hn : mm_nl L i = true) (k : Go E d kc ks Y (pc + 3) (L.set i (some (vI (x + n)))) st G D Q) : Go E d kc ks Y pc L st G D Q := by
  intro p e s m args below meth c H locs cells slots ls R C hh hl hL
  have hm : (i, mm_sh E (vI x)) ∈ ((List.range L.length).filterMap (fun k => match L[k]? with | some (some v) => some (k, mm_sh E v) | _ => none)) :=
    List.mem_filterMap.mpr ⟨i, List.mem_range.mpr (List.getElem?_eq_some_iff.mp hl0).1, by rw [hl0]⟩
  obtain ⟨j, hj⟩ := List.getElem?_of_mem hm
  exact lv_iinc (v := iv (x + n)) C.1 C.2.1 hd (mm_Lhas hL) hj (iv_add x n).symm hi rfl (fun ls' hl' => k p e s m args below meth c H locs cells slots ls' R C hh hl (mm_Lset (v := vI (x + n)) hL hn hl'))
theorem g_iadd {x y : Int} (hd : decode Y.2.1 pc = .ok (.iadd, 1)) (k : Go E d kc ks Y (pc + 1) L (vI (x + y) :: st) G D Q) : Go E d kc ks Y pc L (vI y :: vI x :: st) G D Q := by
  intro p e s m args below meth c H locs cells slots ls R C hh hl hL
  refine lv_iadd C.1 C.2.1 hd ?_
  rw [← iv_add]
  exact k p e s m args below meth c H locs cells slots ls R C hh hl hL
theorem g_isub {x y : Int} (hd : decode Y.2.1 pc = .ok (.isub, 1)) (k : Go E d kc ks Y (pc + 1) L (vI (x - y) :: st) G D Q) : Go E d kc ks Y pc L (vI y :: vI x :: st) G D Q := by
  intro p e s m args below meth c H locs cells slots ls R C hh hl hL
  refine lv_isub C.1 C.2.1 hd ?_
  rw [← iv_sub]
  exact k p e s m args below meth c H locs cells slots ls R C hh hl hL
theorem g_imul {x y : Int} (hd : decode Y.2.1 pc = .ok (.imul, 1)) (k : Go E d kc ks Y (pc + 1) L (vI (x * y) :: st) G D Q) : Go E d kc ks Y pc L (vI y :: vI x :: st) G D Q := by
  intro p e s m args below meth c H locs cells slots ls R C hh hl hL
  refine lv_imul C.1 C.2.1 hd ?_
  rw [← iv_mul]
  exact k p e s m args below meth c H locs cells slots ls R C hh hl hL
theorem g_ineg {x : Int} (hd : decode Y.2.1 pc = .ok (.ineg, 1)) (k : Go E d kc ks Y (pc + 1) L (vI (-x) :: st) G D Q) : Go E d kc ks Y pc L (vI x :: st) G D Q := by
  intro p e s m args below meth c H locs cells slots ls R C hh hl hL
  refine lv_ineg C.1 C.2.1 hd ?_
  rw [← iv_neg]
  exact k p e s m args below meth c H locs cells slots ls R C hh hl hL
/-- what two ints make, as an int -/
def i2 (f : Int32 → Int32 → Int32) (x y : Int) : Int := (f (iv x) (iv y)).toInt
def ishl (x y : Int) : Int := (iv x <<< (iv y &&& 31)).toInt
def ishr (x y : Int) : Int := (iv x >>> (iv y &&& 31)).toInt
def iushr (x y : Int) : Int := ((iv x).toUInt32 >>> ((iv y).toUInt32 &&& Int32.toUInt32 31)).toInt32.toInt
def iand (x y : Int) : Int := (iv x &&& iv y).toInt
def ior (x y : Int) : Int := (iv x ||| iv y).toInt
def ixor (x y : Int) : Int := (iv x ^^^ iv y).toInt
def idiv (x y : Int) : Int := (iv x / iv y).toInt
def irem (x y : Int) : Int := (iv x - iv x / iv y * iv y).toInt
theorem g_ishl {x y : Int} (hd : decode Y.2.1 pc = .ok (.ishl, 1)) (k : Go E d kc ks Y (pc + 1) L (vI (ishl x y) :: st) G D Q) : Go E d kc ks Y pc L (vI y :: vI x :: st) G D Q := by
  intro p e s m args below meth c H locs cells slots ls R C hh hl hL
  refine lv_ishl C.1 C.2.1 hd ?_
  rw [← iv_self (iv x <<< (iv y &&& 31))]
  exact k p e s m args below meth c H locs cells slots ls R C hh hl hL
theorem g_ishr {x y : Int} (hd : decode Y.2.1 pc = .ok (.ishr, 1)) (k : Go E d kc ks Y (pc + 1) L (vI (ishr x y) :: st) G D Q) : Go E d kc ks Y pc L (vI y :: vI x :: st) G D Q := by
  intro p e s m args below meth c H locs cells slots ls R C hh hl hL
  refine lv_ishr C.1 C.2.1 hd ?_
  rw [← iv_self (iv x >>> (iv y &&& 31))]
  exact k p e s m args below meth c H locs cells slots ls R C hh hl hL
theorem g_iushr {x y : Int} (hd : decode Y.2.1 pc = .ok (.iushr, 1)) (k : Go E d kc ks Y (pc + 1) L (vI (iushr x y) :: st) G D Q) : Go E d kc ks Y pc L (vI y :: vI x :: st) G D Q := by
  intro p e s m args below meth c H locs cells slots ls R C hh hl hL
  refine lv_iushr C.1 C.2.1 hd (iv_self _).symm ?_
  exact k p e s m args below meth c H locs cells slots ls R C hh hl hL
theorem g_iand {x y : Int} (hd : decode Y.2.1 pc = .ok (.iand, 1)) (k : Go E d kc ks Y (pc + 1) L (vI (iand x y) :: st) G D Q) : Go E d kc ks Y pc L (vI y :: vI x :: st) G D Q := by
  intro p e s m args below meth c H locs cells slots ls R C hh hl hL
  refine lv_iand C.1 C.2.1 hd ?_
  rw [← iv_self (iv x &&& iv y)]
  exact k p e s m args below meth c H locs cells slots ls R C hh hl hL
theorem g_ior {x y : Int} (hd : decode Y.2.1 pc = .ok (.ior, 1)) (k : Go E d kc ks Y (pc + 1) L (vI (ior x y) :: st) G D Q) : Go E d kc ks Y pc L (vI y :: vI x :: st) G D Q := by
  intro p e s m args below meth c H locs cells slots ls R C hh hl hL
  refine lv_ior C.1 C.2.1 hd ?_
  rw [← iv_self (iv x ||| iv y)]
  exact k p e s m args below meth c H locs cells slots ls R C hh hl hL
theorem g_ixor {x y : Int} (hd : decode Y.2.1 pc = .ok (.ixor, 1)) (k : Go E d kc ks Y (pc + 1) L (vI (ixor x y) :: st) G D Q) : Go E d kc ks Y pc L (vI y :: vI x :: st) G D Q := by
  intro p e s m args below meth c H locs cells slots ls R C hh hl hL
  refine lv_ixor C.1 C.2.1 hd ?_
  rw [← iv_self (iv x ^^^ iv y)]
  exact k p e s m args below meth c H locs cells slots ls R C hh hl hL
theorem g_idiv {x y : Int} (hd : decode Y.2.1 pc = .ok (.idiv, 1)) (hy : ¬ iv y = 0) (k : Go E d kc ks Y (pc + 1) L (vI (idiv x y) :: st) G D Q) : Go E d kc ks Y pc L (vI y :: vI x :: st) G D Q := by
  intro p e s m args below meth c H locs cells slots ls R C hh hl hL
  refine lv_idiv C.1 C.2.1 hd hy ?_
  rw [← iv_self (iv x / iv y)]
  exact k p e s m args below meth c H locs cells slots ls R C hh hl hL
theorem g_irem {x y : Int} (hd : decode Y.2.1 pc = .ok (.irem, 1)) (hy : ¬ iv y = 0) (k : Go E d kc ks Y (pc + 1) L (vI (irem x y) :: st) G D Q) : Go E d kc ks Y pc L (vI y :: vI x :: st) G D Q := by
  intro p e s m args below meth c H locs cells slots ls R C hh hl hL
  refine lv_irem C.1 C.2.1 hd hy ?_
  rw [← iv_self (iv x - iv x / iv y * iv y)]
  exact k p e s m args below meth c H locs cells slots ls R C hh hl hL
theorem g_i2l {x : Int} (hd : decode Y.2.1 pc = .ok (.i2l, 1)) (k : Go E d kc ks Y (pc + 1) L (vL (iv x).toInt64 :: st) G D Q) : Go E d kc ks Y pc L (vI x :: st) G D Q := by
  intro p e s m args below meth c H locs cells slots ls R C hh hl hL
  exact lv_i2l C.1 C.2.1 hd rfl (k p e s m args below meth c H locs cells slots ls R C hh hl hL)
theorem g_l2i {x : Int64} (hd : decode Y.2.1 pc = .ok (.l2i, 1)) (k : Go E d kc ks Y (pc + 1) L (vI x.toInt32.toInt :: st) G D Q) : Go E d kc ks Y pc L (vL x :: st) G D Q := by
  intro p e s m args below meth c H locs cells slots ls R C hh hl hL
  exact lv_l2i C.1 C.2.1 hd (iv_self _).symm (k p e s m args below meth c H locs cells slots ls R C hh hl hL)
theorem g_land {x y : Int64} (hd : decode Y.2.1 pc = .ok (.land, 1)) (k : Go E d kc ks Y (pc + 1) L (vL (x &&& y) :: st) G D Q) : Go E d kc ks Y pc L (vL y :: vL x :: st) G D Q := by
  intro p e s m args below meth c H locs cells slots ls R C hh hl hL
  exact lv_land C.1 C.2.1 hd (k p e s m args below meth c H locs cells slots ls R C hh hl hL)
theorem g_lor {x y : Int64} (hd : decode Y.2.1 pc = .ok (.lor, 1)) (k : Go E d kc ks Y (pc + 1) L (vL (x ||| y) :: st) G D Q) : Go E d kc ks Y pc L (vL y :: vL x :: st) G D Q := by
  intro p e s m args below meth c H locs cells slots ls R C hh hl hL
  exact lv_lor C.1 C.2.1 hd (k p e s m args below meth c H locs cells slots ls R C hh hl hL)
theorem g_lshl {x : Int64} {y : Int} (hd : decode Y.2.1 pc = .ok (.lshl, 1)) (k : Go E d kc ks Y (pc + 1) L (vL (x <<< ((iv y).toInt64 &&& 63)) :: st) G D Q) : Go E d kc ks Y pc L (vI y :: vL x :: st) G D Q := by
  intro p e s m args below meth c H locs cells slots ls R C hh hl hL
  exact lv_lshl C.1 C.2.1 hd rfl (k p e s m args below meth c H locs cells slots ls R C hh hl hL)
theorem g_lshr {x : Int64} {y : Int} (hd : decode Y.2.1 pc = .ok (.lshr, 1)) (k : Go E d kc ks Y (pc + 1) L (vL (x >>> ((iv y).toInt64 &&& 63)) :: st) G D Q) : Go E d kc ks Y pc L (vI y :: vL x :: st) G D Q := by
  intro p e s m args below meth c H locs cells slots ls R C hh hl hL
  exact lv_lshr C.1 C.2.1 hd rfl (k p e s m args below meth c H locs cells slots ls R C hh hl hL)
theorem g_lushr {x : Int64} {y : Int} (hd : decode Y.2.1 pc = .ok (.lushr, 1)) (k : Go E d kc ks Y (pc + 1) L (vL ((x.toUInt64 >>> ((iv y).toInt64.toUInt64 &&& Int64.toUInt64 63)).toInt64) :: st) G D Q) : Go E d kc ks Y pc L (vI y :: vL x :: st) G D Q := by
  intro p e s m args below meth c H locs cells slots ls R C hh hl hL
  exact lv_lushr C.1 C.2.1 hd rfl (k p e s m args below meth c H locs cells slots ls R C hh hl hL)
theorem mm_cat1 (E : mmE) {v : mmV} (hv : ∀ w, v ≠ vL w) : (mm_sh E v).category = 1 := by
  match v, hv with
  | .inl z, _ => rfl
  | .inr (.inl z), _ => by_cases hz : z = 0 <;> simp [mm_sh, hz, Value.category]
  | .inr (.inr w), hv => exact absurd rfl (hv w)
theorem g_dup {v : mmV} (hd : decode Y.2.1 pc = .ok (.dup, 1)) (hv : ∀ w, v ≠ vL w) (k : Go E d kc ks Y (pc + 1) L (v :: v :: st) G D Q) : Go E d kc ks Y pc L (v :: st) G D Q := by
  intro p e s m args below meth c H locs cells slots ls R C hh hl hL
  exact lv_dup C.1 C.2.1 hd (mm_cat1 E hv) (k p e s m args below meth c H locs cells slots ls R C hh hl hL)
theorem g_dup2 {v w : mmV} (hd : decode Y.2.1 pc = .ok (.dup2, 1)) (hv : ∀ z, v ≠ vL z) (hw : ∀ z, w ≠ vL z) (k : Go E d kc ks Y (pc + 1) L (v :: w :: v :: w :: st) G D Q) : Go E d kc ks Y pc L (v :: w :: st) G D Q := by
  intro p e s m args below meth c H locs cells slots ls R C hh hl hL
  exact lv_dup2_11 C.1 C.2.1 hd (mm_cat1 E hv) (mm_cat1 E hw) (k p e s m args below meth c H locs cells slots ls R C hh hl hL)
theorem g_pop {v : mmV} (hd : decode Y.2.1 pc = .ok (.pop, 1)) (hv : ∀ w, v ≠ vL w) (k : Go E d kc ks Y (pc + 1) L st G D Q) : Go E d kc ks Y pc L (v :: st) G D Q := by
  intro p e s m args below meth c H locs cells slots ls R C hh hl hL
  exact lv_pop C.1 C.2.1 hd (mm_cat1 E hv) (k p e s m args below meth c H locs cells slots ls R C hh hl hL)
theorem g_null (hd : decode Y.2.1 pc = .ok (.aconst_null, 1)) (k : Go E d kc ks Y (pc + 1) L (vR 0 :: st) G D Q) : Go E d kc ks Y pc L st G D Q := by
  intro p e s m args below meth c H locs cells slots ls R C hh hl hL
  exact lv_null C.1 C.2.1 hd (k p e s m args below meth c H locs cells slots ls R C hh hl hL)
theorem g_goto {off : Int} (tgt : Nat) (hd : decode Y.2.1 pc = .ok (.goto off, 3)) (ht : (pc : Int) + off = (tgt : Int)) (k : Go E d kc ks Y tgt L st G D Q) : Go E d kc ks Y pc L st G D Q := by
  intro p e s m args below meth c H locs cells slots ls R C hh hl hL
  exact lv_goto C.1 C.2.1 hd ht (k p e s m args below meth c H locs cells slots ls R C hh hl hL)
end Rules
end
section
section Rules2
variable {E : mmE} {d kc ks : Nat} {Y : mmM} {pc : Nat} {L : List (Option mmV)} {st : List mmV} {G : mmG} {D : mmD} {Q : mmQ}
theorem iv_0 : (0 : Int32) = iv 0 := by decide +kernel
theorem g_icmp_eq {x y off : Int} (tgt : Nat) (hd : decode Y.2.1 pc = .ok (.if_icmp .eq off, 3)) (ht : (pc : Int) + off = (tgt : Int)) (k : (iv x = iv y → Go E d kc ks Y tgt L st G D Q) ∧ (¬ iv x = iv y → Go E d kc ks Y (pc + 3) L st G D Q)) : Go E d kc ks Y pc L (vI y :: vI x :: st) G D Q := by
  intro p e s m args below meth c H locs cells slots ls R C hh hl hL
  exact lv_icmp_eq C.1 C.2.1 hd ht (fun h => k.1 h p e s m args below meth c H locs cells slots ls R C hh hl hL) (fun h => k.2 h p e s m args below meth c H locs cells slots ls R C hh hl hL)
theorem g_if_eq {x off : Int} (tgt : Nat) (hd : decode Y.2.1 pc = .ok (.ifCond .eq off, 3)) (ht : (pc : Int) + off = (tgt : Int)) (k : (iv x = iv 0 → Go E d kc ks Y tgt L st G D Q) ∧ (¬ iv x = iv 0 → Go E d kc ks Y (pc + 3) L st G D Q)) : Go E d kc ks Y pc L (vI x :: st) G D Q := by
  intro p e s m args below meth c H locs cells slots ls R C hh hl hL
  exact lv_if_eq C.1 C.2.1 hd ht (fun h => k.1 h p e s m args below meth c H locs cells slots ls R C hh hl hL) (fun h => k.2 h p e s m args below meth c H locs cells slots ls R C hh hl hL)
theorem g_icmp_ne {x y off : Int} (tgt : Nat) (hd : decode Y.2.1 pc = .ok (.if_icmp .ne off, 3)) (ht : (pc : Int) + off = (tgt : Int)) (k : (¬ iv x = iv y → Go E d kc ks Y tgt L st G D Q) ∧ (iv x = iv y → Go E d kc ks Y (pc + 3) L st G D Q)) : Go E d kc ks Y pc L (vI y :: vI x :: st) G D Q := by
  intro p e s m args below meth c H locs cells slots ls R C hh hl hL
  exact lv_icmp_ne C.1 C.2.1 hd ht (fun h => k.1 h p e s m args below meth c H locs cells slots ls R C hh hl hL) (fun h => k.2 h p e s m args below meth c H locs cells slots ls R C hh hl hL)
theorem g_if_ne {x off : Int} (tgt : Nat) (hd : decode Y.2.1 pc = .ok (.ifCond .ne off, 3)) (ht : (pc : Int) + off = (tgt : Int)) (k : (¬ iv x = iv 0 → Go E d kc ks Y tgt L st G D Q) ∧ (iv x = iv 0 → Go E d kc ks Y (pc + 3) L st G D Q)) : Go E d kc ks Y pc L (vI x :: st) G D Q := by
  intro p e s m args below meth c H locs cells slots ls R C hh hl hL
  exact lv_if_ne C.1 C.2.1 hd ht (fun h => k.1 h p e s m args below meth c H locs cells slots ls R C hh hl hL) (fun h => k.2 h p e s m args below meth c H locs cells slots ls R C hh hl hL)
theorem g_icmp_lt {x y off : Int} (tgt : Nat) (hd : decode Y.2.1 pc = .ok (.if_icmp .lt off, 3)) (ht : (pc : Int) + off = (tgt : Int)) (k : (iv x < iv y → Go E d kc ks Y tgt L st G D Q) ∧ (¬ iv x < iv y → Go E d kc ks Y (pc + 3) L st G D Q)) : Go E d kc ks Y pc L (vI y :: vI x :: st) G D Q := by
  intro p e s m args below meth c H locs cells slots ls R C hh hl hL
  exact lv_icmp_lt C.1 C.2.1 hd ht (fun h => k.1 h p e s m args below meth c H locs cells slots ls R C hh hl hL) (fun h => k.2 h p e s m args below meth c H locs cells slots ls R C hh hl hL)
theorem g_if_lt {x off : Int} (tgt : Nat) (hd : decode Y.2.1 pc = .ok (.ifCond .lt off, 3)) (ht : (pc : Int) + off = (tgt : Int)) (k : (iv x < iv 0 → Go E d kc ks Y tgt L st G D Q) ∧ (¬ iv x < iv 0 → Go E d kc ks Y (pc + 3) L st G D Q)) : Go E d kc ks Y pc L (vI x :: st) G D Q := by
  intro p e s m args below meth c H locs cells slots ls R C hh hl hL
  exact lv_if_lt C.1 C.2.1 hd ht (fun h => k.1 h p e s m args below meth c H locs cells slots ls R C hh hl hL) (fun h => k.2 h p e s m args below meth c H locs cells slots ls R C hh hl hL)
theorem g_icmp_ge {x y off : Int} (tgt : Nat) (hd : decode Y.2.1 pc = .ok (.if_icmp .ge off, 3)) (ht : (pc : Int) + off = (tgt : Int)) (k : (iv y ≤ iv x → Go E d kc ks Y tgt L st G D Q) ∧ (¬ iv y ≤ iv x → Go E d kc ks Y (pc + 3) L st G D Q)) : Go E d kc ks Y pc L (vI y :: vI x :: st) G D Q := by
  intro p e s m args below meth c H locs cells slots ls R C hh hl hL
  exact lv_icmp_ge C.1 C.2.1 hd ht (fun h => k.1 h p e s m args below meth c H locs cells slots ls R C hh hl hL) (fun h => k.2 h p e s m args below meth c H locs cells slots ls R C hh hl hL)
theorem g_if_ge {x off : Int} (tgt : Nat) (hd : decode Y.2.1 pc = .ok (.ifCond .ge off, 3)) (ht : (pc : Int) + off = (tgt : Int)) (k : (iv 0 ≤ iv x → Go E d kc ks Y tgt L st G D Q) ∧ (¬ iv 0 ≤ iv x → Go E d kc ks Y (pc + 3) L st G D Q)) : Go E d kc ks Y pc L (vI x :: st) G D Q := by
  intro p e s m args below meth c H locs cells slots ls R C hh hl hL
  exact lv_if_ge C.1 C.2.1 hd ht (fun h => k.1 h p e s m args below meth c H locs cells slots ls R C hh hl hL) (fun h => k.2 h p e s m args below meth c H locs cells slots ls R C hh hl hL)
theorem g_icmp_gt {x y off : Int} (tgt : Nat) (hd : decode Y.2.1 pc = .ok (.if_icmp .gt off, 3)) (ht : (pc : Int) + off = (tgt : Int)) (k : (iv y < iv x → Go E d kc ks Y tgt L st G D Q) ∧ (¬ iv y < iv x → Go E d kc ks Y (pc + 3) L st G D Q)) : Go E d kc ks Y pc L (vI y :: vI x :: st) G D Q := by
  intro p e s m args below meth c H locs cells slots ls R C hh hl hL
  exact lv_icmp_gt C.1 C.2.1 hd ht (fun h => k.1 h p e s m args below meth c H locs cells slots ls R C hh hl hL) (fun h => k.2 h p e s m args below meth c H locs cells slots ls R C hh hl hL)
theorem g_if_gt {x off : Int} (tgt : Nat) (hd : decode Y.2.1 pc = .ok (.ifCond .gt off, 3)) (ht : (pc : Int) + off = (tgt : Int)) (k : (iv 0 < iv x → Go E d kc ks Y tgt L st G D Q) ∧ (¬ iv 0 < iv x → Go E d kc ks Y (pc + 3) L st G D Q)) : Go E d kc ks Y pc L (vI x :: st) G D Q := by
  intro p e s m args below meth c H locs cells slots ls R C hh hl hL
  exact lv_if_gt C.1 C.2.1 hd ht (fun h => k.1 h p e s m args below meth c H locs cells slots ls R C hh hl hL) (fun h => k.2 h p e s m args below meth c H locs cells slots ls R C hh hl hL)
theorem g_icmp_le {x y off : Int} (tgt : Nat) (hd : decode Y.2.1 pc = .ok (.if_icmp .le off, 3)) (ht : (pc : Int) + off = (tgt : Int)) (k : (iv x ≤ iv y → Go E d kc ks Y tgt L st G D Q) ∧ (¬ iv x ≤ iv y → Go E d kc ks Y (pc + 3) L st G D Q)) : Go E d kc ks Y pc L (vI y :: vI x :: st) G D Q := by
  intro p e s m args below meth c H locs cells slots ls R C hh hl hL
  exact lv_icmp_le C.1 C.2.1 hd ht (fun h => k.1 h p e s m args below meth c H locs cells slots ls R C hh hl hL) (fun h => k.2 h p e s m args below meth c H locs cells slots ls R C hh hl hL)
theorem g_if_le {x off : Int} (tgt : Nat) (hd : decode Y.2.1 pc = .ok (.ifCond .le off, 3)) (ht : (pc : Int) + off = (tgt : Int)) (k : (iv x ≤ iv 0 → Go E d kc ks Y tgt L st G D Q) ∧ (¬ iv x ≤ iv 0 → Go E d kc ks Y (pc + 3) L st G D Q)) : Go E d kc ks Y pc L (vI x :: st) G D Q := by
  intro p e s m args below meth c H locs cells slots ls R C hh hl hL
  exact lv_if_le C.1 C.2.1 hd ht (fun h => k.1 h p e s m args below meth c H locs cells slots ls R C hh hl hL) (fun h => k.2 h p e s m args below meth c H locs cells slots ls R C hh hl hL)
theorem g_ifnull {x off : Int} (tgt : Nat) (hd : decode Y.2.1 pc = .ok (.ifnull off, 3)) (ht : (pc : Int) + off = (tgt : Int)) (k : (x = 0 → Go E d kc ks Y tgt L st G D Q) ∧ (¬ x = 0 → Go E d kc ks Y (pc + 3) L st G D Q)) : Go E d kc ks Y pc L (vR x :: st) G D Q := by
  intro p e s m args below meth c H locs cells slots ls R C hh hl hL
  by_cases hx : x = 0
  · rw [List.map_cons, show mm_sh E (vR x) = .null by simp [mm_sh, hx]]
    exact lv_ifnullN C.1 C.2.1 hd ht (k.1 hx p e s m args below meth c H locs cells slots ls R C hh hl hL)
  · rw [List.map_cons, show mm_sh E (vR x) = .ref (mm_ad E x) by simp [mm_sh, hx]]
    exact lv_ifnull C.1 C.2.1 hd (k.2 hx p e s m args below meth c H locs cells slots ls R C hh hl hL)
theorem g_ifnonnull {x off : Int} (tgt : Nat) (hd : decode Y.2.1 pc = .ok (.ifnonnull off, 3)) (ht : (pc : Int) + off = (tgt : Int)) (k : (¬ x = 0 → Go E d kc ks Y tgt L st G D Q) ∧ (x = 0 → Go E d kc ks Y (pc + 3) L st G D Q)) : Go E d kc ks Y pc L (vR x :: st) G D Q := by
  intro p e s m args below meth c H locs cells slots ls R C hh hl hL
  by_cases hx : x = 0
  · rw [List.map_cons, show mm_sh E (vR x) = .null by simp [mm_sh, hx]]
    exact lv_ifnonnullN C.1 C.2.1 hd (k.2 hx p e s m args below meth c H locs cells slots ls R C hh hl hL)
  · rw [List.map_cons, show mm_sh E (vR x) = .ref (mm_ad E x) by simp [mm_sh, hx]]
    exact lv_ifnonnull C.1 C.2.1 hd ht (k.1 hx p e s m args below meth c H locs cells slots ls R C hh hl hL)
/-- a switch over lo .. hi: by the place in the row of targets, or the default -/
theorem g_tswitch {x dflt lo hi : Int} {offs : Array Int} {len : Nat} (dt : Nat) (tgts : List Nat) (hd : decode Y.2.1 pc = .ok (.tableswitch dflt lo hi offs, len)) (hdt : (pc : Int) + dflt = (dt : Int)) (hts : offs.toList.map (fun o => (pc : Int) + o) = tgts.map (fun t : Nat => (t : Int))) (hlen : (tgts.length : Int) = hi - lo + 1)
    (k1 : ∀ j : Nat, (iv x).toInt = lo + j → ∀ t, tgts[j]? = some t → Go E d kc ks Y t L st G D Q) (k2 : ((iv x).toInt < lo ∨ hi < (iv x).toInt) → Go E d kc ks Y dt L st G D Q) : Go E d kc ks Y pc L (vI x :: st) G D Q := by
  intro p e s m args below meth c H locs cells slots ls R C hh hl hL
  by_cases h : (iv x).toInt < lo ∨ hi < (iv x).toInt
  · exact lv_tableOut C.1 C.2.1 hd h hdt (k2 h p e s m args below meth c H locs cells slots ls R C hh hl hL)
  · have h1 : ¬ (iv x).toInt < lo := fun q => h (Or.inl q)
    have h2 : ¬ hi < (iv x).toInt := fun q => h (Or.inr q)
    generalize hj : ((iv x).toInt - lo).toNat = j
    have hjl : j < tgts.length := by omega
    have e1 : (offs.toList.map (fun o => (pc : Int) + o))[j]? = some ((tgts[j] : Nat) : Int) := by rw [hts]; simp [hjl]
    rw [List.getElem?_map] at e1
    cases ho : offs.toList[j]? with
    | none => rw [ho] at e1; cases e1
    | some o =>
      rw [ho] at e1
      have e2 : (pc : Int) + o = ((tgts[j] : Nat) : Int) := by simpa using e1
      exact lv_tableIn C.1 C.2.1 hd h1 h2 (off := o) (tgt := tgts[j]) (by rw [hj, ← Array.getElem?_toList]; exact ho) e2 (k1 j (by omega) _ (by simp [hjl]) p e s m args below meth c H locs cells slots ls R C hh hl hL)
/-- a switch over two keys -/
theorem g_lswitch2 {x dflt k1 o1 k2 o2 : Int} {len : Nat} (dt t1 t2 : Nat) (hd : decode Y.2.1 pc = .ok (.lookupswitch dflt #[(k1, o1), (k2, o2)], len)) (hdt : (pc : Int) + dflt = (dt : Int)) (h1 : (pc : Int) + o1 = (t1 : Int)) (h2 : (pc : Int) + o2 = (t2 : Int)) (hlt : k1 < k2)
    (g1 : (iv x).toInt = k1 → Go E d kc ks Y t1 L st G D Q) (g2 : (iv x).toInt = k2 → Go E d kc ks Y t2 L st G D Q) (g3 : ¬ (iv x).toInt = k1 → ¬ (iv x).toInt = k2 → Go E d kc ks Y dt L st G D Q) : Go E d kc ks Y pc L (vI x :: st) G D Q := by
  intro p e s m args below meth c H locs cells slots ls R C hh hl hL
  have hp : (([(k1, o1), (k2, o2)] : List (Int × Int)).zip (([(k1, o1), (k2, o2)] : List (Int × Int)).drop 1)).all (fun (a, next) => a.1 < next.1) = true := by simp [hlt]
  by_cases c1 : (iv x).toInt = k1
  · exact lv_lookup (off := o1) (tgt := t1) C.1 C.2.1 hd hp (by rw [Op.lookupswitch.offset_cons, if_pos c1.symm]) h1 (g1 c1 p e s m args below meth c H locs cells slots ls R C hh hl hL)
  · by_cases c2 : (iv x).toInt = k2
    · exact lv_lookup (off := o2) (tgt := t2) C.1 C.2.1 hd hp (by rw [Op.lookupswitch.offset_cons, if_neg (Ne.symm c1), Op.lookupswitch.offset_cons, if_pos c2.symm]) h2 (g2 c2 p e s m args below meth c H locs cells slots ls R C hh hl hL)
    · exact lv_lookup (off := dflt) (tgt := dt) C.1 C.2.1 hd hp (by rw [Op.lookupswitch.offset_cons, if_neg (Ne.symm c1), Op.lookupswitch.offset_cons, if_neg (Ne.symm c2)]; rfl) hdt (g3 c1 c2 p e s m args below meth c H locs cells slots ls R C hh hl hL)
end Rules2
def up2 (D : mmD) (c k v : Int) : mmD := fun c' k' => if c' = c ∧ k' = k then v else D c' k'
theorem up2_same {D : mmD} {c k v : Int} : up2 D c k v c k = v := by simp [up2]
theorem up2_ne {D : mmD} {c k v c' k' : Int} (h : ¬ (c' = c ∧ k' = k)) : up2 D c k v c' k' = D c' k' := by simp [up2, h]
theorem mm_ad_2 {E : mmE} {k : Int} (h : 2 ≤ k) : mm_ad E k = E.2.2.1 + (k - 2).toNat := by
  unfold mm_ad
  rw [if_neg (by omega)]
theorem mm_sh_ref {E : mmE} {k : Int} (h : 2 ≤ k) : mm_sh E (vR k) = .ref (E.2.2.1 + (k - 2).toNat) := by
  simp only [mm_sh]
  rw [if_neg (by omega), mm_ad_2 h]
theorem mm_cell.kept {E : mmE} {G G' : mmG} {D D' : mmD} {H H' : Heap} {k : Int} (h : mm_cell E G D H k) (hk : G'.2.1 k = G.2.1 k) (hv : ∀ j : Nat, mm_val E G' D' k j = mm_val E G D k j) (ho : H'[mm_ad E k]? = H[mm_ad E k]?) : mm_cell E G' D' H' k := by
  unfold mm_cell at h ⊢
  rw [hk, show mm_val E G' D' k = mm_val E G D k from funext hv]
  split at h
  · rename_i hlt
    rw [if_pos hlt]
    obtain ⟨r, h1, h2⟩ := h
    exact ⟨r, h1, h2.kept ho⟩
  · rename_i hlt
    rw [if_neg hlt, ho]
    exact h
theorem mm_hold.set {E : mmE} {s : State} {G G' : mmG} {D D' : mmD} {H H' : Heap} {a : Int} (hh : mm_hold E s G D H) (ha : 2 ≤ a) (ha2 : a < G.1) (hn : G'.1 = G.1) (hkd : ∀ k, G'.2.1 k = G.2.1 k) (hv : ∀ k, k ≠ a → ∀ j : Nat, mm_val E G' D' k j = mm_val E G D k j) (z : H'.size = H.size)
    (o : ∀ q, q ≠ mm_ad E a → H'[q]? = H[q]?) (hc : mm_cell E G' D' H' a) : mm_hold E s G' D' H' := by
  obtain ⟨h1, h2, h3, h4, h5⟩ := hh
  refine ⟨h1.kept (o _ ?_), h2, by rw [hn]; exact h3, by rw [hn, z]; exact h4, fun k k2 kn => ?_⟩
  · rw [mm_ad_2 ha]; omega
  · by_cases hka : k = a
    · rw [hka]; exact hc
    · refine (h5 k k2 (by rw [hn] at kn; exact kn)).kept (hkd k) (hv k hka) (o _ ?_)
      rw [mm_ad_2 k2, mm_ad_2 ha]
      omega
theorem mm_val_k {E : mmE} {G G' : mmG} {D D' : mmD} {k : Int} (hk : (G'.2.1 k).1 = (G.2.1 k).1) (h1 : ∀ j : Int, G'.2.2 k j = G.2.2 k j) (h2 : ∀ j : Int, D' k j = D k j) (j : Nat) : mm_val E G' D' k j = mm_val E G D k j := by
  unfold mm_val
  rw [hk, h1, h2]
theorem mm_arr {E : mmE} {s : State} {G : mmG} {D : mmD} {H : Heap} {a n : Int} {kd : Nat} (hh : mm_hold E s G D H) (ha : 2 ≤ a) (ha2 : a < G.1) (hk : G.2.1 a = (kd, n)) (hkd : 12 ≤ kd) : H[mm_ad E a]? = some (arrV (E.2.2.2.2.2.2 kd) n.toNat (mm_val E G D a)) := by
  have h := hh.2.2.2.2 a ha ha2
  unfold mm_cell at h
  rw [hk] at h
  rw [if_neg (by simp; omega)] at h
  exact h
theorem mm_in {i n : Int} (hi : 0 ≤ i) (hin : i < n) (hn : n < 2147483648) : (iv i).toNatClampNeg = i.toNat ∧ ¬ (iv i < 0 ∨ n.toNat ≤ (iv i).toNatClampNeg) := by
  have e : (iv i).toInt = i := iv_toInt (by omega) (by omega)
  have hc : (iv i).toNatClampNeg = i.toNat := by
    show (iv i).toInt.toNat = i.toNat
    rw [e]
  refine ⟨hc, fun h => ?_⟩
  rcases h with h | h
  · rw [Int32.lt_iff_toInt_lt, e] at h
    have h0 : (0 : Int32).toInt = 0 := by decide
    omega
  · rw [hc] at h; omega
section Rules3
variable {E : mmE} {d kc ks : Nat} {Y : mmM} {pc : Nat} {L : List (Option mmV)} {st : List mmV} {G : mmG} {D : mmD} {Q : mmQ}
theorem g_iald {a i n : Int} (hd : decode Y.2.1 pc = .ok (.iaload, 1)) (hk : G.2.1 a = (12, n)) (ha : 2 ≤ a) (ha2 : a < G.1) (hn : n < 2147483648) (k : (0 ≤ i ∧ i < n) ∧ Go E d kc ks Y (pc + 1) L (vI (D a i) :: st) G D Q) : Go E d kc ks Y pc L (vI i :: vR a :: st) G D Q := by
  intro p e s m args below meth c H locs cells slots ls R C hh hl hL
  obtain ⟨⟨hi, hin⟩, k⟩ := k
  have hcell := mm_arr hh ha ha2 hk (by omega)
  obtain ⟨e1, e2⟩ := mm_in hi hin hn
  rw [List.map_cons, List.map_cons, mm_sh_ref ha, ← mm_ad_2 ha]
  refine W.iald (v := .int (iv (D a i))) C.1 C.2.1 hcell ((C.2.2.2.2.2.2.2.2.1.2.1 12 (by omega) (by omega)).1 _ _) (fun q => by cases q) (by rw [arrV_size]; exact e2) ?_ rfl rfl hd (k p e s m args below meth c H locs cells slots ls R C hh hl hL)
  rw [e1, arrV_read _ _ (by omega)]
  have e3 : ((i.toNat : Nat) : Int) = i := Int.toNat_of_nonneg hi
  simp only [mm_val, hk, mm_isR, e3]
  rfl
theorem g_bald {a i n : Int} (hd : decode Y.2.1 pc = .ok (.baload, 1)) (hk : G.2.1 a = (13, n)) (ha : 2 ≤ a) (ha2 : a < G.1) (hn : n < 2147483648) (k : (0 ≤ i ∧ i < n) ∧ Go E d kc ks Y (pc + 1) L (vI (D a i) :: st) G D Q) : Go E d kc ks Y pc L (vI i :: vR a :: st) G D Q := by
  intro p e s m args below meth c H locs cells slots ls R C hh hl hL
  obtain ⟨⟨hi, hin⟩, k⟩ := k
  have hcell := mm_arr hh ha ha2 hk (by omega)
  obtain ⟨e1, e2⟩ := mm_in hi hin hn
  rw [List.map_cons, List.map_cons, mm_sh_ref ha, ← mm_ad_2 ha]
  refine W.zald (v := .int (iv (D a i))) C.1 C.2.1 hcell ((C.2.2.2.2.2.2.2.2.1.2.1 13 (by omega) (by omega)).1 _ _) (fun q => by cases q) (by rw [arrV_size]; exact e2) ?_ rfl rfl hd (k p e s m args below meth c H locs cells slots ls R C hh hl hL)
  rw [e1, arrV_read _ _ (by omega)]
  have e3 : ((i.toNat : Nat) : Int) = i := Int.toNat_of_nonneg hi
  simp only [mm_val, hk, mm_isR, e3]
  rfl
theorem g_aald {a i n : Int} {kd : Nat} (hd : decode Y.2.1 pc = .ok (.aaload, 1)) (hkd : 14 ≤ kd) (hkd2 : kd ≤ 16) (hk : G.2.1 a = (kd, n)) (ha : 2 ≤ a) (ha2 : a < G.1) (hn : n < 2147483648) (k : (0 ≤ i ∧ i < n) ∧ Go E d kc ks Y (pc + 1) L (vR (G.2.2 a i) :: st) G D Q) : Go E d kc ks Y pc L (vI i :: vR a :: st) G D Q := by
  intro p e s m args below meth c H locs cells slots ls R C hh hl hL
  obtain ⟨⟨hi, hin⟩, k⟩ := k
  have hcell := mm_arr hh ha ha2 hk (by omega)
  obtain ⟨e1, e2⟩ := mm_in hi hin hn
  rw [List.map_cons, List.map_cons, mm_sh_ref ha, ← mm_ad_2 ha]
  refine W.aald (v := mm_sh E (vR (G.2.2 a i))) C.1 C.2.1 hcell ((C.2.2.2.2.2.2.2.2.1.2.1 kd (by omega) (by omega)).1 _ _) (by rcases (show kd = 14 ∨ kd = 15 ∨ kd = 16 by omega) with rfl | rfl | rfl <;> rfl) (fun q => by cases q) (by rw [arrV_size]; exact e2) ?_ rfl rfl hd (k p e s m args below meth c H locs cells slots ls R C hh hl hL)
  rw [e1, arrV_read _ _ (by omega)]
  have e3 : ((i.toNat : Nat) : Int) = i := Int.toNat_of_nonneg hi
  have e4 : mm_isR kd i.toNat = true := by rcases (show kd = 14 ∨ kd = 15 ∨ kd = 16 by omega) with rfl | rfl | rfl <;> rfl
  simp only [mm_val, hk, e3, e4, if_true]
theorem g_alen {a n : Int} {kd : Nat} (hd : decode Y.2.1 pc = .ok (.arraylength, 1)) (hkd : 12 ≤ kd) (hkd2 : kd ≤ 16) (hk : G.2.1 a = (kd, n)) (ha : 2 ≤ a) (ha2 : a < G.1) (hn : n < 2147483648) (hn0 : 0 ≤ n) (k : Go E d kc ks Y (pc + 1) L (vI n :: st) G D Q) : Go E d kc ks Y pc L (vR a :: st) G D Q := by
  intro p e s m args below meth c H locs cells slots ls R C hh hl hL
  have hcell := mm_arr hh ha ha2 hk (by omega)
  rw [List.map_cons, mm_sh_ref ha, ← mm_ad_2 ha]
  refine W.alen (n := iv n) C.1 C.2.1 hcell ((C.2.2.2.2.2.2.2.2.1.2.1 kd (by omega) (by omega)).1 _ _) ?_ rfl rfl hd (k p e s m args below meth c H locs cells slots ls R C hh hl hL)
  rw [arrV_size]
  show Int32.ofNat n.toNat = iv n
  rw [show iv n = iv ((n.toNat : Nat) : Int) by rw [Int.toNat_of_nonneg hn0]]
  exact (Int32.ofInt_eq_ofNat).symm
theorem g_slen (hd : decode Y.2.1 pc = .ok (.arraylength, 1)) (k : Go E d kc ks Y (pc + 1) L (vI E.2.2.2.1 :: st) G D Q) : Go E d kc ks Y pc L (vR 1 :: st) G D Q := by
  intro p e s m args below meth c H locs cells slots ls R C hh hl hL
  obtain ⟨scr, h1, h2, h3, h4, h5⟩ := hh.1
  refine W.alen (n := iv E.2.2.2.1) C.1 C.2.1 h1 h2 ?_ rfl rfl hd (k p e s m args below meth c H locs cells slots ls R C hh hl hL)
  rw [h4]
  exact (Int32.ofInt_eq_ofNat).symm
theorem g_sald {i : Int} (hd : decode Y.2.1 pc = .ok (.iaload, 1)) (hL2 : (E.2.2.2.1 : Int) < 2147483648) (k : (0 ≤ i ∧ i < (E.2.2.2.1 : Int)) ∧ Go E d kc ks Y (pc + 1) L (vI (E.2.2.2.2.1 i.toNat).toInt :: st) G D Q) : Go E d kc ks Y pc L (vI i :: vR 1 :: st) G D Q := by
  intro p e s m args below meth c H locs cells slots ls R C hh hl hL
  obtain ⟨⟨hi, hin⟩, k⟩ := k
  obtain ⟨scr, h1, h2, h3, h4, h5⟩ := hh.1
  obtain ⟨e1, e2⟩ := mm_in hi hin hL2
  refine W.iald (v := .int (E.2.2.2.2.1 i.toNat)) C.1 C.2.1 h1 h2 h3 (by rw [h4]; exact e2) (by rw [e1]; exact h5 _ (by omega)) rfl rfl hd ?_
  have := k p e s m args below meth c H locs cells slots ls R C hh hl hL
  rw [List.map_cons] at this
  simp only [mm_sh, Int32.ofInt_toInt] at this
  exact this
theorem g_iast {a i x n : Int} (hd : decode Y.2.1 pc = .ok (.iastore, 1)) (hk : G.2.1 a = (12, n)) (ha : 2 ≤ a) (ha2 : a < G.1) (hn : n < 2147483648) (k : (0 ≤ i ∧ i < n) ∧ Go E d kc ks Y (pc + 1) L st G (up2 D a i x) Q) : Go E d kc ks Y pc L (vI x :: vI i :: vR a :: st) G D Q := by
  intro p e s m args below meth c H locs cells slots ls R C hh hl hL
  obtain ⟨⟨hi, hin⟩, k⟩ := k
  have hcell := mm_arr hh ha ha2 hk (by omega)
  obtain ⟨e1, e2⟩ := mm_in hi hin hn
  rw [List.map_cons, List.map_cons, List.map_cons, mm_sh_ref ha, ← mm_ad_2 ha]
  refine W.iast (x := iv x) C.1 C.2.1 hcell ((C.2.2.2.2.2.2.2.2.1.2.1 12 (by omega) (by omega)).1 _ _) (fun q => by cases q) (by rw [arrV_size]; exact e2) rfl rfl hd (fun H1 f1 f2 f3 => ?_)
  refine k p e s m args below meth c H1 _ cells slots ls R C (hh.set ha ha2 rfl (fun _ => rfl) (fun k hka => mm_val_k rfl (fun _ => rfl) (fun j => up2_ne (fun h => hka h.1))) f2 f3 ?_) ?_ hL
  · unfold mm_cell
    rw [hk, if_neg (by simp), f1, e1, arrV_store]
    congr 2
    funext j
    unfold updV
    by_cases hj : j = i.toNat
    · rw [if_pos hj]
      have e3 : ((j : Nat) : Int) = i := by omega
      simp only [mm_val, hk, mm_isR, e3]
      simp [up2, mm_sh]
    · rw [if_neg hj]
      exact (mm_val_k (G' := G) rfl (fun _ => rfl) (fun _ => rfl) j).trans (by unfold mm_val; rw [up2_ne (fun h => hj (by omega))])
  · intro q hq
    rcases List.mem_append.mp hq with h | h
    · exact hl q h
    · rw [List.mem_singleton.mp h]
      show E.2.2.1 ≤ mm_ad E a
      rw [mm_ad_2 ha]; omega
theorem g_bast {a i x n : Int} (hd : decode Y.2.1 pc = .ok (.bastore, 1)) (hk : G.2.1 a = (13, n)) (ha : 2 ≤ a) (ha2 : a < G.1) (hn : n < 2147483648) (k : (0 ≤ i ∧ i < n) ∧ (x = 0 ∨ x = 1) ∧ Go E d kc ks Y (pc + 1) L st G (up2 D a i x) Q) : Go E d kc ks Y pc L (vI x :: vI i :: vR a :: st) G D Q := by
  intro p e s m args below meth c H locs cells slots ls R C hh hl hL
  obtain ⟨⟨hi, hin⟩, hx, k⟩ := k
  have hcell := mm_arr hh ha ha2 hk (by omega)
  obtain ⟨e1, e2⟩ := mm_in hi hin hn
  rw [List.map_cons, List.map_cons, List.map_cons, mm_sh_ref ha, ← mm_ad_2 ha]
  refine W.zast (x := iv x) C.1 C.2.1 hcell ((C.2.2.2.2.2.2.2.2.1.2.1 13 (by omega) (by omega)).1 _ _) (fun q => by cases q) (by rw [arrV_size]; exact e2) rfl rfl hd (fun H1 f1 f2 f3 => ?_)
  have hnx : narrow .boolean (.int (iv x)) = .int (iv x) := by rcases hx with rfl | rfl <;> decide +kernel
  rw [hnx] at f1
  refine k p e s m args below meth c H1 _ cells slots ls R C (hh.set ha ha2 rfl (fun _ => rfl) (fun k hka => mm_val_k rfl (fun _ => rfl) (fun j => up2_ne (fun h => hka h.1))) f2 f3 ?_) ?_ hL
  · unfold mm_cell
    rw [hk, if_neg (by simp), f1, e1, arrV_store]
    congr 2
    funext j
    unfold updV
    by_cases hj : j = i.toNat
    · rw [if_pos hj]
      have e3 : ((j : Nat) : Int) = i := by omega
      simp only [mm_val, hk, mm_isR, e3]
      simp [up2, mm_sh]
    · rw [if_neg hj]
      exact (mm_val_k (G' := G) rfl (fun _ => rfl) (fun _ => rfl) j).trans (by unfold mm_val; rw [up2_ne (fun h => hj (by omega))])
  · intro q hq
    rcases List.mem_append.mp hq with h | h
    · exact hl q h
    · rw [List.mem_singleton.mp h]
      show E.2.2.1 ≤ mm_ad E a
      rw [mm_ad_2 ha]; omega
end Rules3
end
section
theorem mm_clw : ∀ (ci : Nat) (r : vw_C), vwCl[ci]? = some r → ∀ w ∈ u_ws r.1 r.2.1 r.2.2, w ∈ mm_tbl := by
  intro ci r h
  match ci, h with
  | 0, h => cases h; decide +kernel
  | 1, h => cases h; decide +kernel
  | 2, h => cases h; decide +kernel
  | 3, h => cases h; decide +kernel
  | 4, h => cases h; decide +kernel
  | 5, h => cases h; decide +kernel
  | 6, h => cases h; decide +kernel
  | 7, h => cases h; decide +kernel
  | 8, h => cases h; decide +kernel
  | 9, h => cases h; decide +kernel
  | 10, h => cases h; decide +kernel
  | 11, h => cases h; decide +kernel
  | n + 12, h => simp at h
theorem mm_clt : ∀ (ci : Nat) (r : vw_C), vwCl[ci]? = some r → ∀ k, k < r.2.2 → parseFieldDescriptor (r.2.1 k).2.2.1 = some (mm_ty ci k) := by
  intro ci r h
  match ci, h with
  | 0, h => cases h; exact tyX0_ok
  | 1, h => cases h; exact tyX1_ok
  | 2, h => cases h; exact tyX3_ok
  | 3, h => cases h; exact tyX4_ok
  | 4, h => cases h; exact tyX5_ok
  | 5, h => cases h; exact tyX6_ok
  | 6, h => cases h; exact tyX7_ok
  | 7, h => cases h; exact tyX8_ok
  | 8, h => cases h; exact tyX9_ok
  | 9, h => cases h; exact tyX10_ok
  | 10, h => cases h; exact tyX11_ok
  | 11, h => cases h; exact tyX12_ok
  | n + 12, h => simp at h
theorem mm_cln : ∀ (ci : Nat) (r : vw_C), vwCl[ci]? = some r → ∀ a, a < r.2.2 → ∀ b, b < r.2.2 → a ≠ b → (r.2.1 a).2.1 ≠ (r.2.1 b).2.1 := by
  intro ci r h
  match ci, h with
  | 0, h => cases h; exact nmX0
  | 1, h => cases h; exact nmX1
  | 2, h => cases h; exact nmX3
  | 3, h => cases h; exact nmX4
  | 4, h => cases h; exact nmX5
  | 5, h => cases h; exact nmX6
  | 6, h => cases h; exact nmX7
  | 7, h => cases h; exact nmX8
  | 8, h => cases h; exact nmX9
  | 9, h => cases h; exact nmX10
  | 10, h => cases h; exact nmX11
  | 11, h => cases h; exact nmX12
  | n + 12, h => simp at h
/-- field number k of kind ci, by the pool's number idx of the code's own file -/
def mm_fok (own : String) (idx ci k : Nat) : Prop := ∃ (r : vw_C) (ref : String), vwCl[ci]? = some r ∧ k < r.2.2 ∧ Cond.fieldLink own idx ref (r.2.1 k).2.1 (r.2.1 k).2.2.1 ∈ mm_tbl ∧ (ref = (r.2.1 k).1 ∨ Cond.sameField ref (r.2.1 k).1 (r.2.1 k).2.1 (r.2.1 k).2.2.1 ∈ mm_tbl)
def mm_fin (ci k : Nat) (b : Bool) : Prop := ∀ r : vw_C, vwCl[ci]? = some r → (r.2.1 k).2.2.2 = b
theorem mm_obj {E : mmE} {s : State} {G : mmG} {D : mmD} {H : Heap} {a : Int} (hh : mm_hold E s G D H) (ha : 2 ≤ a) (ha2 : a < G.1) {ci : Nat} (hk : (G.2.1 a).1 = ci) (hkd : ci < 12) : ∃ r : vw_C, vwCl[ci]? = some r ∧ t_OB (mm_ad E a) (E.2.2.2.2.2.1.1 ci) r.2.2 (E.2.2.2.2.2.1.2 ci) H (mm_val E G D a) := by
  have h := hh.2.2.2.2 a ha ha2
  unfold mm_cell at h
  rw [hk, if_pos hkd] at h
  exact h
section Rules4
variable {E : mmE} {d kc ks : Nat} {Y : mmM} {pc : Nat} {L : List (Option mmV)} {st : List mmV} {G : mmG} {D : mmD} {Q : mmQ}
theorem g_getV {a : Int} {idx ci k : Nat} {v : mmV} (hd : decode Y.2.1 pc = .ok (.getfield idx, 3)) (hk : (G.2.1 a).1 = ci) (hci : ci < 12) (ha : 2 ≤ a) (ha2 : a < G.1) (hf : mm_fok Y.1.cls idx ci k) (hv : (if mm_isR ci k = true then vR (G.2.2 a k) else vI (D a k)) = v) (kk : Go E d kc ks Y (pc + 3) L (v :: st) G D Q) : Go E d kc ks Y pc L (vR a :: st) G D Q := by
  intro p e s m args below meth c H locs cells slots ls R C hh hl hL
  obtain ⟨r, hr, cell, q1, q2, q3, q4⟩ := mm_obj hh ha ha2 hk hci
  obtain ⟨r', ref, hr', hkr, hlink, hsame⟩ := hf
  cases hr.symm.trans hr'
  rw [List.map_cons, mm_sh_ref ha, ← mm_ad_2 ha]
  obtain ⟨hS, hfc, kC, hkC, hkind⟩ := C.2.2.2.2.2.2.2.2.1.1.1 ci _ hr
  obtain ⟨cf, kf, fi, f, hi, hsl⟩ := hS k hkr
  have hts := C.2.2.2.2.2.2.2.1
  refine W.getf (v := mm_sh E v) C.1 C.2.1 C.2.2.2.2.2.1 (hts _ hlink) (cf := cf) (i := fi) (k := kf) (f := f) ?_ (u_facts hfc hkC (u_lays hts (mm_clw ci r hr) hkr) hi).1 q1 (by rw [q3]; exact fun h => by cases h) ?_ rfl rfl hd (kk p e s m args below meth c H locs cells slots ls R C hh hl hL)
  · rcases hsame with h | h
    · rw [h]; exact hi
    · exact u_same (hts _ h) _ hi
  · rw [hsl, q4 k hkr, ← hv]
    unfold mm_val
    rw [hk]
theorem g_getI {a j : Int} {idx ci k : Nat} (hd : decode Y.2.1 pc = .ok (.getfield idx, 3)) (hf : mm_fok Y.1.cls idx ci k) (hR : mm_isR ci k = false) (hj : (k : Int) = j) (hci : ci < 12) (hk : (G.2.1 a).1 = ci) (ha : 2 ≤ a) (ha2 : a < G.1) (kk : Go E d kc ks Y (pc + 3) L (vI (D a j) :: st) G D Q) : Go E d kc ks Y pc L (vR a :: st) G D Q :=
  g_getV hd hk hci ha ha2 hf (by rw [hR, ← hj]; rfl) kk
theorem g_getR {a j : Int} {idx ci k : Nat} (hd : decode Y.2.1 pc = .ok (.getfield idx, 3)) (hf : mm_fok Y.1.cls idx ci k) (hR : mm_isR ci k = true) (hj : (k : Int) = j) (hci : ci < 12) (hk : (G.2.1 a).1 = ci) (ha : 2 ≤ a) (ha2 : a < G.1) (kk : Go E d kc ks Y (pc + 3) L (vR (G.2.2 a j) :: st) G D Q) : Go E d kc ks Y pc L (vR a :: st) G D Q :=
  g_getV hd hk hci ha ha2 hf (by rw [hR, ← hj]; rfl) kk
/-- a field is set: the memory behind it is G', D' -/
theorem g_putV {a : Int} {idx ci k : Nat} {v : mmV} {G' : mmG} {D' : mmD} (hd : decode Y.2.1 pc = .ok (.putfield idx, 3)) (hk : (G.2.1 a).1 = ci) (hci : ci < 12) (ha : 2 ≤ a) (ha2 : a < G.1) (hf : mm_fok Y.1.cls idx ci k) (hfin : mm_fin ci k false ∨ (Y.1.name = "<init>" ∧ mm_fin ci k true ∧ ∀ r : vw_C, vwCl[ci]? = some r → (r.2.1 k).1 = Y.1.cls))
    (hn : narrow (mm_ty ci k) (mm_sh E v) = mm_sh E v) (hfit : fits (mm_ty ci k) (mm_sh E v) = true) (hG1 : G'.1 = G.1) (hG2 : ∀ x, G'.2.1 x = G.2.1 x) (hG3 : ∀ x, x ≠ a → ∀ j, G'.2.2 x j = G.2.2 x j) (hD3 : ∀ x, x ≠ a → ∀ j, D' x j = D x j) (hnew : mm_val E G' D' a k = mm_sh E v) (hold : ∀ j : Nat, j ≠ k → mm_val E G' D' a j = mm_val E G D a j)
    (kk : Go E d kc ks Y (pc + 3) L st G' D' Q) : Go E d kc ks Y pc L (v :: vR a :: st) G D Q := by
  intro p e s m args below meth c H locs cells slots ls R C hh hl hL
  obtain ⟨r, hr, cell, q1, q2, q3, q4⟩ := mm_obj hh ha ha2 hk hci
  obtain ⟨r', ref, hr', hkr, hlink, hsame⟩ := hf
  cases hr.symm.trans hr'
  rw [List.map_cons, List.map_cons, mm_sh_ref ha, ← mm_ad_2 ha]
  obtain ⟨hS, hfc, kC, hkC, hkind⟩ := C.2.2.2.2.2.2.2.2.1.1.1 ci _ hr
  obtain ⟨cf, kf, fi, f, hi, hsl⟩ := hS k hkr
  have hts := C.2.2.2.2.2.2.2.1
  have hin := mm_clw ci r hr
  have hap : ∀ x y, x < r.2.2 → y < r.2.2 → x ≠ y → (E.2.2.2.2.2.1.2 ci) x ≠ (E.2.2.2.2.2.1.2 ci) y := va_apart (own := Y.1.cls) hts hin (mm_ty ci) (mm_clt ci r hr) (mm_cln ci r hr) C.2.2.2.2.2.2.2.2.1.1 hr
  have hst := (u_facts hfc hkC (u_lays hts hin hkr) hi).1
  have hi' : s.fieldFound? ref (r.2.1 k).2.1 (r.2.1 k).2.2.1 = some (cf, kf, fi, f) := by
    rcases hsame with h | h
    · rw [h]; exact hi
    · exact u_same (hts _ h) _ hi
  have h6 := u_fits hfc hkC hkind (u_lays hts hin hkr) hi (mm_clt ci r hr k hkr) hn hfit
  have hfl : hasFlag f.accessFlags Acc.final = false ∨ (m.cls = cf ∧ meth.name = "<init>") := by
    rcases hfin with h | ⟨h1, h3, h2⟩
    · left
      have hlay := hts _ (hin _ (u_in_lay hkr))
      unfold u_lay at hlay
      rw [if_neg (by rw [h r hr]; decide)] at hlay
      exact (u_store hfc hkC hkind hlay hi (mm_clt ci r hr k hkr) hn hfit).1
    · right
      refine ⟨?_, by rw [C.2.2.2.2.2.2.1]; exact h1⟩
      have hlay := hts _ (hin _ (u_in_lay hkr))
      unfold u_lay at hlay
      rw [if_pos (h3 r hr)] at hlay
      obtain ⟨_, _, c', _, _, _, -, -, hf', -, -, -, hown2, -⟩ := Cond.laysFinal_spec hlay
      have e1 : c' = cf := by have := hi.symm.trans hf'; simp at this; exact this.1.symm
      rw [h2 r hr] at hown2
      rw [← e1]; exact Option.some.inj (C.2.2.2.2.2.1.symm.trans hown2)
  have hlt : mm_ad E a < H.size := (Array.getElem?_eq_some_iff.mp q1).1
  refine W.putf C.1 C.2.1 C.2.2.2.2.2.1 (hts _ hlink) hi' hst hfl q1 (by rw [q3]; exact fun h => by cases h) (by rw [hsl]; exact k2_hasslot (q4 k hkr)) h6.1 (by rw [q2, q3]; exact h6.2) rfl rfl hd ?_
  have f1 : (H.setIfInBounds (mm_ad E a) (cell.setSlot f.slot (mm_sh E v)))[mm_ad E a]? = some (cell.setSlot f.slot (mm_sh E v)) := by simp [Array.getElem?_setIfInBounds, hlt]
  refine kk p e s m args below meth c _ _ cells slots ls R C (hh.set ha ha2 hG1 hG2 (fun x hxa => mm_val_k (by rw [hG2]) (hG3 x hxa) (hD3 x hxa)) (by simp) (fun q hq => by simp [Array.getElem?_setIfInBounds, Ne.symm hq]) ?_) ?_ hL
  · unfold mm_cell
    rw [hG2, hk, if_pos hci]
    refine ⟨r, hr, t_OB.to (V := updV (mm_val E G D a) k (mm_sh E v)) ⟨_, f1, q2, q3, ?_⟩ (fun j _ => ?_)⟩
    · rw [hsl]; exact t_set q4 hap hkr _
    · unfold updV
      by_cases hjk : j = k
      · rw [if_pos hjk, hjk, hnew]
      · rw [if_neg hjk, hold j hjk]
  · intro q hq
    rcases List.mem_append.mp hq with h | h
    · exact hl q h
    · rw [List.mem_singleton.mp h]
      show E.2.2.1 ≤ mm_ad E a
      rw [mm_ad_2 ha]; omega
theorem g_putI {a j x : Int} {idx ci k : Nat} (hd : decode Y.2.1 pc = .ok (.putfield idx, 3)) (hf : mm_fok Y.1.cls idx ci k) (hfin : mm_fin ci k false ∨ (Y.1.name = "<init>" ∧ mm_fin ci k true ∧ ∀ r : vw_C, vwCl[ci]? = some r → (r.2.1 k).1 = Y.1.cls)) (hty : mm_ty ci k = .int) (hj : (k : Int) = j) (hci : ci < 12) (hk : (G.2.1 a).1 = ci) (ha : 2 ≤ a) (ha2 : a < G.1)
    (kk : Go E d kc ks Y (pc + 3) L st G (up2 D a j x) Q) : Go E d kc ks Y pc L (vI x :: vR a :: st) G D Q := by
  have hR : mm_isR ci k = false := by simp [mm_isR, hci, hty]
  subst hj
  refine g_putV (G' := G) (D' := up2 D a k x) hd hk hci ha ha2 hf hfin (by rw [hty]; rfl) (by rw [hty]; rfl) rfl (fun _ => rfl) (fun _ _ _ => rfl) (fun y hy j => up2_ne (fun h => hy h.1)) ?_ (fun j hjk => ?_) kk
  · unfold mm_val
    rw [hk, hR]
    simp [up2]
  · unfold mm_val
    have h9 : up2 D a k x a (j : Int) = D a j := up2_ne (fun h => hjk (by omega))
    rw [h9]
theorem g_putZ {a j x : Int} {idx ci k : Nat} (hd : decode Y.2.1 pc = .ok (.putfield idx, 3)) (hf : mm_fok Y.1.cls idx ci k) (hfin : mm_fin ci k false ∨ (Y.1.name = "<init>" ∧ mm_fin ci k true ∧ ∀ r : vw_C, vwCl[ci]? = some r → (r.2.1 k).1 = Y.1.cls)) (hty : mm_ty ci k = .boolean) (hj : (k : Int) = j) (hci : ci < 12) (hk : (G.2.1 a).1 = ci) (ha : 2 ≤ a) (ha2 : a < G.1)
    (kk : (x = 0 ∨ x = 1) ∧ Go E d kc ks Y (pc + 3) L st G (up2 D a j x) Q) : Go E d kc ks Y pc L (vI x :: vR a :: st) G D Q := by
  have hR : mm_isR ci k = false := by simp [mm_isR, hci, hty]
  subst hj
  obtain ⟨hx, kk⟩ := kk
  refine g_putV (G' := G) (D' := up2 D a k x) hd hk hci ha ha2 hf hfin ?_ ?_ rfl (fun _ => rfl) (fun _ _ _ => rfl) (fun y hy j => up2_ne (fun h => hy h.1)) ?_ (fun j hjk => ?_) kk
  · rw [hty]; rcases hx with rfl | rfl <;> rfl
  · rw [hty]; rcases hx with rfl | rfl <;> rfl
  · unfold mm_val
    rw [hk, hR]
    simp [up2]
  · unfold mm_val
    have h9 : up2 D a k x a (j : Int) = D a j := up2_ne (fun h => hjk (by omega))
    rw [h9]
theorem g_putR {a j x : Int} {idx ci k : Nat} (hd : decode Y.2.1 pc = .ok (.putfield idx, 3)) (hf : mm_fok Y.1.cls idx ci k) (hfin : mm_fin ci k false ∨ (Y.1.name = "<init>" ∧ mm_fin ci k true ∧ ∀ r : vw_C, vwCl[ci]? = some r → (r.2.1 k).1 = Y.1.cls)) (hty : (∃ n, mm_ty ci k = .object n) ∨ ∃ t, mm_ty ci k = .array t) (hj : (k : Int) = j) (hci : ci < 12) (hk : (G.2.1 a).1 = ci) (ha : 2 ≤ a) (ha2 : a < G.1)
    (kk : Go E d kc ks Y (pc + 3) L st (G.1, G.2.1, up2 G.2.2 a j x) D Q) : Go E d kc ks Y pc L (vR x :: vR a :: st) G D Q := by
  have hR : mm_isR ci k = true := by rcases hty with ⟨n, h⟩ | ⟨n, h⟩ <;> simp [mm_isR, hci, h]
  subst hj
  refine g_putV (G' := (G.1, G.2.1, up2 G.2.2 a k x)) (D' := D) hd hk hci ha ha2 hf hfin ?_ ?_ rfl (fun _ => rfl) (fun y hy j => up2_ne (fun h => hy h.1)) (fun _ _ _ => rfl) ?_ (fun j hjk => ?_) kk
  · rcases hty with ⟨n, h⟩ | ⟨n, h⟩ <;> rw [h] <;> by_cases hx : x = 0 <;> simp [mm_sh, hx, narrow]
  · rcases hty with ⟨n, h⟩ | ⟨n, h⟩ <;> rw [h] <;> by_cases hx : x = 0 <;> simp [mm_sh, hx, fits]
  · unfold mm_val
    simp only [hk, hR, if_true]
    simp [up2]
  · unfold mm_val
    simp only
    rw [up2_ne (fun h => hjk (by omega))]
end Rules4
end
section
def mm_push (G : mmG) (kd : Nat) (n : Int) : mmG := (G.1 + 1, (fun x => if x = G.1 then (kd, n) else G.2.1 x), (fun c k => if c = G.1 then 0 else G.2.2 c k))
def mm_zero (D : mmD) (a : Int) : mmD := fun c k => if c = a then 0 else D c k
theorem mm_hold.push {E : mmE} {s : State} {G : mmG} {D : mmD} {H H1 : Heap} {kd : Nat} {n : Int} (hh : mm_hold E s G D H) (z : H1.size = H.size + 1) (o : ∀ q, q < H.size → H1[q]? = H[q]?) (hc : mm_cell E (mm_push G kd n) (mm_zero D G.1) H1 G.1) : mm_hold E s (mm_push G kd n) (mm_zero D G.1) H1 := by
  obtain ⟨h1, h2, h3, h4, h5⟩ := hh
  refine ⟨h1.kept (o _ ?_), h2, ?_, ?_, fun k k2 kn => ?_⟩
  · omega
  · show 2 ≤ G.1 + 1; omega
  · show (H1.size : Int) = E.2.2.1 + (G.1 + 1) - 2
    rw [z]; omega
  · by_cases hk : k = G.1
    · rw [hk]; exact hc
    · have kn' : k < G.1 + 1 := kn
      refine (h5 k k2 (by omega)).kept ?_ (mm_val_k ?_ (fun j => ?_) (fun j => ?_)) (o _ ?_)
      · simp [mm_push, hk]
      · simp [mm_push, hk]
      · simp [mm_push, hk]
      · simp [mm_zero, hk]
      · rw [mm_ad_2 k2]; omega
theorem mm_sz {E : mmE} {s : State} {G : mmG} {D : mmD} {H : Heap} (hh : mm_hold E s G D H) : mm_sh E (vR G.1) = .ref H.size ∧ mm_ad E G.1 = H.size := by
  obtain ⟨h1, h2, h3, h4, h5⟩ := hh
  have e : mm_ad E G.1 = H.size := by rw [mm_ad_2 h3]; omega
  exact ⟨by rw [mm_sh_ref h3, ← mm_ad_2 h3, e], e⟩
section Rules5
variable {E : mmE} {d kc ks : Nat} {Y : mmM} {pc : Nat} {L : List (Option mmV)} {st : List mmV} {G : mmG} {D : mmD} {Q : mmQ}
theorem Go.mono {d' kc' ks' : Nat} (h1 : d ≤ d') (h2 : kc ≤ kc') (h3 : ks ≤ ks') (k : Go E d kc ks Y pc L st G D Q) : Go E d' kc' ks' Y pc L st G D Q := by
  intro p e s m args below meth c H locs cells slots ls R C hh hl hL
  obtain ⟨c1, c2, c3, c4, c5, c6, c7, c8, c9, c10, c11, c12, c13⟩ := C
  exact k p e s m args below meth c H locs cells slots ls R ⟨c1, c2, c3, c4, c5, c6, c7, c8, c9, by omega, by omega, by omega, by omega⟩ hh hl hL
theorem Go.to {Q' : mmQ} (h : ∀ r G D, Q r G D → Q' r G D) (k : Go E d kc ks Y pc L st G D Q) : Go E d kc ks Y pc L st G D Q' := by
  intro p e s m args below meth c H locs cells slots ls R C hh hl hL T hT X
  obtain ⟨t, a, o, b1, b2, ⟨r, G2, D2, b3, b4, b5⟩, b6⟩ := k p e s m args below meth c H locs cells slots ls R C hh hl hL T hT X
  exact ⟨t, a, o, b1, b2, ⟨r, G2, D2, b3, h _ _ _ b4, b5⟩, b6⟩
/-- the class of kind ci is made -/
abbrev mm_nok (own : String) (idx ci : Nat) (C : String) (N : Nat) : Prop := (vwCl[ci]?).map (fun r => (r.1, r.2.2)) = some (C, N) ∧ Cond.classLink own idx C ∈ mm_tbl ∧ Cond.instantiable C N ∈ mm_tbl ∧ Cond.initialized C ∈ mm_tbl
theorem mm_dflt (E : mmE) (ci k : Nat) (hci : ci < 12) (r : vw_C) (hr : vwCl[ci]? = some r) (hk : k < r.2.2) : defaultValue (mm_ty ci k) = mm_sh E (if mm_isR ci k = true then vR 0 else vI 0) := by
  have h0 : (mm_ty ci k = .int ∨ mm_ty ci k = .boolean) ∨ ((∃ n, mm_ty ci k = .object n) ∨ ∃ t, mm_ty ci k = .array t) := by
    have key : ∀ ci, ci < 12 → ∀ k, k < 61 → ((match mm_ty ci k with | .int => true | .boolean => true | .object _ => true | .array _ => true | _ => false) = true) := by decide +kernel
    have hk61 : k < 61 := by
      have hb : ∀ ci, ci < 12 → ((vwCl[ci]?).map (fun r => decide (r.2.2 ≤ 61))) = some true := by decide +kernel
      have := hb ci hci
      rw [hr] at this
      simp at this
      omega
    have := key ci hci k hk61
    revert this
    cases mm_ty ci k <;> simp
  rcases h0 with h | h
  · have hR : mm_isR ci k = false := by rcases h with h | h <;> simp [mm_isR, hci, h]
    rw [hR]
    rcases h with h | h <;> rw [h] <;> rfl
  · have hR : mm_isR ci k = true := by rcases h with ⟨n, h⟩ | ⟨n, h⟩ <;> simp [mm_isR, hci, h]
    rw [hR]
    rcases h with ⟨n, h⟩ | ⟨n, h⟩ <;> rw [h] <;> rfl
theorem g_new {idx ci N : Nat} {C : String} (hd : decode Y.2.1 pc = .ok (.new idx, 3)) (hci : ci < 12) (hw : mm_nok Y.1.cls idx ci C N) (k : Go E d kc ks Y (pc + 3) L (vR G.1 :: st) (mm_push G ci 0) (mm_zero D G.1) Q) : Go E d (kc + 1) (ks + N) Y pc L st G D Q := by
  intro p e s m args below meth c H locs cells slots ls R CC hh hl hL
  obtain ⟨c1, c2, c3, c4, c5, c6, c7, c8, c9, c10, c11, c12, c13⟩ := id CC
  obtain ⟨w1, w2, w3, w4⟩ := hw
  obtain ⟨r, hr, hrr⟩ := Option.map_eq_some_iff.mp w1
  obtain ⟨rC, rT, rN⟩ := r
  simp only [Prod.mk.injEq] at hrr
  obtain ⟨rfl, rfl⟩ := hrr
  have hKn := c9.1.1 ci _ hr
  refine W.newcK c1 c2 c6 (c8 _ w2) (c8 _ w3) (c8 _ w4) rfl hd (by omega) (by omega) hKn.2.1 rfl (fun H1 kC hkC e1 z1 o1 => ?_)
  have := k p e s m args below meth c H1 locs (cells + 1) (slots + rN) ls R ⟨c1, c2, c3, c4, c5, c6, c7, c8, c9, c10, c11, by omega, by omega⟩ (hh.push z1 o1 ?_) hl hL
  · rw [List.map_cons, (mm_sz hh).1] at this
    exact this
  · unfold mm_cell
    simp only [mm_push, if_true]
    rw [if_pos hci]
    refine ⟨_, hr, ?_⟩
    rw [(mm_sz hh).2]
    refine (u_born (mm_ty ci) c8 (mm_clw ci _ hr) hKn hkC e1 (mm_clt ci _ hr)).to (fun j hj => ?_)
    rw [mm_dflt E ci j hci _ hr hj]
    unfold mm_val
    simp [mm_zero]
theorem g_newa {n : Int} {kd : Nat} {at0 : ArrayType} (hd : decode Y.2.1 pc = .ok (.newarray at0, 2)) (hkd : (kd = 12 ∧ newarray.typeOf at0 = .int) ∨ (kd = 13 ∧ newarray.typeOf at0 = .boolean)) (hw : Cond.arrayClass (newarray.typeOf at0) ∈ mm_tbl) (hn : 0 ≤ n) (hn2 : n < 100000) {N : Nat} (hN : n.toNat = N) (k : Go E d kc ks Y (pc + 2) L (vR G.1 :: st) (mm_push G kd n) (mm_zero D G.1) Q) : Go E d (kc + 1) (ks + N) Y pc L (vI n :: st) G D Q := by
  intro p e s m args below meth c H locs cells slots ls R CC hh hl hL
  obtain ⟨c1, c2, c3, c4, c5, c6, c7, c8, c9, c10, c11, c12, c13⟩ := id CC
  have hcl : (iv n).toNatClampNeg = N := by
    show (iv n).toInt.toNat = N
    rw [iv_toInt (by omega) (by omega)]; exact hN
  have hneg : ¬ iv n < 0 := by
    rw [Int32.lt_iff_toInt_lt, iv_toInt (by omega) (by omega)]
    have h0 : (0 : Int32).toInt = 0 := by decide
    omega
  have hcA := c9.2.1 kd (by omega) (by omega)
  have haty : mm_aty kd = newarray.typeOf at0 := by rcases hkd with ⟨rfl, h⟩ | ⟨rfl, h⟩ <;> rw [h] <;> rfl
  refine va_newaK c1 c2 (c8 _ hw) rfl hd rfl hneg hcl ?_ (by omega) (by omega) rfl (fun H1 cA e1 z1 o1 hA hF => ?_)
  · rcases hkd with ⟨-, h⟩ | ⟨-, h⟩ <;> rw [h] <;> simp [componentBytes] <;> omega
  · have hcc : E.2.2.2.2.2.2 kd = cA := by
      have h9 := hcA.2
      rw [haty] at h9
      rcases hkd with ⟨-, h⟩ | ⟨-, h⟩ <;> rw [h] at h9 hF <;> exact Option.some.inj (h9.symm.trans hF)
    have := k p e s m args below meth c H1 locs (cells + 1) (slots + N) ls R ⟨c1, c2, c3, c4, c5, c6, c7, c8, c9, c10, c11, by omega, by omega⟩ (hh.push z1 o1 ?_) hl hL
    · rw [List.map_cons, (mm_sz hh).1] at this
      exact this
    · unfold mm_cell
      simp only [mm_push, if_true]
      rw [if_neg (by omega), (mm_sz hh).2, e1, hcc, hN]
      congr 2
      funext j
      unfold mm_val
      have hR : mm_isR kd j = false := by rcases hkd with ⟨rfl, -⟩ | ⟨rfl, -⟩ <;> rfl
      simp only [if_true, hR, mm_zero]
      rcases hkd with ⟨-, h⟩ | ⟨-, h⟩ <;> rw [h] <;> rfl
theorem g_anewa {n : Int} {idx kd : Nat} {C : String} (hd : decode Y.2.1 pc = .ok (.anewarray idx, 3)) (hkd : (kd = 14 ∧ C = RX10) ∨ (kd = 15 ∧ C = RX4) ∨ (kd = 16 ∧ C = RX2)) (hw : Cond.classLink Y.1.cls idx C ∈ mm_tbl) (hn : 0 ≤ n) (hn2 : n < 100000) {N : Nat} (hN : n.toNat = N) (k : Go E d kc ks Y (pc + 3) L (vR G.1 :: st) (mm_push G kd n) (mm_zero D G.1) Q) : Go E d (kc + 1) (ks + N) Y pc L (vI n :: st) G D Q := by
  intro p e s m args below meth c H locs cells slots ls R CC hh hl hL
  obtain ⟨c1, c2, c3, c4, c5, c6, c7, c8, c9, c10, c11, c12, c13⟩ := id CC
  have hcl : (iv n).toNatClampNeg = N := by
    show (iv n).toInt.toNat = N
    rw [iv_toInt (by omega) (by omega)]; exact hN
  have hneg : ¬ iv n < 0 := by
    rw [Int32.lt_iff_toInt_lt, iv_toInt (by omega) (by omega)]
    have h0 : (0 : Int32).toInt = 0 := by decide
    omega
  have hcA := c9.2.1 kd (by omega) (by omega)
  have haty : mm_aty kd = .object C := by rcases hkd with ⟨rfl, rfl⟩ | ⟨rfl, rfl⟩ | ⟨rfl, rfl⟩ <;> rfl
  have hov : va_AO C s := by
    rcases hkd with ⟨-, rfl⟩ | ⟨-, rfl⟩ | ⟨-, rfl⟩
    · exact c9.2.2.2.2.1
    · exact c9.2.2.2.2.2.1
    · exact c9.2.2.2.2.2.2.1
  refine W.anew c1 c2 c6 (c8 _ hw) (va_AO.use hov) rfl hd rfl hneg (by rw [hcl]; omega) (by omega) (by rw [hcl]; omega) (fun cA kA comp f1 f2 f3 f4 => ?_)
  rw [hcl]
  generalize hH1 : H.push ({ cls := cA, slots := Array.replicate N .null, vm := .none } : Cell) = H1
  have z1 : H1.size = H.size + 1 := by rw [← hH1, Array.size_push]
  have e1 : H1[H.size]? = some (arrV cA N (fun _ => .null)) := by rw [← hH1, Array.getElem?_push_size, ← arrV_new]
  have o1 : ∀ q : Nat, q < H.size → H1[q]? = H[q]? := fun q hq => by rw [← hH1, Array.getElem?_push, if_neg (Nat.ne_of_lt hq)]
  have hcc : E.2.2.2.2.2.2 kd = cA := by
    have h9 := hcA.2
    rw [haty] at h9
    obtain ⟨kA', comp', g1, g2, g3, g4⟩ := h9
    exact Option.some.inj (g4.symm.trans f1)
  have := k p e s m args below meth c H1 locs (cells + 1) (slots + N) ls R ⟨c1, c2, c3, c4, c5, c6, c7, c8, c9, c10, c11, by omega, by omega⟩ (hh.push z1 o1 ?_) hl hL
  · rw [List.map_cons, (mm_sz hh).1] at this
    exact this
  · unfold mm_cell
    simp only [mm_push, if_true]
    rw [if_neg (by omega), (mm_sz hh).2, e1, hcc, hN]
    congr 2
    funext j
    unfold mm_val
    have hR : mm_isR kd j = true := by rcases hkd with ⟨rfl, -⟩ | ⟨rfl, -⟩ | ⟨rfl, -⟩ <;> rfl
    simp only [if_true, hR]
    rfl
theorem mm_recv {s : State} {H : Heap} {a : Int} {ci : Nat} {r : vw_C} (hK : mm_K E s) (hh : mm_hold E s G D H) (ha : 2 ≤ a) (ha2 : a < G.1) (hk : (G.2.1 a).1 = ci) (hci : ci < 12) (hr : vwCl[ci]? = some r) : ∃ cell : Cell, H[mm_ad E a]? = some cell ∧ cell.vm.isStatics = false ∧ s.vm.findClass r.1 = some cell.cls := by
  obtain ⟨r', hr', cell, q1, q2, q3, q4⟩ := mm_obj hh ha ha2 hk hci
  cases hr.symm.trans hr'
  exact ⟨cell, q1, by rw [q3]; rfl, by rw [q2]; exact (hK.1.1 ci r hr).2.1⟩
theorem g_aast {a i x n : Int} {kd ci : Nat} {C : String} (hd : decode Y.2.1 pc = .ok (.aastore, 1)) (hkd : (kd = 14 ∧ C = RX10) ∨ (kd = 15 ∧ C = RX4) ∨ (kd = 16 ∧ C = RX2)) (hk : G.2.1 a = (kd, n)) (ha : 2 ≤ a) (ha2 : a < G.1) (hn : n < 2147483648) (hx : 2 ≤ x) (hx2 : x < G.1) (hkx : (G.2.1 x).1 = ci) (hci : ci < 12) {r : vw_C} (hr : vwCl[ci]? = some r) (hcast : r.1 = C ∨ (r.1, C) ∈ mm_yc)
    (k : (0 ≤ i ∧ i < n) ∧ Go E d kc ks Y (pc + 1) L st (G.1, G.2.1, up2 G.2.2 a i x) D Q) : Go E d kc ks Y pc L (vR x :: vI i :: vR a :: st) G D Q := by
  intro p e s m args below meth c H locs cells slots ls R CC hh hl hL
  obtain ⟨⟨hi, hin⟩, k⟩ := k
  obtain ⟨c1, c2, c3, c4, c5, c6, c7, c8, c9, c10, c11, c12, c13⟩ := id CC
  have hcell := mm_arr hh ha ha2 hk (by omega)
  obtain ⟨e1, e2⟩ := mm_in hi hin hn
  obtain ⟨cv, hv1, hv2, hv3⟩ := mm_recv c9 hh hx hx2 hkx hci hr
  have haty : mm_aty kd = .object C := by rcases hkd with ⟨rfl, rfl⟩ | ⟨rfl, rfl⟩ | ⟨rfl, rfl⟩ <;> rfl
  have h9 := (c9.2.1 kd (by omega) (by omega)).2
  rw [haty] at h9
  obtain ⟨kA, comp, g1, g2, g3, g4⟩ := h9
  obtain ⟨hfc, kC, hkC, -⟩ := (c9.1.1 ci r hr).2
  have hcv : cv.cls = E.2.2.2.2.2.1.1 ci := Option.some.inj (hv3.symm.trans hfc)
  have hass : s.vm.assignable cv.cls comp = true := by
    rcases hcast with h | h
    · have h1 : comp = cv.cls := Option.some.inj (g3.symm.trans (by rw [← h]; exact hv3))
      rw [h1, hcv]
      exact va_assign (c9.1.1 ci r hr).2
    · obtain ⟨c0, t0, f1, f2, f3⟩ := c9.2.2.2.1 _ h
      have h1 : c0 = cv.cls := Option.some.inj (f1.symm.trans hv3)
      have h2 : t0 = comp := Option.some.inj (f2.symm.trans g3)
      rw [← h1, ← h2]; exact f3
  obtain ⟨kcomp, hkcomp, -⟩ := Vm.findClass_spec g3
  rw [List.map_cons, List.map_cons, List.map_cons, mm_sh_ref ha, ← mm_ad_2 ha, mm_sh_ref hx, ← mm_ad_2 hx]
  refine W.aast (kcomp := kcomp) c1 c2 hcell (fun q h => by cases h) (fun h => by cases h) g1 g2 rfl hkcomp ⟨fun h => e2 (Or.inl h), by rw [arrV_size, e1]; omega⟩ hv1 (fun q h => by rw [h] at hv2; cases hv2) (by rw [hcv]; exact hkC) hass rfl rfl hd (fun H1 f1 f2 f3 => ?_)
  refine k p e s m args below meth c H1 _ cells slots ls R CC (hh.set ha ha2 rfl (fun _ => rfl) (fun k hka => mm_val_k rfl (fun j => up2_ne (fun h => hka h.1)) (fun _ => rfl)) f2 f3 ?_) ?_ hL
  · unfold mm_cell
    simp only [hk]
    rw [if_neg (by omega), f1, e1, arrV_store]
    congr 2
    funext j
    unfold updV mm_val
    have hR : ∀ j, mm_isR kd j = true := by rcases hkd with ⟨rfl, -⟩ | ⟨rfl, -⟩ | ⟨rfl, -⟩ <;> intro j <;> rfl
    simp only [hk, hR, if_true]
    by_cases hj : j = i.toNat
    · rw [if_pos hj]
      have e3 : ((j : Nat) : Int) = i := by omega
      rw [e3, up2_same, mm_sh_ref hx, ← mm_ad_2 hx]
    · rw [if_neg hj, up2_ne (fun h => hj (by omega))]
  · intro q hq
    rcases List.mem_append.mp hq with h | h
    · exact hl q h
    · rw [List.mem_singleton.mp h]
      show E.2.2.1 ≤ mm_ad E a
      rw [mm_ad_2 ha]; omega
theorem g_inst {a : Int} {idx ci : Nat} {nm : String} {b : Bool} (hd : decode Y.2.1 pc = .ok (.instanceof idx, 3)) (hw : Cond.classLink Y.1.cls idx nm ∈ mm_tbl) (ha : 2 ≤ a) (ha2 : a < G.1) (hk : (G.2.1 a).1 = ci) (hci : ci < 12) {r : vw_C} (hr : vwCl[ci]? = some r) (hb : (b = true ∧ (r.1 = nm ∨ (r.1, nm) ∈ mm_yc)) ∨ (b = false ∧ (r.1, nm) ∈ mm_nc)) (k : Go E d kc ks Y (pc + 3) L (vI (if b = true then 1 else 0) :: st) G D Q) : Go E d kc ks Y pc L (vR a :: st) G D Q := by
  intro p e s m args below meth c H locs cells slots ls R CC hh hl hL
  obtain ⟨c1, c2, c3, c4, c5, c6, c7, c8, c9, c10, c11, c12, c13⟩ := id CC
  obtain ⟨cv, hv1, hv2, hv3⟩ := mm_recv c9 hh ha ha2 hk hci hr
  have kk := k p e s m args below meth c H locs cells slots ls R CC hh hl hL
  rw [List.map_cons, mm_sh_ref ha, ← mm_ad_2 ha]
  rcases hb with ⟨rfl, h⟩ | ⟨rfl, h⟩
  · rcases h with h | h
    · subst h
      exact va_instS c1 c2 c6 (c8 _ hw) (c9.1.1 ci r hr).2 ⟨cv, hv1, hv2, hv3⟩ hd kk
    · obtain ⟨c0, t0, f1, f2, f3⟩ := c9.2.2.2.1 _ h
      have h1 : c0 = cv.cls := Option.some.inj (f1.symm.trans hv3)
      subst h1
      intro T hT X
      obtain ⟨vm', X', st'⟩ := X.instanceofYes c1 c6 (c8 _ hw) (by rw [hT]; exact hv1) hv2 f2 f3 (g := F0 m pc ls (.ref (mm_ad E a) :: st.map (mm_sh E))) rfl rfl (by rw [c2]; exact hd)
      obtain ⟨t, a1, b1⟩ := kk (T.setVm vm') hT X'
      exact ⟨t, st' t a1, b1⟩
  · exact va_instNo c1 c2 c6 (c8 _ hw) (c9.2.2.1 _ h) ⟨cv, hv1, hv2, hv3⟩ hd kk
theorem g_iret {x : Int} (hd : decode Y.2.1 pc = .ok (.ireturn, 1)) (hr : Y.2.2.2 = some .int) (k : Q (some (vI x)) G D) : Go E d kc ks Y pc L [vI x] G D Q := by
  intro p e s m args below meth c H locs cells slots ls R C hh hl hL
  obtain ⟨c1, c2, c3, c4, c5, c6, c7, c8, c9, c10, c11, c12, c13⟩ := C
  refine W.widen (k := R.cells) (n := R.slots) (by omega) (by omega) ?_
  exact W.iret (v := iv x) c1 c2 (c4.trans hr) (fun t ht hW => ⟨some (vI x), G, D, rfl, k, by rw [ht]; exact hh.moved hW.alike⟩) hl hd c5
theorem g_zret {x : Int} (hd : decode Y.2.1 pc = .ok (.ireturn, 1)) (hr : Y.2.2.2 = some .boolean) (k : (x = 0 ∨ x = 1) ∧ Q (some (vI x)) G D) : Go E d kc ks Y pc L [vI x] G D Q := by
  intro p e s m args below meth c H locs cells slots ls R C hh hl hL
  obtain ⟨c1, c2, c3, c4, c5, c6, c7, c8, c9, c10, c11, c12, c13⟩ := C
  refine W.widen (k := R.cells) (n := R.slots) (by omega) (by omega) ?_
  exact W.zret (v := iv x) c1 c2 (c4.trans hr) (by rcases k.1 with rfl | rfl <;> decide +kernel) (fun t ht hW => ⟨some (vI x), G, D, rfl, k.2, by rw [ht]; exact hh.moved hW.alike⟩) hl hd c5
theorem g_aret {x : Int} {rt : FieldType} (hd : decode Y.2.1 pc = .ok (.areturn, 1)) (hr : Y.2.2.2 = some rt) (hrt : (∃ n, rt = .object n) ∨ ∃ t, rt = .array t) (k : Q (some (vR x)) G D) : Go E d kc ks Y pc L [vR x] G D Q := by
  intro p e s m args below meth c H locs cells slots ls R C hh hl hL
  obtain ⟨c1, c2, c3, c4, c5, c6, c7, c8, c9, c10, c11, c12, c13⟩ := C
  refine W.widen (k := R.cells) (n := R.slots) (by omega) (by omega) ?_
  exact W.aret (v := mm_sh E (vR x)) c1 c2 (c4.trans hr) hrt (by by_cases hx : x = 0 <;> simp [mm_sh, hx]) (fun t ht hW => ⟨some (vR x), G, D, rfl, k, by rw [ht]; exact hh.moved hW.alike⟩) hl hd c5
theorem g_vret (hd : decode Y.2.1 pc = .ok (.return_, 1)) (hr : Y.2.2.2 = none) (k : Q none G D) : Go E d kc ks Y pc L [] G D Q := by
  intro p e s m args below meth c H locs cells slots ls R C hh hl hL
  obtain ⟨c1, c2, c3, c4, c5, c6, c7, c8, c9, c10, c11, c12, c13⟩ := C
  refine W.widen (k := R.cells) (n := R.slots) (by omega) (by omega) ?_
  exact W.vret c1 c2 (c4.trans hr) (fun t ht hW => ⟨none, G, D, rfl, k, by rw [ht]; exact hh.moved hW.alike⟩) hl hd c5
end Rules5
end
section
theorem mm_ent_sl (E : mmE) : ∀ (as : List mmV), (lg_sl (as.map (mm_sh E))).length = (mm_ent as).length ∧ ∀ (k : Nat) (v : mmV), (mm_ent as)[k]? = some (some v) → (lg_sl (as.map (mm_sh E)))[k]? = some (.val (mm_sh E v)) := by
  intro as
  induction as with
  | nil => exact ⟨rfl, fun k v h => by simp [mm_ent] at h⟩
  | cons a t ih =>
    have hcons : ∀ (x : Value) (l : List Value), lg_sl (x :: l) = (if x.category = 2 then [.val x, .second] else [.val x]) ++ lg_sl l := fun x l => by simp [lg_sl]
    match a with
    | .inl z =>
      have e : lg_sl ((mm_sh E (.inl z)) :: t.map (mm_sh E)) = .val (mm_sh E (.inl z)) :: lg_sl (t.map (mm_sh E)) := by rw [hcons]; rfl
      rw [List.map_cons, e]
      refine ⟨by simp [mm_ent, ih.1], fun k v h => ?_⟩
      cases k with
      | zero => simp [mm_ent] at h; rw [← h]; rfl
      | succ k => simp only [mm_ent, List.getElem?_cons_succ] at h ⊢; exact ih.2 k v h
    | .inr (.inl z) =>
      have e : lg_sl ((mm_sh E (.inr (.inl z))) :: t.map (mm_sh E)) = .val (mm_sh E (.inr (.inl z))) :: lg_sl (t.map (mm_sh E)) := by
        rw [hcons, if_neg (by rw [mm_cat1 E (v := vR z) (fun w h => by cases h)]; decide)]; rfl
      rw [List.map_cons, e]
      refine ⟨by simp [mm_ent, ih.1], fun k v h => ?_⟩
      cases k with
      | zero => simp [mm_ent] at h; rw [← h]; rfl
      | succ k => simp only [mm_ent, List.getElem?_cons_succ] at h ⊢; exact ih.2 k v h
    | .inr (.inr w) =>
      have e : lg_sl ((mm_sh E (.inr (.inr w))) :: t.map (mm_sh E)) = .val (mm_sh E (.inr (.inr w))) :: .second :: lg_sl (t.map (mm_sh E)) := by rw [hcons]; rfl
      rw [List.map_cons, e]
      refine ⟨by simp [mm_ent, ih.1], fun k v h => ?_⟩
      match k with
      | 0 => simp [mm_ent] at h; rw [← h]; rfl
      | 1 => simp [mm_ent] at h
      | k + 2 => simp only [mm_ent, List.getElem?_cons_succ] at h ⊢; exact ih.2 k v h
theorem mm_entry {E : mmE} {as : List mmV} {n : Nat} (h : (mm_ent as).length ≤ n) : mm_L E ((lg_sl (as.map (mm_sh E)) ++ List.replicate (n - (lg_sl (as.map (mm_sh E))).length) Slot.unset).toArray) n (mm_ent as ++ List.replicate (n - (mm_ent as).length) none) := by
  obtain ⟨e1, e2⟩ := mm_ent_sl E as
  obtain ⟨h1, h2, -⟩ := lv_entry (as.map (mm_sh E)) (n := n) (by rw [e1]; exact h)
  refine ⟨h1, h2, fun k v hk => ?_⟩
  by_cases hl : k < (mm_ent as).length
  · rw [List.getElem?_append_left hl] at hk
    have := e2 k v hk
    simp only [List.getElem?_toArray]
    rw [List.getElem?_append_left (by rw [e1]; exact hl)]
    exact this
  · rw [List.getElem?_append_right (by omega)] at hk
    rw [List.getElem?_replicate] at hk
    split at hk <;> simp at hk
def mm_Pc (E : mmE) (as : List mmV) (G : mmG) (D : mmD) : Array Value → State → Prop := fun a U => a = (as.map (mm_sh E)).toArray ∧ mm_hold E U G D U.heap ∧ mm_K E U
def mm_rm (d kc ks : Nat) : Room := { frames := d, cells := kc, slots := ks, locals := 64 * d }
abbrev mm_ws (Y : mmM) : List Cond := Cond.code Y.1 Y.2.1 Y.2.2.1 Y.2.2.2 :: mm_tbl
theorem mm_met {E : mmE} {d kc ks : Nat} {Y : mmM} {as : List mmV} {G : mmG} {D : mmD} {Q : mmQ} (hp : plainName Y.1.cls = true) (hn : (mm_ent as).length ≤ Y.2.2.1) (k : Call E d kc ks Y as G D Q) :
    Met E.1 Y.1 (mm_ws Y) (mm_rm d kc ks) (mm_Pc E as G D) (mm_Q E Q) kc ks (fun q => E.2.2.1 ≤ q) := by
  refine Met.ofW (cc := Y.2.1) (maxL := Y.2.2.1) (ret := Y.2.2.2) hp rfl ?_
  intro p e s m args below meth c s₁ B hml hv
  obtain ⟨rfl, hh, hK⟩ := hv
  have hts := atoms_spec (ws := mm_ws Y) B.pre
  rw [lg_entry_eq]
  exact k p e s m _ below meth c s.heap [] 0 0 _ (mm_rm d kc ks) ⟨B.exec, B.bytes, hml, B.returns, B.notSynchronized, findClass_of_methodNamed B.named, (name_of_methodNamed B.named B.method).1, fun w hw => hts w (List.mem_cons_of_mem _ hw), hK, Nat.le_refl _, Nat.le_refl _, by show 0 + kc ≤ kc; omega, by show 0 + ks ≤ ks; omega⟩ hh (fun q hq => by cases hq) (mm_entry hn)
theorem mm_blind {E : mmE} {as : List mmV} {G : mmG} {D : mmD} : FrameBlind (mm_Pc E as G D) := by
  intro a U g mk h
  exact ⟨h.1, h.2.1.moved (Vm.Alike.refl U.vm), h.2.2.same rfl⟩
theorem mm_goodws {Y : mmM} (h : Cond.code Y.1 Y.2.1 Y.2.2.1 Y.2.2.2 ∈ mm_tbl) : ∀ w ∈ mm_ws Y, w ∈ mm_tbl ∧ ((w.onTables && w.keeps) = true ∨ ∃ ty, w = .arrayClass ty) := by
  intro w hw
  rcases List.mem_cons.mp hw with rfl | hw
  · exact ⟨h, (mm_tbl_good _ h).2⟩
  · exact ⟨hw, (mm_tbl_good _ hw).2⟩
/-- what every call asks of the method that is called -/
abbrev mm_cB (Y' : mmM) (n : Nat) : Prop := Cond.code Y'.1 Y'.2.1 Y'.2.2.1 Y'.2.2.2 ∈ mm_tbl ∧ Cond.initialized Y'.1.cls ∈ mm_tbl ∧ plainName Y'.1.cls = true ∧ Y'.2.2.1 ≤ 45 ∧ (Y'.1.cls ≠ "java/lang/invoke/MethodHandle" ∧ Y'.1.cls ≠ "java/lang/invoke/VarHandle" ∧ (parseMethodDescriptor Y'.1.desc).map (fun d => d.parameters.length) = some n)
section CallRules
variable {E : mmE} {d kc ks kc' ks' : Nat} {Y Y' : mmM} {pc : Nat} {L : List (Option mmV)} {st : List mmV} {G : mmG} {D : mmD} {Q : mmQ}
/-- what stands on the stack behind a call -/
def mm_pu (r : Option mmV) (st : List mmV) : List mmV := match r with
  | none => st
  | some v => v :: st
theorem mm_back {p : Program} {e : Env} {s : State} {m : MethodId} {args a : Array Value} {below : List Frame} {meth : Method} {c : Code} {H : Heap} {locs : List Loc} {cells slots : Nat} {ls : Array Slot} {R : Room} {st0 : List Value}
    (C : mm_ctx E Y (d + 1) (kc + kc') (ks + ks') p s m args meth c R cells slots) (hl : ∀ q ∈ locs, E.2.2.1 ≤ q.base) (hL : mm_L E ls Y.2.2.1 L)
    (hr : va_Run p E.1 e R s m args below meth c H locs cells slots kc' ks' (F0 m pc ls st0) (st.map (mm_sh E)) (mm_Q E (fun r G' D' => Go E (d + 1) kc ks Y (pc + 3) L (mm_pu r st) G' D' Q) a) (fun q => E.2.2.1 ≤ q)) :
    W p E.1 e R s m args below meth c H locs cells slots (MQ below (mm_Q E Q) args s R.cells R.slots (fun q => E.2.2.1 ≤ q)) (F0 m pc ls st0) := by
  obtain ⟨c1, c2, c3, c4, c5, c6, c7, c8, c9, c10, c11, c12, c13⟩ := C
  intro T hT X
  obtain ⟨v, st₀, t, T', L2, h0, X', hL2, e1, e2, ⟨r, G', D', hv, hq, hh⟩, stp⟩ := hr T hT X
  have hv2 : v = r.map (mm_sh E) := by cases hv; rfl
  have ha : t.vm.Alike s.vm := by rw [← e2]; exact X'.warmed.alike.symm
  obtain ⟨t2, a1, b1⟩ := hq p e s m args below meth c T'.heap (locs ++ L2) (cells + kc') (slots + ks') ls R ⟨c1, c2, c3, c4, c5, c6, c7, c8, c9, c10, c11, by omega, by omega⟩ (by rw [e1]; exact hh.moved ha)
    (fun q hq => by
      rcases List.mem_append.mp hq with h | h
      · exact hl q h
      · exact hL2 q h) hL T' rfl X'
  refine ⟨t2, stp t2 ?_, b1⟩
  have : (v.toList ++ st.map (mm_sh E)) = (mm_pu r st).map (mm_sh E) := by rw [hv2]; cases r <;> rfl
  show Steps p.tables e below (T'.setTop { method := m, pc := pc + 3, locals := ls, stack := v.toList ++ st.map (mm_sh E), locked := none }) t2
  rw [this]
  exact a1
theorem mm_rev (as : List mmV) (st : List mmV) : ((as.reverse ++ st).map (mm_sh E)) = (as.map (mm_sh E)).reverse ++ st.map (mm_sh E) := by simp
theorem mm_st8 {m : MethodId} {ls : Array Slot} {st0 : List Value} (h : st.length ≤ 4) : 2 * (F0 m pc ls st0).monitorRoom + ((st.map (mm_sh E)).map fun v => v.category).sum ≤ 8 := by
  refine lv_room ?_
  have : ∀ (l : List mmV), ((l.map (mm_sh E)).map fun v => v.category).sum ≤ 2 * l.length := by
    intro l
    induction l with
    | nil => simp
    | cons a t ih =>
      simp only [List.map_cons, List.sum_cons, List.length_cons]
      have : (mm_sh E a).category ≤ 2 := by cases mm_sh E a <;> simp [Value.category]
      omega
  have := this st
  omega
theorem mm_callB {p : Program} {s : State} {m : MethodId} {args : Array Value} {meth : Method} {c : Code} {R : Room} {cells slots n idx : Nat} (C : mm_ctx E Y (d + 1) (kc + kc') (ks + ks') p s m args meth c R cells slots) (hB : mm_cB Y' n) (hlink : Cond.methodLink Y.1.cls idx Y'.1 ∈ mm_tbl) :
    CallB R s args Y.1.cls idx Y'.1 Y'.2.1 Y'.2.2.1 Y'.2.2.2 (mm_ws Y') (mm_rm d kc' ks') kc' ks' n := by
  obtain ⟨c1, c2, c3, c4, c5, c6, c7, c8, c9, c10, c11, c12, c13⟩ := C
  exact callB_of n c8 (mm_goodws hB.1) rfl rfl rfl (c8 _ hB.2.1) (c8 _ hlink) hB.2.2.2.2 ⟨by show d + 1 ≤ R.frames; omega, by show 8 + (Y'.2.2.1 + 11) + 64 * d ≤ R.locals; have := hB.2.2.2.1; omega⟩
/-- a method of the receiver's own class -/
theorem g_callV {b : Int} {as : List mmV} {idx ci n : Nat} (hd : decode Y.2.1 pc = .ok (.invokevirtual idx, 3)) (hB : mm_cB Y' n) (hlink : Cond.methodLink Y.1.cls idx Y'.1 ∈ mm_tbl) (hin : Cond.instanceMethod Y'.1 ∈ mm_tbl) (hsel : Cond.selects Y'.1.cls Y'.1 Y'.1 ∈ mm_tbl) (hci : ci < 12) (hr : (vwCl[ci]?).map (fun r => r.1) = some Y'.1.cls) (hn : as.length = n) (hent : (mm_ent (vR b :: as)).length ≤ Y'.2.2.1) (hst : st.length ≤ 4)
    (hb : 2 ≤ b) (hb2 : b < G.1) (hk : (G.2.1 b).1 = ci)
    (k : Call E d kc' ks' Y' (vR b :: as) G D (fun r G' D' => Go E (d + 1) kc ks Y (pc + 3) L (mm_pu r st) G' D' Q)) : Go E (d + 1) (kc + kc') (ks + ks') Y pc L (as.reverse ++ vR b :: st) G D Q := by
  intro p e s m args below meth c H locs cells slots ls R C hh hl hL
  obtain ⟨c1, c2, c3, c4, c5, c6, c7, c8, c9, c10, c11, c12, c13⟩ := id C
  obtain ⟨r, hr1, hr2⟩ := Option.map_eq_some_iff.mp hr
  have hrc := mm_recv c9 hh hb hb2 hk hci hr1
  rw [hr2] at hrc
  have e1 : (as.reverse ++ vR b :: st).map (mm_sh E) = (as.map (mm_sh E)).reverse ++ .ref (mm_ad E b) :: st.map (mm_sh E) := by rw [mm_rev, List.map_cons, mm_sh_ref hb, ← mm_ad_2 hb]
  rw [e1]
  refine mm_back C hl hL (va_runV (As := as.map (mm_sh E)) (n := n) (nL := Y.2.2.1) (C := Y'.1.cls) (Ts := mm_tbl) ⟨c1, c2, c3, c6, c8⟩ (mm_met hB.2.2.1 hent k) ⟨mm_callB C hB hlink, c8 _ hin, c8 _ hsel⟩ ⟨mm_blind, hrc, fun U hU hW => ⟨?_, ?_, c9.warm hW⟩⟩ rfl (by rw [List.length_map]; exact hn) hL.1 rfl (mm_st8 hst) hd ⟨by omega, by omega⟩)
  · rw [List.map_cons, mm_sh_ref hb, ← mm_ad_2 hb]
  · rw [hU]; exact hh.moved hW.alike
theorem g_callS {as : List mmV} {idx n : Nat} (hd : decode Y.2.1 pc = .ok (.invokestatic idx, 3)) (hB : mm_cB Y' n) (hlink : Cond.methodLink Y.1.cls idx Y'.1 ∈ mm_tbl) (hstat : Cond.static Y'.1 ∈ mm_tbl) (hn : as.length = n) (hent : (mm_ent as).length ≤ Y'.2.2.1) (hst : st.length ≤ 4)
    (k : Call E d kc' ks' Y' as G D (fun r G' D' => Go E (d + 1) kc ks Y (pc + 3) L (mm_pu r st) G' D' Q)) : Go E (d + 1) (kc + kc') (ks + ks') Y pc L (as.reverse ++ st) G D Q := by
  intro p e s m args below meth c H locs cells slots ls R C hh hl hL
  obtain ⟨c1, c2, c3, c4, c5, c6, c7, c8, c9, c10, c11, c12, c13⟩ := id C
  rw [mm_rev]
  exact mm_back C hl hL (va_runS (As := as.map (mm_sh E)) (n := n) (nL := Y.2.2.1) (Ts := mm_tbl) ⟨c1, c2, c3, c6, c8⟩ (mm_met hB.2.2.1 hent k) ⟨mm_callB C hB hlink, c8 _ hstat⟩ ⟨mm_blind, fun U hU hW => ⟨rfl, by rw [hU]; exact hh.moved hW.alike, c9.warm hW⟩⟩ rfl (by rw [List.length_map]; exact hn) hL.1 rfl (mm_st8 hst) hd ⟨by omega, by omega⟩)
/-- a static method of a nest mate -/
theorem g_callSN {as : List mmV} {idx n : Nat} (hd : decode Y.2.1 pc = .ok (.invokestatic idx, 3)) (hB : mm_cB Y' n) (hlink : ∀ s, mm_K E s → va_Nw (.methodLinkNest Y.1.cls idx Y'.1 RX11) s) (hstat : Cond.static Y'.1 ∈ mm_tbl) (hn : as.length = n) (hent : (mm_ent as).length ≤ Y'.2.2.1) (hst : st.length ≤ 4)
    (k : Call E d kc' ks' Y' as G D (fun r G' D' => Go E (d + 1) kc ks Y (pc + 3) L (mm_pu r st) G' D' Q)) : Go E (d + 1) (kc + kc') (ks + ks') Y pc L (as.reverse ++ st) G D Q := by
  intro p e s m args below meth c H locs cells slots ls R C hh hl hL
  obtain ⟨c1, c2, c3, c4, c5, c6, c7, c8, c9, c10, c11, c12, c13⟩ := id C
  rw [mm_rev]
  exact mm_back C hl hL (va_runSN (As := as.map (mm_sh E)) (n := n) (nL := Y.2.2.1) (Ts := mm_tbl) (host := RX11) ⟨c1, c2, c3, c6, c8⟩ (mm_met hB.2.2.1 hent k) ⟨va_cnB n c8 (mm_goodws hB.1) rfl rfl rfl (hlink s c9) (c8 _ hB.2.1) hB.2.2.2.2 ⟨by show d + 1 ≤ R.frames; omega, by show 8 + (Y'.2.2.1 + 11) + 64 * d ≤ R.locals; have := hB.2.2.2.1; omega⟩, c8 _ hstat, trivial⟩ ⟨mm_blind, fun U hU hW => ⟨rfl, by rw [hU]; exact hh.moved hW.alike, c9.warm hW⟩⟩ rfl (by rw [List.length_map]; exact hn) hL.1 rfl (mm_st8 hst) hd ⟨by omega, by omega⟩)
/-- a constructor -/
theorem g_callI {b : Int} {as : List mmV} {idx n : Nat} (hd : decode Y.2.1 pc = .ok (.invokespecial idx, 3)) (hB : mm_cB Y' n) (hret : Y'.2.2.2 = none) (hlink : Cond.methodLink Y.1.cls idx Y'.1 ∈ mm_tbl) (hin : Cond.instanceMethod Y'.1 ∈ mm_tbl) (hnm : Y'.1.name = "<init>") (hn : as.length = n) (hent : (mm_ent (vR b :: as)).length ≤ Y'.2.2.1) (hst : st.length ≤ 4) (hb : 2 ≤ b)
    (k : Call E d kc' ks' Y' (vR b :: as) G D (fun r G' D' => Go E (d + 1) kc ks Y (pc + 3) L (mm_pu r st) G' D' Q)) : Go E (d + 1) (kc + kc') (ks + ks') Y pc L (as.reverse ++ vR b :: st) G D Q := by
  intro p e s m args below meth c H locs cells slots ls R C hh hl hL
  obtain ⟨c1, c2, c3, c4, c5, c6, c7, c8, c9, c10, c11, c12, c13⟩ := id C
  have e1 : (as.reverse ++ vR b :: st).map (mm_sh E) = (as.map (mm_sh E)).reverse ++ .ref (mm_ad E b) :: st.map (mm_sh E) := by rw [mm_rev, List.map_cons, mm_sh_ref hb, ← mm_ad_2 hb]
  rw [e1]
  have hcb := mm_callB C hB hlink
  rw [hret] at hcb
  refine mm_back C hl hL (va_runI (As := as.map (mm_sh E)) (n := n) (nL := Y.2.2.1) (Ts := mm_tbl) ⟨c1, c2, c3, c6, c8⟩ (mm_met hB.2.2.1 hent k) ⟨hcb, hnm, c8 _ hin⟩ ⟨mm_blind, fun U hU hW => ⟨?_, ?_, c9.warm hW⟩⟩ rfl (by rw [List.length_map]; exact hn) hL.1 rfl (mm_st8 hst) hd ⟨by omega, by omega⟩)
  · rw [List.map_cons, mm_sh_ref hb, ← mm_ad_2 hb]
  · rw [hU]; exact hh.moved hW.alike
/-- a method that the receiver's class inherits or overrides -/
theorem g_callU {b : Int} {as : List mmV} {idx ci n : Nat} {C owner : String} {x : MethodName} (hd : decode Y.2.1 pc = .ok (.invokevirtual idx, 3)) (hB : mm_cB Y' n) (hlink : Cond.methodLink Y.1.cls idx x ∈ mm_tbl) (hsame : Cond.sameMethod x.cls owner x.name x.desc ∈ mm_tbl) (hown : owner ≠ "java/lang/invoke/MethodHandle" ∧ owner ≠ "java/lang/invoke/VarHandle") (hxn : (parseMethodDescriptor x.desc).map (fun d => d.parameters.length) = some n)
    (hdecl : (Cond.instanceMethod ⟨owner, x.name, x.desc⟩ ∈ mm_tbl ∧ ∃ b0 m0 r0, Cond.code ⟨owner, x.name, x.desc⟩ b0 m0 r0 ∈ mm_tbl) ∨ (⟨owner, x.name, x.desc⟩ : MethodName) = ⟨RX2, "kindNumber", "()I"⟩) (hin : Cond.instanceMethod Y'.1 ∈ mm_tbl) (hsel : Cond.selects C x Y'.1 ∈ mm_tbl) (hci : ci < 12) (hr : (vwCl[ci]?).map (fun r => r.1) = some C) (hn : as.length = n) (hent : (mm_ent (vR b :: as)).length ≤ Y'.2.2.1) (hst : st.length ≤ 4)
    (hb : 2 ≤ b) (hb2 : b < G.1) (hk : (G.2.1 b).1 = ci)
    (k : Call E d kc' ks' Y' (vR b :: as) G D (fun r G' D' => Go E (d + 1) kc ks Y (pc + 3) L (mm_pu r st) G' D' Q)) : Go E (d + 1) (kc + kc') (ks + ks') Y pc L (as.reverse ++ vR b :: st) G D Q := by
  intro p e s m args below meth c H locs cells slots ls R CC hh hl hL
  obtain ⟨c1, c2, c3, c4, c5, c6, c7, c8, c9, c10, c11, c12, c13⟩ := id CC
  obtain ⟨r, hr1, hr2⟩ := Option.map_eq_some_iff.mp hr
  have hrc := mm_recv c9 hh hb hb2 hk hci hr1
  rw [hr2] at hrc
  have e1 : (as.reverse ++ vR b :: st).map (mm_sh E) = (as.map (mm_sh E)).reverse ++ .ref (mm_ad E b) :: st.map (mm_sh E) := by rw [mm_rev, List.map_cons, mm_sh_ref hb, ← mm_ad_2 hb]
  rw [e1]
  have hdc : va_Decl s ⟨owner, x.name, x.desc⟩ := by
    rcases hdecl with ⟨h1, b0, m0, r0, h2⟩ | h
    · exact va_Decl.of (c8 _ h1) (c8 _ h2)
    · rw [h]; exact va_Decl.abs c9.2.2.2.2.2.2.2.2.2.2
  have cw : va_CU R s args Y.1.cls C owner idx x Y'.1 Y'.2.1 Y'.2.2.1 Y'.2.2.2 (mm_ws Y') (mm_rm d kc' ks') kc' ks' n := by
    refine ⟨⟨rfl, rfl, by show d + 1 ≤ R.frames; omega, by show 8 + (Y'.2.2.1 + 11) + 64 * d ≤ R.locals; have := hB.2.2.2.1; omega, pay_in c8 (mm_goodws hB.1), List.mem_cons_self⟩, c8 _ hB.1, c8 _ hB.2.1, hown, fun sig h => ?_, c8 _ hlink, c8 _ hsame, hdc, c8 _ hsel, c8 _ hin⟩
    rw [h] at hxn
    exact (Option.some.inj hxn).symm
  refine mm_back CC hl hL (va_runU (As := as.map (mm_sh E)) (n := n) (nL := Y.2.2.1) (C := C) (Ts := mm_tbl) ⟨c1, c2, c3, c6, c8⟩ (mm_met hB.2.2.1 hent k) cw ⟨mm_blind, hrc, fun U hU hW => ⟨?_, ?_, c9.warm hW⟩⟩ rfl (by rw [List.length_map]; exact hn) hL.1 rfl (mm_st8 hst) hd ⟨by omega, by omega⟩)
  · rw [List.map_cons, mm_sh_ref hb, ← mm_ad_2 hb]
  · rw [hU]; exact hh.moved hW.alike
theorem g_objinit {b : Int} {idx : Nat} (hd : decode Y.2.1 pc = .ok (.invokespecial idx, 3)) (hw : Cond.methodLink Y.1.cls idx Lib.objectInit ∈ mm_tbl ∧ Cond.instanceMethod Lib.objectInit ∈ mm_tbl ∧ Cond.code Lib.objectInit ⟨#[0xb1]⟩ 1 none ∈ mm_tbl) (hst : st.length ≤ 4) (hb : 2 ≤ b) (k : Go E (d + 1) kc ks Y (pc + 3) L st G D Q) : Go E (d + 1) kc ks Y pc L (vR b :: st) G D Q := by
  intro p e s m args below meth c H locs cells slots ls R C hh hl hL
  obtain ⟨c1, c2, c3, c4, c5, c6, c7, c8, c9, c10, c11, c12, c13⟩ := id C
  rw [List.map_cons, mm_sh_ref hb, ← mm_ad_2 hb]
  have h8 := mm_st8 (E := E) (pc := pc) (m := m) (ls := ls) (st0 := []) hst
  refine W.objInit c1 c2 c6 (c8 _ hw.1) (c8 _ hw.2.1) (c8 _ hw.2.2) rfl (by rw [c3]; exact hL.1) rfl hd (by omega) ?_ (k p e s m args below meth c H locs cells slots ls R C hh hl hL)
  have : 2 * (F0 m pc ls (.ref (mm_ad E b) :: st.map (mm_sh E))).monitorRoom + ((st.map (mm_sh E)).map fun v => v.category).sum ≤ 8 := h8
  omega
end CallRules
end
section
/-- an array's first n places become another's -/
def cp0 (D : mmD) (src dst n : Int) : mmD := fun c k => if c = dst ∧ 0 ≤ k ∧ k < n then D src k else D c k
section CallRules2
variable {E : mmE} {d kc ks kc' ks' : Nat} {Y Y' : mmM} {pc : Nat} {L : List (Option mmV)} {st : List mmV} {G : mmG} {D : mmD} {Q : mmQ}
theorem mm_val_i {a n : Int} (hk : G.2.1 a = (12, n)) : mm_val E G D a = fun j : Nat => Value.int (iv (D a j)) := by
  funext j
  unfold mm_val
  rw [hk]
  rfl
theorem g_acopy {a b n na nb : Int} {idx : Nat} (hd : decode Y.2.1 pc = .ok (.invokestatic idx, 3)) (hw : Cond.methodLink Y.1.cls idx arraycopyName ∈ mm_tbl ∧ Cond.native arraycopyName ∈ mm_tbl ∧ Cond.static arraycopyName ∈ mm_tbl ∧ Cond.initialized "java/lang/System" ∈ mm_tbl) (hst : st.length ≤ 4)
    (hka : G.2.1 a = (12, na)) (hkb : G.2.1 b = (12, nb)) (ha : 2 ≤ a) (ha2 : a < G.1) (hb : 2 ≤ b) (hb2 : b < G.1) (hna : na < 2147483648) (hnb : nb < 2147483648)
    (k : (0 ≤ n ∧ n ≤ na ∧ n ≤ nb) ∧ Go E (d + 1) kc ks Y (pc + 3) L st G (cp0 D a b n) Q) : Go E (d + 1) kc ks Y pc L (vI n :: vI 0 :: vR b :: vI 0 :: vR a :: st) G D Q := by
  intro p e s m args below meth c H locs cells slots ls R C hh hl hL
  obtain ⟨⟨n0, n1, n2⟩, k⟩ := k
  obtain ⟨c1, c2, c3, c4, c5, c6, c7, c8, c9, c10, c11, c12, c13⟩ := id C
  have hca := mm_arr hh ha ha2 hka (by omega)
  have hcb := mm_arr hh hb hb2 hkb (by omega)
  rw [mm_val_i hka] at hca
  rw [mm_val_i hkb] at hcb
  have hn : (iv n).toInt = n := iv_toInt (by omega) (by omega)
  have hnc : (iv n).toNatClampNeg = n.toNat := by show (iv n).toInt.toNat = _; rw [hn]
  have h0 : (iv 0).toInt = 0 := by decide +kernel
  have h0c : (iv 0).toNatClampNeg = 0 := by decide +kernel
  have z0 : (0 : Int32).toInt = 0 := by decide
  have g0 : ¬ iv 0 < 0 := by decide +kernel
  have gn : ¬ iv n < 0 := by rw [Int32.lt_iff_toInt_lt, hn, z0]; omega
  have hA := (c9.2.1 12 (by omega) (by omega)).1
  obtain ⟨-, k0, hk0, cm0, hkk0⟩ := hA na.toNat (fun j => .int (iv (D a j)))
  obtain ⟨-, k1, hk1, cm1, hkk1⟩ := hA nb.toNat (fun j => .int (iv (D b j)))
  have hnw : nativeFrameWords "java/lang/System" "arraycopy" 5 ≤ 40 := by decide +kernel
  have e1 : (vI n :: vI 0 :: vR b :: vI 0 :: vR a :: st).map (mm_sh E) = .int (iv n) :: .int (iv 0) :: .ref (mm_ad E b) :: .int (iv 0) :: .ref (mm_ad E a) :: st.map (mm_sh E) := by
    simp only [List.map_cons]
    rw [mm_sh_ref ha, ← mm_ad_2 ha, mm_sh_ref hb, ← mm_ad_2 hb]
    rfl
  rw [e1]
  intro T hT X
  have h8 := mm_st8 (E := E) (pc := pc) (m := m) (ls := ls) (st0 := []) hst
  have h8b : 0 + ((st.map (mm_sh E)).map fun v => v.category).sum ≤ 8 := h8
  obtain ⟨vm', X', step⟩ := X.arraycopy c1 c6 (c8 _ hw.1) (c8 _ hw.2.1) (c8 _ hw.2.2.1) (c8 _ hw.2.2.2) (src := mm_ad E a) (dst := mm_ad E b) (srcPos := iv 0) (destPos := iv 0) (n := iv n) (by rw [hT]; exact hca) (by rw [hT]; exact hcb)
    (fun _ h => by cases h) (fun _ h => by cases h) (fun h => by cases h) (fun h => by cases h) hk0 hk1 hkk0 hkk1 (by simp [mm_aty, refKind]) g0 g0 gn
    (by rw [h0, hn, arrV_size]; omega) (by rw [h0, hn, arrV_size]; omega)
    (fun vm₁ _ i hi => by
      have e : (arrV (E.2.2.2.2.2.2 12) na.toNat (fun j : Nat => Value.int (iv (D a j)))).slots.getD ((iv 0).toNatClampNeg + i) .null = .int (iv (D a (i : Nat))) := by
        rw [h0c, Nat.zero_add, Array.getD_eq_getD_getElem?, arrV_read _ _ (by omega)]
        rfl
      refine ⟨?_, ?_⟩
      · rw [e]; rfl
      · rw [e]; exact trivial)
    (g := F0 m pc ls (.int (iv n) :: .int (iv 0) :: .ref (mm_ad E b) :: .int (iv 0) :: .ref (mm_ad E a) :: st.map (mm_sh E))) rfl (by rw [c3]; exact hL.1) (rest := st.map (mm_sh E)) rfl (by rw [c2]; exact hd) (by omega) (by show 2 * 0 + _ + _ ≤ _; omega)
  have e2 : copied (arrV (E.2.2.2.2.2.2 12) na.toNat (fun j : Nat => Value.int (iv (D a j)))) (arrV (E.2.2.2.2.2.2 12) nb.toNat (fun j : Nat => Value.int (iv (D b j)))) (iv 0) (iv 0) (iv n) = arrV (E.2.2.2.2.2.2 12) nb.toNat (fun j => .int (va_cpy (fun j : Nat => iv (D a j)) (fun j : Nat => iv (D b j)) (iv 0).toNatClampNeg (iv 0).toNatClampNeg (iv n).toNatClampNeg j)) :=
    va_copied (fun z => .int z) _ _ (fun j : Nat => iv (D a j)) (fun j : Nat => iv (D b j)) (by rw [h0c, hnc]; omega)
  rw [e2, h0c, hnc] at X' step
  have hlt : mm_ad E b < H.size := (Array.getElem?_eq_some_iff.mp hcb).1
  generalize hcell : arrV (E.2.2.2.2.2.2 12) nb.toNat (fun j => Value.int (va_cpy (fun j : Nat => iv (D a j)) (fun j : Nat => iv (D b j)) 0 0 n.toNat j)) = cell at X' step
  have hheap : ((T.setVm vm').setCell (mm_ad E b) cell).heap = H.setIfInBounds (mm_ad E b) cell := by rw [← hT]; rfl
  obtain ⟨t, a1, b1⟩ := k p e s m args below meth c (H.setIfInBounds (mm_ad E b) cell) _ cells slots ls R C (hh.set (G' := G) (D' := cp0 D a b n) hb hb2 rfl (fun _ => rfl) (fun x hx => mm_val_k rfl (fun _ => rfl) (fun j => by unfold cp0; rw [if_neg (fun h => hx h.1)])) (by simp) (fun q hq => by simp [Array.getElem?_setIfInBounds, Ne.symm hq]) (by
      unfold mm_cell
      rw [hkb, if_neg (by simp)]
      rw [show (H.setIfInBounds (mm_ad E b) cell)[mm_ad E b]? = some cell by simp [Array.getElem?_setIfInBounds, hlt], ← hcell, mm_val_i hkb]
      congr 2
      funext j
      unfold va_cpy cp0
      by_cases hj : j < n.toNat
      · rw [if_pos ⟨by omega, by omega⟩, if_pos ⟨rfl, by omega, by omega⟩]
        simp
      · rw [if_neg (by omega), if_neg (by omega)]))
    (fun q hq => by
      rcases List.mem_append.mp hq with h | h
      · exact hl q h
      · obtain ⟨z, -, hz⟩ := List.mem_map.mp h
        rw [← hz]
        show E.2.2.1 ≤ mm_ad E b
        rw [mm_ad_2 hb]; omega) hL _ hheap X'
  exact ⟨t, step t a1, b1⟩
/-- a method of the superclass, its own or one that it inherits -/
theorem g_callSU {b : Int} {as : List mmV} {idx ci n : Nat} {x : MethodName} (hd : decode Y.2.1 pc = .ok (.invokespecial idx, 3)) (hB : mm_cB Y' n) (hlink : Cond.methodLink Y.1.cls idx x ∈ mm_tbl) (hsame : Cond.sameMethod x.cls Y'.1.cls x.name x.desc ∈ mm_tbl) (hxy : Y'.1 = ⟨Y'.1.cls, x.name, x.desc⟩) (hsup : Cond.superclass Y.1.cls x.cls ∈ mm_tbl) (hno : x.name ≠ "<init>") (hsub : x.cls = Y'.1.cls ∨ Cond.superclass x.cls Y'.1.cls ∈ mm_tbl)
    (hin : Cond.instanceMethod Y'.1 ∈ mm_tbl) (hci : ci < 12) (hn : as.length = n) (hent : (mm_ent (vR b :: as)).length ≤ Y'.2.2.1) (hst : st.length ≤ 4)
    (hb : 2 ≤ b) (hb2 : b < G.1) (hk : (G.2.1 b).1 = ci)
    (k : Call E d kc' ks' Y' (vR b :: as) G D (fun r G' D' => Go E (d + 1) kc ks Y (pc + 3) L (mm_pu r st) G' D' Q)) : Go E (d + 1) (kc + kc') (ks + ks') Y pc L (as.reverse ++ vR b :: st) G D Q := by
  intro p e s m args below meth c H locs cells slots ls R CC hh hl hL
  obtain ⟨c1, c2, c3, c4, c5, c6, c7, c8, c9, c10, c11, c12, c13⟩ := id CC
  obtain ⟨r, hr1, cell, q1, q2, q3, q4⟩ := mm_obj hh hb hb2 hk hci
  obtain ⟨hfc, kB, hkB, -⟩ := (c9.1.1 ci r hr1).2
  have e1 : (as.reverse ++ vR b :: st).map (mm_sh E) = (as.map (mm_sh E)).reverse ++ .ref (mm_ad E b) :: st.map (mm_sh E) := by rw [mm_rev, List.map_cons, mm_sh_ref hb, ← mm_ad_2 hb]
  rw [e1]
  refine mm_back (st := st) CC hl hL (a := (Value.ref (mm_ad E b) :: as.map (mm_sh E)).toArray) ?_
  have hM := mm_met hB.2.2.1 hent k
  have hK : Back E.1 R p e below s args Y'.1 3 8 (PreOf R kc' ks' (mm_Pc E (vR b :: as) G D)) (PostOf (mm_Q E (fun r G' D' => Go E (d + 1) kc ks Y (pc + 3) L (mm_pu r st) G' D' Q)) kc' ks' (fun q => E.2.2.1 ≤ q)) :=
    back_of (bytes := Y'.2.1) (maxL := Y'.2.2.1) (ret := Y'.2.2.2) hM mm_blind rfl rfl (by show d + 1 ≤ R.frames; omega) (by show 8 + (Y'.2.2.1 + 11) + 64 * d ≤ R.locals; have := hB.2.2.2.1; omega) (pay_in c8 (mm_goodws hB.1)) List.mem_cons_self (fun a' U hW => word_at hW (Or.inl (by first | rfl | simp [Cond.onTables, Cond.keeps, Cond.steady])) (c8 _ hB.2.1))
  intro T hT X
  obtain ⟨mk, methM, hnamed, hmethM, hstM, habM⟩ := Cond.instanceMethod_spec (c8 _ hin)
  obtain ⟨methM', cM, hmethM', -, -, -, -, -, -, hsigM⟩ := Cond.code_spec hnamed (c8 _ hB.1)
  cases hmethM.symm.trans hmethM'
  obtain ⟨ps, dk, kp, hps, hdk, hkp, hsuper, -, -, hnid⟩ := Cond.superclass_spec c6 (c8 _ hsup)
  have hn2 : s.methodNamed? ⟨Y'.1.cls, x.name, x.desc⟩ = some mk := by rw [← hxy]; exact hnamed
  have hmk : s.vm.findClass Y'.1.cls = some mk.cls := findClass_of_methodNamed hnamed
  have hsubc : s.vm.isSubclass ps mk.cls = true := by
    rcases hsub with h | h
    · rw [h] at hps
      rw [Option.some.inj (hps.symm.trans hmk)]
      simp [Vm.isSubclass, Vm.isSubclassAux]
    · obtain ⟨ps2, k2, kp2, h1, h2, h3, h4, -, -, -⟩ := Cond.superclass_spec hps (c8 _ h)
      have h5 : ps2 = mk.cls := Option.some.inj (h1.symm.trans hmk)
      subst h5
      have hpos : 2 ≤ s.vm.classes.size ∨ ps = mk.cls := by
        have l1 := (Array.getElem?_eq_some_iff.mp h2).1
        have l2 := (Array.getElem?_eq_some_iff.mp h3).1
        by_cases he : ps = mk.cls
        · exact Or.inr he
        · left
          rcases Nat.lt_or_gt_of_ne (show @Ne Nat ps mk.cls from he) with h | h
          · exact Nat.lt_of_le_of_lt (Nat.succ_le_of_lt (Nat.lt_of_le_of_lt (Nat.zero_le _) h)) l2
          · exact Nat.lt_of_le_of_lt (Nat.succ_le_of_lt (Nat.lt_of_le_of_lt (Nat.zero_le _) h)) l1
      rcases hpos with hp2 | he
      · obtain ⟨z, hz⟩ : ∃ z, s.vm.classes.size = z + 2 := ⟨s.vm.classes.size - 2, by omega⟩
        simp [Vm.isSubclass, hz, Vm.isSubclassAux, h2, h4]
      · rw [he]; simp [Vm.isSubclass, Vm.isSubclassAux]
  obtain ⟨vm₁, X₁, hstep₁⟩ := X.invokespecialUp c1 c6 (c8 _ hlink) (c8 _ hsame) hn2 hmethM hstM habM hno hdk hnid hps hsuper hsubc (a := mm_ad E b) (cell := cell) (by rw [hT]; exact q1)
    (fun z h => by rw [q3] at h; cases h) (by rw [q2]; exact hkB) (g := F0 m pc ls ((as.map (mm_sh E)).reverse ++ .ref (mm_ad E b) :: st.map (mm_sh E))) rfl (argsL := as.map (mm_sh E)) (rest := st.map (mm_sh E)) (by
      have h9 := hB.2.2.2.2.2.2
      rw [hsigM] at h9
      rw [List.length_map, hn]
      exact (Option.some.inj h9).symm) rfl (by rw [c2]; exact hd)
  obtain ⟨v, ⟨U', l2, c2', s2⟩, X', ⟨g', mk', t, L2, f1, f2, hq, g1, hL2, g2, g3⟩, hsteps⟩ := hK m meth c ⟨T.setVm vm₁, locs, cells, slots⟩ { (F0 m pc ls ((as.map (mm_sh E)).reverse ++ .ref (mm_ad E b) :: st.map (mm_sh E))) with stack := st.map (mm_sh E) } (.invokespecial idx) mk (Value.ref (mm_ad E b) :: as.map (mm_sh E)).toArray X₁ rfl (by rw [c3]; exact hL.1) (by rw [c2]; exact hd) (mm_st8 hst) (X₁.named hnamed)
    ⟨by show cells + kc' ≤ R.cells; omega, by show slots + ks' ≤ R.slots; omega, ⟨by rw [List.map_cons, mm_sh_ref hb, ← mm_ad_2 hb], by show mm_hold E (T.setVm vm₁) G D T.heap; rw [hT]; exact hh.moved X₁.warmed.alike, c9.warm X₁.warmed⟩⟩
  dsimp only [Pt.U, Pt.locs, Pt.cells, Pt.slots] at X' f1 f2 g1 g2 g3 hsteps
  subst g1; subst g2; subst g3
  exact ⟨v, (T.setVm vm₁).calling g' mk' (Value.ref (mm_ad E b) :: as.map (mm_sh E)).toArray, t, U', L2, hT, X', hL2, f1, f2, hq, fun target h => hstep₁ _ (by rw [doInvoke_state]; exact hsteps.trans h)⟩
end CallRules2
end
