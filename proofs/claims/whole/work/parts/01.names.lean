-- ===== PART A: goes FIRST, ahead of the names: the tables' words, and 'selects' of the private methods out of them =====
/-- a private method of a class that the tables say can be made, by its rows of tables_1 -/
def lw_okq (q : MethodName × Nat) : Prop := (q.1.cls ≠ "java/lang/invoke/MethodHandle" ∧ q.1.cls ≠ "java/lang/invoke/VarHandle") ∧ Cond.instantiable q.1.cls q.2 ∈ tables_1 ∧ Cond.privateMethod q.1 ∈ tables_1 ∧ Cond.instanceMethod q.1 ∈ tables_1
theorem lw_p0 : lw_okq (⟨"RookWords$Word", "pushPairs", "(III)V"⟩, 2) := ⟨⟨by decide +kernel, by decide +kernel⟩, List.mem_of_getElem? (i := 49) (by decide +kernel), List.mem_of_getElem? (i := 285) (by decide +kernel), List.mem_of_getElem? (i := 286) (by decide +kernel)⟩
theorem lw_p1 : lw_okq (⟨"RookWords$Word", "pushGrowing", "(I)V"⟩, 2) := ⟨⟨by decide +kernel, by decide +kernel⟩, List.mem_of_getElem? (i := 49) (by decide +kernel), List.mem_of_getElem? (i := 289) (by decide +kernel), List.mem_of_getElem? (i := 290) (by decide +kernel)⟩
theorem lw_p2 : lw_okq (⟨"RookWords$Sum", "begin", "()V"⟩, 2) := ⟨⟨by decide +kernel, by decide +kernel⟩, List.mem_of_getElem? (i := 34) (by decide +kernel), List.mem_of_getElem? (i := 359) (by decide +kernel), List.mem_of_getElem? (i := 360) (by decide +kernel)⟩
theorem lw_p3 : lw_okq (⟨"RookWords$Sum", "settle", "()V"⟩, 2) := ⟨⟨by decide +kernel, by decide +kernel⟩, List.mem_of_getElem? (i := 34) (by decide +kernel), List.mem_of_getElem? (i := 374) (by decide +kernel), List.mem_of_getElem? (i := 375) (by decide +kernel)⟩
theorem lw_p4 : lw_okq (⟨"RookWords$Sum", "comingByUp", "()Z"⟩, 2) := ⟨⟨by decide +kernel, by decide +kernel⟩, List.mem_of_getElem? (i := 34) (by decide +kernel), List.mem_of_getElem? (i := 386) (by decide +kernel), List.mem_of_getElem? (i := 387) (by decide +kernel)⟩
theorem lw_p5 : lw_okq (⟨"RookWords$Sum", "comingByDown", "()Z"⟩, 2) := ⟨⟨by decide +kernel, by decide +kernel⟩, List.mem_of_getElem? (i := 34) (by decide +kernel), List.mem_of_getElem? (i := 390) (by decide +kernel), List.mem_of_getElem? (i := 391) (by decide +kernel)⟩
theorem lw_p6 : lw_okq (⟨"RookWords$Changes", "dropOldest", "()V"⟩, 5) := ⟨⟨by decide +kernel, by decide +kernel⟩, List.mem_of_getElem? (i := 123) (by decide +kernel), List.mem_of_getElem? (i := 434) (by decide +kernel), List.mem_of_getElem? (i := 435) (by decide +kernel)⟩
theorem lw_p7 : lw_okq (⟨"RookWords", "ladderOf", "(I)LRookWords$Ladder;"⟩, 10) := ⟨⟨by decide +kernel, by decide +kernel⟩, List.mem_of_getElem? (i := 18) (by decide +kernel), List.mem_of_getElem? (i := 520) (by decide +kernel), List.mem_of_getElem? (i := 521) (by decide +kernel)⟩
theorem lw_p8 : lw_okq (⟨"RookWords$Ladder", "sortIn", "(I)V"⟩, 7) := ⟨⟨by decide +kernel, by decide +kernel⟩, List.mem_of_getElem? (i := 523) (by decide +kernel), List.mem_of_getElem? (i := 543) (by decide +kernel), List.mem_of_getElem? (i := 544) (by decide +kernel)⟩
theorem lw_p9 : lw_okq (⟨"RookWords$Ladder", "firstPartFrom", "(J)I"⟩, 7) := ⟨⟨by decide +kernel, by decide +kernel⟩, List.mem_of_getElem? (i := 523) (by decide +kernel), List.mem_of_getElem? (i := 547) (by decide +kernel), List.mem_of_getElem? (i := 548) (by decide +kernel)⟩
theorem lw_p10 : lw_okq (⟨"RookWords$Rooks", "placeOne", "(LRookWords$Board;II)V"⟩, 5) := ⟨⟨by decide +kernel, by decide +kernel⟩, List.mem_of_getElem? (i := 202) (by decide +kernel), List.mem_of_getElem? (i := 597) (by decide +kernel), List.mem_of_getElem? (i := 598) (by decide +kernel)⟩
theorem lw_p11 : lw_okq (⟨"RookWords$Rooks", "leastFrom", "(LRookWords$Board;[III)I"⟩, 5) := ⟨⟨by decide +kernel, by decide +kernel⟩, List.mem_of_getElem? (i := 202) (by decide +kernel), List.mem_of_getElem? (i := 681) (by decide +kernel), List.mem_of_getElem? (i := 682) (by decide +kernel)⟩
theorem lw_p12 : lw_okq (⟨"RookWords$Rooks", "leastWith", "([IIII)I"⟩, 5) := ⟨⟨by decide +kernel, by decide +kernel⟩, List.mem_of_getElem? (i := 202) (by decide +kernel), List.mem_of_getElem? (i := 686) (by decide +kernel), List.mem_of_getElem? (i := 687) (by decide +kernel)⟩
theorem lw_p13 : lw_okq (⟨"RookWords$Rooks", "columnOfLeast", "(LRookWords$Board;[III)I"⟩, 5) := ⟨⟨by decide +kernel, by decide +kernel⟩, List.mem_of_getElem? (i := 202) (by decide +kernel), List.mem_of_getElem? (i := 695) (by decide +kernel), List.mem_of_getElem? (i := 696) (by decide +kernel)⟩
theorem lw_p14 : lw_okq (⟨"RookWords$Rooks", "weighStands", "(LRookWords$Board;[II)I"⟩, 5) := ⟨⟨by decide +kernel, by decide +kernel⟩, List.mem_of_getElem? (i := 202) (by decide +kernel), List.mem_of_getElem? (i := 707) (by decide +kernel), List.mem_of_getElem? (i := 708) (by decide +kernel)⟩
theorem lw_p15 : lw_okq (⟨"RookWords$Text", "isLetter", "(I)Z"⟩, 4) := ⟨⟨by decide +kernel, by decide +kernel⟩, List.mem_of_getElem? (i := 146) (by decide +kernel), List.mem_of_getElem? (i := 763) (by decide +kernel), List.mem_of_getElem? (i := 764) (by decide +kernel)⟩
def lw_privs_1 : List (MethodName × Nat) := [(⟨"RookWords$Word", "pushPairs", "(III)V"⟩, 2), (⟨"RookWords$Word", "pushGrowing", "(I)V"⟩, 2), (⟨"RookWords$Sum", "begin", "()V"⟩, 2), (⟨"RookWords$Sum", "settle", "()V"⟩, 2), (⟨"RookWords$Sum", "comingByUp", "()Z"⟩, 2), (⟨"RookWords$Sum", "comingByDown", "()Z"⟩, 2), (⟨"RookWords$Changes", "dropOldest", "()V"⟩, 5), (⟨"RookWords", "ladderOf", "(I)LRookWords$Ladder;"⟩, 10), (⟨"RookWords$Ladder", "sortIn", "(I)V"⟩, 7), (⟨"RookWords$Ladder", "firstPartFrom", "(J)I"⟩, 7), (⟨"RookWords$Rooks", "placeOne", "(LRookWords$Board;II)V"⟩, 5), (⟨"RookWords$Rooks", "leastFrom", "(LRookWords$Board;[III)I"⟩, 5), (⟨"RookWords$Rooks", "leastWith", "([IIII)I"⟩, 5), (⟨"RookWords$Rooks", "columnOfLeast", "(LRookWords$Board;[III)I"⟩, 5), (⟨"RookWords$Rooks", "weighStands", "(LRookWords$Board;[II)I"⟩, 5), (⟨"RookWords$Text", "isLetter", "(I)Z"⟩, 4)]
theorem lw_r1 : ∀ q ∈ lw_privs_1, lw_okq q := List.forall_mem_cons.mpr ⟨lw_p0, List.forall_mem_cons.mpr ⟨lw_p1, List.forall_mem_cons.mpr ⟨lw_p2, List.forall_mem_cons.mpr ⟨lw_p3, List.forall_mem_cons.mpr ⟨lw_p4, List.forall_mem_cons.mpr ⟨lw_p5, List.forall_mem_cons.mpr ⟨lw_p6, List.forall_mem_cons.mpr ⟨lw_p7, List.forall_mem_cons.mpr ⟨lw_p8, List.forall_mem_cons.mpr ⟨lw_p9, List.forall_mem_cons.mpr ⟨lw_p10, List.forall_mem_cons.mpr ⟨lw_p11, List.forall_mem_cons.mpr ⟨lw_p12, List.forall_mem_cons.mpr ⟨lw_p13, List.forall_mem_cons.mpr ⟨lw_p14, List.forall_mem_cons.mpr ⟨lw_p15, fun _ h => absurd h List.not_mem_nil⟩⟩⟩⟩⟩⟩⟩⟩⟩⟩⟩⟩⟩⟩⟩⟩
theorem lw_p16 : lw_okq (⟨"RookWords$Text", "isFigure", "(I)Z"⟩, 4) := ⟨⟨by decide +kernel, by decide +kernel⟩, List.mem_of_getElem? (i := 146) (by decide +kernel), List.mem_of_getElem? (i := 767) (by decide +kernel), List.mem_of_getElem? (i := 768) (by decide +kernel)⟩
theorem lw_p17 : lw_okq (⟨"RookWords$Text", "repeat", "(III)I"⟩, 4) := ⟨⟨by decide +kernel, by decide +kernel⟩, List.mem_of_getElem? (i := 146) (by decide +kernel), List.mem_of_getElem? (i := 777) (by decide +kernel), List.mem_of_getElem? (i := 778) (by decide +kernel)⟩
theorem lw_p18 : lw_okq (⟨"RookWords$Paper", "putByte", "(I)V"⟩, 2) := ⟨⟨by decide +kernel, by decide +kernel⟩, List.mem_of_getElem? (i := 167) (by decide +kernel), List.mem_of_getElem? (i := 793) (by decide +kernel), List.mem_of_getElem? (i := 794) (by decide +kernel)⟩
theorem lw_p19 : lw_okq (⟨"RookWordsModel", "comes", "(III)V"⟩, 51) := ⟨⟨by decide +kernel, by decide +kernel⟩, List.mem_of_getElem? (i := 880) (by decide +kernel), List.mem_of_getElem? (i := 1060) (by decide +kernel), List.mem_of_getElem? (i := 1061) (by decide +kernel)⟩
theorem lw_p20 : lw_okq (⟨"RookWordsModel", "lettersU", "(I)I"⟩, 51) := ⟨⟨by decide +kernel, by decide +kernel⟩, List.mem_of_getElem? (i := 880) (by decide +kernel), List.mem_of_getElem? (i := 1076) (by decide +kernel), List.mem_of_getElem? (i := 1077) (by decide +kernel)⟩
theorem lw_p21 : lw_okq (⟨"RookWordsModel", "layOrders", "(I)V"⟩, 51) := ⟨⟨by decide +kernel, by decide +kernel⟩, List.mem_of_getElem? (i := 880) (by decide +kernel), List.mem_of_getElem? (i := 1090) (by decide +kernel), List.mem_of_getElem? (i := 1091) (by decide +kernel)⟩
theorem lw_p22 : lw_okq (⟨"RookWordsModel", "numbersMany", "()I"⟩, 51) := ⟨⟨by decide +kernel, by decide +kernel⟩, List.mem_of_getElem? (i := 880) (by decide +kernel), List.mem_of_getElem? (i := 1098) (by decide +kernel), List.mem_of_getElem? (i := 1099) (by decide +kernel)⟩
theorem lw_p23 : lw_okq (⟨"RookWordsModel", "isTimes", "(I)Z"⟩, 51) := ⟨⟨by decide +kernel, by decide +kernel⟩, List.mem_of_getElem? (i := 880) (by decide +kernel), List.mem_of_getElem? (i := 1114) (by decide +kernel), List.mem_of_getElem? (i := 1115) (by decide +kernel)⟩
theorem lw_p24 : lw_okq (⟨"RookWordsModel", "bare", "(II)V"⟩, 51) := ⟨⟨by decide +kernel, by decide +kernel⟩, List.mem_of_getElem? (i := 880) (by decide +kernel), List.mem_of_getElem? (i := 1127) (by decide +kernel), List.mem_of_getElem? (i := 1128) (by decide +kernel)⟩
theorem lw_p25 : lw_okq (⟨"RookWordsModel", "keep", "(III)V"⟩, 51) := ⟨⟨by decide +kernel, by decide +kernel⟩, List.mem_of_getElem? (i := 880) (by decide +kernel), List.mem_of_getElem? (i := 1135) (by decide +kernel), List.mem_of_getElem? (i := 1136) (by decide +kernel)⟩
theorem lw_p26 : lw_okq (⟨"RookWordsModel", "cells", "(I)I"⟩, 51) := ⟨⟨by decide +kernel, by decide +kernel⟩, List.mem_of_getElem? (i := 880) (by decide +kernel), List.mem_of_getElem? (i := 1139) (by decide +kernel), List.mem_of_getElem? (i := 1140) (by decide +kernel)⟩
theorem lw_p27 : lw_okq (⟨"RookWordsModel", "has", "(III)Z"⟩, 51) := ⟨⟨by decide +kernel, by decide +kernel⟩, List.mem_of_getElem? (i := 880) (by decide +kernel), List.mem_of_getElem? (i := 1162) (by decide +kernel), List.mem_of_getElem? (i := 1163) (by decide +kernel)⟩
theorem lw_p28 : lw_okq (⟨"RookWordsModel", "layCounts", "(I)V"⟩, 51) := ⟨⟨by decide +kernel, by decide +kernel⟩, List.mem_of_getElem? (i := 880) (by decide +kernel), List.mem_of_getElem? (i := 1178) (by decide +kernel), List.mem_of_getElem? (i := 1179) (by decide +kernel)⟩
theorem lw_p29 : lw_okq (⟨"RookWordsModel", "layHits", "(I)V"⟩, 51) := ⟨⟨by decide +kernel, by decide +kernel⟩, List.mem_of_getElem? (i := 880) (by decide +kernel), List.mem_of_getElem? (i := 1186) (by decide +kernel), List.mem_of_getElem? (i := 1187) (by decide +kernel)⟩
theorem lw_p30 : lw_okq (⟨"RookWordsModel", "hitsOf", "(II)I"⟩, 51) := ⟨⟨by decide +kernel, by decide +kernel⟩, List.mem_of_getElem? (i := 880) (by decide +kernel), List.mem_of_getElem? (i := 1190) (by decide +kernel), List.mem_of_getElem? (i := 1191) (by decide +kernel)⟩
theorem lw_p31 : lw_okq (⟨"RookWordsModel", "isSteps", "(I)Z"⟩, 51) := ⟨⟨by decide +kernel, by decide +kernel⟩, List.mem_of_getElem? (i := 880) (by decide +kernel), List.mem_of_getElem? (i := 1202) (by decide +kernel), List.mem_of_getElem? (i := 1203) (by decide +kernel)⟩
def lw_privs_2 : List (MethodName × Nat) := [(⟨"RookWords$Text", "isFigure", "(I)Z"⟩, 4), (⟨"RookWords$Text", "repeat", "(III)I"⟩, 4), (⟨"RookWords$Paper", "putByte", "(I)V"⟩, 2), (⟨"RookWordsModel", "comes", "(III)V"⟩, 51), (⟨"RookWordsModel", "lettersU", "(I)I"⟩, 51), (⟨"RookWordsModel", "layOrders", "(I)V"⟩, 51), (⟨"RookWordsModel", "numbersMany", "()I"⟩, 51), (⟨"RookWordsModel", "isTimes", "(I)Z"⟩, 51), (⟨"RookWordsModel", "bare", "(II)V"⟩, 51), (⟨"RookWordsModel", "keep", "(III)V"⟩, 51), (⟨"RookWordsModel", "cells", "(I)I"⟩, 51), (⟨"RookWordsModel", "has", "(III)Z"⟩, 51), (⟨"RookWordsModel", "layCounts", "(I)V"⟩, 51), (⟨"RookWordsModel", "layHits", "(I)V"⟩, 51), (⟨"RookWordsModel", "hitsOf", "(II)I"⟩, 51), (⟨"RookWordsModel", "isSteps", "(I)Z"⟩, 51)]
theorem lw_r2 : ∀ q ∈ lw_privs_2, lw_okq q := List.forall_mem_cons.mpr ⟨lw_p16, List.forall_mem_cons.mpr ⟨lw_p17, List.forall_mem_cons.mpr ⟨lw_p18, List.forall_mem_cons.mpr ⟨lw_p19, List.forall_mem_cons.mpr ⟨lw_p20, List.forall_mem_cons.mpr ⟨lw_p21, List.forall_mem_cons.mpr ⟨lw_p22, List.forall_mem_cons.mpr ⟨lw_p23, List.forall_mem_cons.mpr ⟨lw_p24, List.forall_mem_cons.mpr ⟨lw_p25, List.forall_mem_cons.mpr ⟨lw_p26, List.forall_mem_cons.mpr ⟨lw_p27, List.forall_mem_cons.mpr ⟨lw_p28, List.forall_mem_cons.mpr ⟨lw_p29, List.forall_mem_cons.mpr ⟨lw_p30, List.forall_mem_cons.mpr ⟨lw_p31, fun _ h => absurd h List.not_mem_nil⟩⟩⟩⟩⟩⟩⟩⟩⟩⟩⟩⟩⟩⟩⟩⟩
theorem lw_p32 : lw_okq (⟨"RookWordsModel", "numberOf", "(I)I"⟩, 51) := ⟨⟨by decide +kernel, by decide +kernel⟩, List.mem_of_getElem? (i := 880) (by decide +kernel), List.mem_of_getElem? (i := 1211) (by decide +kernel), List.mem_of_getElem? (i := 1212) (by decide +kernel)⟩
theorem lw_p33 : lw_okq (⟨"RookWordsModel", "layAll", "(I)V"⟩, 51) := ⟨⟨by decide +kernel, by decide +kernel⟩, List.mem_of_getElem? (i := 880) (by decide +kernel), List.mem_of_getElem? (i := 1215) (by decide +kernel), List.mem_of_getElem? (i := 1216) (by decide +kernel)⟩
theorem lw_p34 : lw_okq (⟨"RookWordsModel", "layOne", "(I)V"⟩, 51) := ⟨⟨by decide +kernel, by decide +kernel⟩, List.mem_of_getElem? (i := 880) (by decide +kernel), List.mem_of_getElem? (i := 1219) (by decide +kernel), List.mem_of_getElem? (i := 1220) (by decide +kernel)⟩
theorem lw_p35 : lw_okq (⟨"RookWordsModel", "nextClass", "(I)I"⟩, 51) := ⟨⟨by decide +kernel, by decide +kernel⟩, List.mem_of_getElem? (i := 880) (by decide +kernel), List.mem_of_getElem? (i := 1236) (by decide +kernel), List.mem_of_getElem? (i := 1237) (by decide +kernel)⟩
theorem lw_p36 : lw_okq (⟨"RookWordsModel", "compared", "(II)I"⟩, 51) := ⟨⟨by decide +kernel, by decide +kernel⟩, List.mem_of_getElem? (i := 880) (by decide +kernel), List.mem_of_getElem? (i := 1240) (by decide +kernel), List.mem_of_getElem? (i := 1241) (by decide +kernel)⟩
theorem lw_p37 : lw_okq (⟨"RookWordsModel", "partOf", "(I)I"⟩, 51) := ⟨⟨by decide +kernel, by decide +kernel⟩, List.mem_of_getElem? (i := 880) (by decide +kernel), List.mem_of_getElem? (i := 1244) (by decide +kernel), List.mem_of_getElem? (i := 1245) (by decide +kernel)⟩
theorem lw_p38 : lw_okq (⟨"RookWordsModel", "begin", "()V"⟩, 51) := ⟨⟨by decide +kernel, by decide +kernel⟩, List.mem_of_getElem? (i := 880) (by decide +kernel), List.mem_of_getElem? (i := 1266) (by decide +kernel), List.mem_of_getElem? (i := 1267) (by decide +kernel)⟩
theorem lw_p39 : lw_okq (⟨"RookWordsModel", "goesOn", "(II)Z"⟩, 51) := ⟨⟨by decide +kernel, by decide +kernel⟩, List.mem_of_getElem? (i := 880) (by decide +kernel), List.mem_of_getElem? (i := 1270) (by decide +kernel), List.mem_of_getElem? (i := 1271) (by decide +kernel)⟩
theorem lw_p40 : lw_okq (⟨"RookWordsModel", "lift", "(I)V"⟩, 51) := ⟨⟨by decide +kernel, by decide +kernel⟩, List.mem_of_getElem? (i := 880) (by decide +kernel), List.mem_of_getElem? (i := 1274) (by decide +kernel), List.mem_of_getElem? (i := 1275) (by decide +kernel)⟩
theorem lw_p41 : lw_okq (⟨"RookWordsModel", "mayStand", "(III)Z"⟩, 51) := ⟨⟨by decide +kernel, by decide +kernel⟩, List.mem_of_getElem? (i := 880) (by decide +kernel), List.mem_of_getElem? (i := 1278) (by decide +kernel), List.mem_of_getElem? (i := 1279) (by decide +kernel)⟩
theorem lw_p42 : lw_okq (⟨"RookWordsModel", "layMade", "(I)V"⟩, 51) := ⟨⟨by decide +kernel, by decide +kernel⟩, List.mem_of_getElem? (i := 880) (by decide +kernel), List.mem_of_getElem? (i := 1282) (by decide +kernel), List.mem_of_getElem? (i := 1283) (by decide +kernel)⟩
theorem lw_p43 : lw_okq (⟨"RookWordsModel", "columnAt", "(II)I"⟩, 51) := ⟨⟨by decide +kernel, by decide +kernel⟩, List.mem_of_getElem? (i := 880) (by decide +kernel), List.mem_of_getElem? (i := 1286) (by decide +kernel), List.mem_of_getElem? (i := 1287) (by decide +kernel)⟩
theorem lw_p44 : lw_okq (⟨"RookWordsModel", "draw", "(I)I"⟩, 51) := ⟨⟨by decide +kernel, by decide +kernel⟩, List.mem_of_getElem? (i := 880) (by decide +kernel), List.mem_of_getElem? (i := 1316) (by decide +kernel), List.mem_of_getElem? (i := 1317) (by decide +kernel)⟩
theorem lw_p45 : lw_okq (⟨"RookWordsModel", "faultAt", "()I"⟩, 51) := ⟨⟨by decide +kernel, by decide +kernel⟩, List.mem_of_getElem? (i := 880) (by decide +kernel), List.mem_of_getElem? (i := 1332) (by decide +kernel), List.mem_of_getElem? (i := 1333) (by decide +kernel)⟩
theorem lw_p46 : lw_okq (⟨"RookWordsModel", "textLetters", "()I"⟩, 51) := ⟨⟨by decide +kernel, by decide +kernel⟩, List.mem_of_getElem? (i := 880) (by decide +kernel), List.mem_of_getElem? (i := 1338) (by decide +kernel), List.mem_of_getElem? (i := 1339) (by decide +kernel)⟩
theorem lw_p47 : lw_okq (⟨"RookWordsModel", "lay", "(I)V"⟩, 51) := ⟨⟨by decide +kernel, by decide +kernel⟩, List.mem_of_getElem? (i := 880) (by decide +kernel), List.mem_of_getElem? (i := 1346) (by decide +kernel), List.mem_of_getElem? (i := 1347) (by decide +kernel)⟩
def lw_privs_3 : List (MethodName × Nat) := [(⟨"RookWordsModel", "numberOf", "(I)I"⟩, 51), (⟨"RookWordsModel", "layAll", "(I)V"⟩, 51), (⟨"RookWordsModel", "layOne", "(I)V"⟩, 51), (⟨"RookWordsModel", "nextClass", "(I)I"⟩, 51), (⟨"RookWordsModel", "compared", "(II)I"⟩, 51), (⟨"RookWordsModel", "partOf", "(I)I"⟩, 51), (⟨"RookWordsModel", "begin", "()V"⟩, 51), (⟨"RookWordsModel", "goesOn", "(II)Z"⟩, 51), (⟨"RookWordsModel", "lift", "(I)V"⟩, 51), (⟨"RookWordsModel", "mayStand", "(III)Z"⟩, 51), (⟨"RookWordsModel", "layMade", "(I)V"⟩, 51), (⟨"RookWordsModel", "columnAt", "(II)I"⟩, 51), (⟨"RookWordsModel", "draw", "(I)I"⟩, 51), (⟨"RookWordsModel", "faultAt", "()I"⟩, 51), (⟨"RookWordsModel", "textLetters", "()I"⟩, 51), (⟨"RookWordsModel", "lay", "(I)V"⟩, 51)]
theorem lw_r3 : ∀ q ∈ lw_privs_3, lw_okq q := List.forall_mem_cons.mpr ⟨lw_p32, List.forall_mem_cons.mpr ⟨lw_p33, List.forall_mem_cons.mpr ⟨lw_p34, List.forall_mem_cons.mpr ⟨lw_p35, List.forall_mem_cons.mpr ⟨lw_p36, List.forall_mem_cons.mpr ⟨lw_p37, List.forall_mem_cons.mpr ⟨lw_p38, List.forall_mem_cons.mpr ⟨lw_p39, List.forall_mem_cons.mpr ⟨lw_p40, List.forall_mem_cons.mpr ⟨lw_p41, List.forall_mem_cons.mpr ⟨lw_p42, List.forall_mem_cons.mpr ⟨lw_p43, List.forall_mem_cons.mpr ⟨lw_p44, List.forall_mem_cons.mpr ⟨lw_p45, List.forall_mem_cons.mpr ⟨lw_p46, List.forall_mem_cons.mpr ⟨lw_p47, fun _ h => absurd h List.not_mem_nil⟩⟩⟩⟩⟩⟩⟩⟩⟩⟩⟩⟩⟩⟩⟩⟩
theorem lw_p48 : lw_okq (⟨"RookWordsModel", "allLetters", "()I"⟩, 51) := ⟨⟨by decide +kernel, by decide +kernel⟩, List.mem_of_getElem? (i := 880) (by decide +kernel), List.mem_of_getElem? (i := 1362) (by decide +kernel), List.mem_of_getElem? (i := 1363) (by decide +kernel)⟩
def lw_privs_4 : List (MethodName × Nat) := [(⟨"RookWordsModel", "allLetters", "()I"⟩, 51)]
theorem lw_r4 : ∀ q ∈ lw_privs_4, lw_okq q := List.forall_mem_cons.mpr ⟨lw_p48, fun _ h => absurd h List.not_mem_nil⟩
def lw_privs : List (MethodName × Nat) := lw_privs_1 ++ (lw_privs_2 ++ (lw_privs_3 ++ (lw_privs_4)))
def lw_tbl : List Cond := k2_sels lw_privs ++ tables_1
theorem lw_privs_ok : ∀ q ∈ lw_privs, lw_okq q := by
  show ∀ q ∈ lw_privs_1 ++ (lw_privs_2 ++ (lw_privs_3 ++ (lw_privs_4))), lw_okq q
  exact List.forall_mem_append.mpr ⟨lw_r1, List.forall_mem_append.mpr ⟨lw_r2, List.forall_mem_append.mpr ⟨lw_r3, lw_r4⟩⟩⟩
def RX0 : String := "RookWords$Board"
def TX0 : u_T := fun k => match k with
  | 0 => ("RookWords$Board", "side", "I", false)
  | _ => ("RookWords$Board", "rows", "[I", true)
def tyX0 : Nat → FieldType := fun k => match k with
  | 0 => .int
  | _ => .array .int
set_option maxRecDepth 20000 in
theorem nmX0 : ∀ a, a < 2 → ∀ b, b < 2 → a ≠ b → (TX0 a).2.1 ≠ (TX0 b).2.1 := by decide +kernel
set_option maxRecDepth 20000 in
theorem tyX0_ok : ∀ k, k < 2 → parseFieldDescriptor (TX0 k).2.2.1 = some (tyX0 k) := by decide +kernel
abbrev cX0_init : ByteArray := prog_2_method_1_code
def yX0_init : MethodName := ⟨RX0, "<init>", "()V"⟩
abbrev cX0_clean : ByteArray := prog_2_method_2_code
def yX0_clean : MethodName := ⟨RX0, "clean", "(I)V"⟩
abbrev cX0_becomeLike : ByteArray := prog_2_method_3_code
def yX0_becomeLike : MethodName := ⟨RX0, "becomeLike", "(LRookWords$Board;)V"⟩
abbrev cX0_isPlace : ByteArray := prog_2_method_4_code
def yX0_isPlace : MethodName := ⟨RX0, "isPlace", "(II)Z"⟩
abbrev cX0_has : ByteArray := prog_2_method_5_code
def yX0_has : MethodName := ⟨RX0, "has", "(II)Z"⟩
abbrev cX0_toggle : ByteArray := prog_2_method_6_code
def yX0_toggle : MethodName := ⟨RX0, "toggle", "(II)V"⟩
abbrev cX0_cells : ByteArray := prog_2_method_7_code
def yX0_cells : MethodName := ⟨RX0, "cells", "()I"⟩
abbrev cX0_becomeWord : ByteArray := prog_2_method_8_code
def yX0_becomeWord : MethodName := ⟨RX0, "becomeWord", "(LRookWords$Word;)V"⟩
abbrev cX0_becomeSteps : ByteArray := prog_2_method_9_code
def yX0_becomeSteps : MethodName := ⟨RX0, "becomeSteps", "(II)V"⟩
abbrev cX0_becomeOther : ByteArray := prog_2_method_10_code
def yX0_becomeOther : MethodName := ⟨RX0, "becomeOther", "()V"⟩
abbrev cX0_becomeTurned : ByteArray := prog_2_method_11_code
def yX0_becomeTurned : MethodName := ⟨RX0, "becomeTurned", "()V"⟩
abbrev cX0_becomeFlipped : ByteArray := prog_2_method_12_code
def yX0_becomeFlipped : MethodName := ⟨RX0, "becomeFlipped", "()V"⟩
abbrev cX0_isSteps : ByteArray := prog_2_method_13_code
def yX0_isSteps : MethodName := ⟨RX0, "isSteps", "()Z"⟩
abbrev cX0_height : ByteArray := prog_2_method_14_code
def yX0_height : MethodName := ⟨RX0, "height", "(I)I"⟩
abbrev cX0_heightDigits : ByteArray := prog_2_method_15_code
def yX0_heightDigits : MethodName := ⟨RX0, "heightDigits", "()I"⟩
def RX1 : String := "RookWords$Changes"
def TX1 : u_T := fun k => match k with
  | 0 => ("RookWords$Changes", "boards", "[I", true)
  | 1 => ("RookWords$Changes", "rows", "[I", true)
  | 2 => ("RookWords$Changes", "columns", "[I", true)
  | 3 => ("RookWords$Changes", "weights", "[I", true)
  | _ => ("RookWords$Changes", "size", "I", false)
def tyX1 : Nat → FieldType := fun k => match k with
  | 0 => .array .int
  | 1 => .array .int
  | 2 => .array .int
  | 3 => .array .int
  | _ => .int
set_option maxRecDepth 20000 in
theorem nmX1 : ∀ a, a < 5 → ∀ b, b < 5 → a ≠ b → (TX1 a).2.1 ≠ (TX1 b).2.1 := by decide +kernel
set_option maxRecDepth 20000 in
theorem tyX1_ok : ∀ k, k < 5 → parseFieldDescriptor (TX1 k).2.2.1 = some (tyX1 k) := by decide +kernel
abbrev cX1_init : ByteArray := prog_3_method_1_code
def yX1_init : MethodName := ⟨RX1, "<init>", "()V"⟩
abbrev cX1_forget : ByteArray := prog_3_method_2_code
def yX1_forget : MethodName := ⟨RX1, "forget", "()V"⟩
abbrev cX1_keep : ByteArray := prog_3_method_3_code
def yX1_keep : MethodName := ⟨RX1, "keep", "(IIII)V"⟩
abbrev cX1_dropOldest : ByteArray := prog_3_method_4_code
def yX1_dropOldest : MethodName := ⟨RX1, "dropOldest", "()V"⟩
abbrev cX1_undoLatest : ByteArray := prog_3_method_5_code
def yX1_undoLatest : MethodName := ⟨RX1, "undoLatest", "(LRookWords$State;)V"⟩
def RX2 : String := "RookWords$Ladder"
def TX2 : u_T := fun k => match k with
  | 0 => ("RookWords$Ladder", "size", "I", true)
  | 1 => ("RookWords$Ladder", "heights", "[I", true)
  | 2 => ("RookWords$Ladder", "keys", "[J", true)
  | 3 => ("RookWords$Ladder", "parts", "I", false)
  | 4 => ("RookWords$Ladder", "partKeys", "[J", true)
  | 5 => ("RookWords$Ladder", "partSizes", "[I", true)
  | _ => ("RookWords$Ladder", "partFirsts", "[I", true)
def tyX2 : Nat → FieldType := fun k => match k with
  | 0 => .int
  | 1 => .array .int
  | 2 => .array .long
  | 3 => .int
  | 4 => .array .long
  | 5 => .array .int
  | _ => .array .int
set_option maxRecDepth 20000 in
theorem nmX2 : ∀ a, a < 7 → ∀ b, b < 7 → a ≠ b → (TX2 a).2.1 ≠ (TX2 b).2.1 := by decide +kernel
set_option maxRecDepth 20000 in
theorem tyX2_ok : ∀ k, k < 7 → parseFieldDescriptor (TX2 k).2.2.1 = some (tyX2 k) := by decide +kernel
abbrev cX2_init : ByteArray := prog_4_method_1_code
def yX2_init : MethodName := ⟨RX2, "<init>", "(I)V"⟩
abbrev cX2_fillCounts : ByteArray := prog_4_method_2_code
def yX2_fillCounts : MethodName := ⟨RX2, "fillCounts", "([I[I)V"⟩
abbrev cX2_digitsOf : ByteArray := prog_4_method_3_code
def yX2_digitsOf : MethodName := ⟨RX2, "digitsOf", "([I)I"⟩
abbrev cX2_goOn : ByteArray := prog_4_method_4_code
def yX2_goOn : MethodName := ⟨RX2, "goOn", "([I)V"⟩
abbrev cX2_sortIn : ByteArray := prog_4_method_5_code
def yX2_sortIn : MethodName := ⟨RX2, "sortIn", "(I)V"⟩
abbrev cX2_firstPartFrom : ByteArray := prog_4_method_6_code
def yX2_firstPartFrom : MethodName := ⟨RX2, "firstPartFrom", "(J)I"⟩
abbrev cX2_partOf : ByteArray := prog_4_method_7_code
def yX2_partOf : MethodName := ⟨RX2, "partOf", "(J)I"⟩
abbrev cX2_greatestPart : ByteArray := prog_4_method_8_code
def yX2_greatestPart : MethodName := ⟨RX2, "greatestPart", "()I"⟩
abbrev cX2_numberOf : ByteArray := prog_4_method_9_code
def yX2_numberOf : MethodName := ⟨RX2, "numberOf", "(I)I"⟩
abbrev cX2_countInKey : ByteArray := prog_4_method_10_code
def yX2_countInKey : MethodName := ⟨RX2, "countInKey", "(JI)I"⟩
def RX3 : String := "RookWords$Paper"
def TX3 : u_T := fun k => match k with
  | 0 => ("RookWords$Paper", "bytes", "[I", true)
  | _ => ("RookWords$Paper", "size", "I", false)
def tyX3 : Nat → FieldType := fun k => match k with
  | 0 => .array .int
  | _ => .int
set_option maxRecDepth 20000 in
theorem nmX3 : ∀ a, a < 2 → ∀ b, b < 2 → a ≠ b → (TX3 a).2.1 ≠ (TX3 b).2.1 := by decide +kernel
set_option maxRecDepth 20000 in
theorem tyX3_ok : ∀ k, k < 2 → parseFieldDescriptor (TX3 k).2.2.1 = some (tyX3 k) := by decide +kernel
abbrev cX3_init : ByteArray := prog_5_method_1_code
def yX3_init : MethodName := ⟨RX3, "<init>", "()V"⟩
abbrev cX3_putWord : ByteArray := prog_5_method_2_code
def yX3_putWord : MethodName := ⟨RX3, "putWord", "(LRookWords$Word;)V"⟩
abbrev cX3_putByte : ByteArray := prog_5_method_3_code
def yX3_putByte : MethodName := ⟨RX3, "putByte", "(I)V"⟩
def RX4 : String := "RookWords$Rooks"
def TX4 : u_T := fun k => match k with
  | 0 => ("RookWords$Rooks", "ways", "[I", true)
  | 1 => ("RookWords$Rooks", "counts", "[I", true)
  | 2 => ("RookWords$Rooks", "least", "[I", true)
  | 3 => ("RookWords$Rooks", "standWeights", "[I", true)
  | _ => ("RookWords$Rooks", "tally", "[I", true)
def tyX4 : Nat → FieldType := fun k => match k with
  | 0 => .array .int
  | 1 => .array .int
  | 2 => .array .int
  | 3 => .array .int
  | _ => .array .int
set_option maxRecDepth 20000 in
theorem nmX4 : ∀ a, a < 5 → ∀ b, b < 5 → a ≠ b → (TX4 a).2.1 ≠ (TX4 b).2.1 := by decide +kernel
set_option maxRecDepth 20000 in
theorem tyX4_ok : ∀ k, k < 5 → parseFieldDescriptor (TX4 k).2.2.1 = some (tyX4 k) := by decide +kernel
abbrev cX4_init : ByteArray := prog_6_method_1_code
def yX4_init : MethodName := ⟨RX4, "<init>", "()V"⟩
abbrev cX4_countsOf : ByteArray := prog_6_method_2_code
def yX4_countsOf : MethodName := ⟨RX4, "countsOf", "(LRookWords$Board;)[I"⟩
abbrev cX4_placeOne : ByteArray := prog_6_method_3_code
def yX4_placeOne : MethodName := ⟨RX4, "placeOne", "(LRookWords$Board;II)V"⟩
abbrev cX4_hitsOf : ByteArray := prog_6_method_4_code
def yX4_hitsOf : MethodName := ⟨RX4, "hitsOf", "(LRookWords$Board;I)I"⟩
abbrev cX4_weighCheapest : ByteArray := prog_6_method_5_code
def yX4_weighCheapest : MethodName := ⟨RX4, "weighCheapest", "(LRookWords$Board;[II)I"⟩
abbrev cX4_leastFrom : ByteArray := prog_6_method_6_code
def yX4_leastFrom : MethodName := ⟨RX4, "leastFrom", "(LRookWords$Board;[III)I"⟩
abbrev cX4_leastWith : ByteArray := prog_6_method_7_code
def yX4_leastWith : MethodName := ⟨RX4, "leastWith", "([IIII)I"⟩
abbrev cX4_cheapestColumn : ByteArray := prog_6_method_8_code
def yX4_cheapestColumn : MethodName := ⟨RX4, "cheapestColumn", "(LRookWords$Board;[II)I"⟩
abbrev cX4_columnOfLeast : ByteArray := prog_6_method_9_code
def yX4_columnOfLeast : MethodName := ⟨RX4, "columnOfLeast", "(LRookWords$Board;[III)I"⟩
abbrev cX4_listedStand : ByteArray := prog_6_method_10_code
def yX4_listedStand : MethodName := ⟨RX4, "listedStand", "(LRookWords$Board;[III)I"⟩
abbrev cX4_listedWeight : ByteArray := prog_6_method_11_code
def yX4_listedWeight : MethodName := ⟨RX4, "listedWeight", "(I)I"⟩
abbrev cX4_weighStands : ByteArray := prog_6_method_12_code
def yX4_weighStands : MethodName := ⟨RX4, "weighStands", "(LRookWords$Board;[II)I"⟩
abbrev cX4_weightOfStand : ByteArray := prog_6_method_13_code
def yX4_weightOfStand : MethodName := ⟨RX4, "weightOfStand", "(LRookWords$Board;[III)I"⟩
abbrev cX4_columnInStand : ByteArray := prog_6_method_14_code
def yX4_columnInStand : MethodName := ⟨RX4, "columnInStand", "(III)I"⟩
abbrev cX4_drawLots : ByteArray := prog_6_method_15_code
def yX4_drawLots : MethodName := ⟨RX4, "drawLots", "(LRookWords$Board;IIZ)I"⟩
abbrev cX4_bitNumbered : ByteArray := prog_6_method_16_code
def yX4_bitNumbered : MethodName := ⟨RX4, "bitNumbered", "(II)I"⟩
def RX5 : String := "RookWords$State"
def TX5 : u_T := fun k => match k with
  | 0 => ("RookWords$State", "words", "[LRookWords$Word;", true)
  | 1 => ("RookWords$State", "sum", "LRookWords$Sum;", true)
  | 2 => ("RookWords$State", "boards", "[LRookWords$Board;", true)
  | 3 => ("RookWords$State", "weights", "[I", true)
  | 4 => ("RookWords$State", "seenRooks", "[I", true)
  | 5 => ("RookWords$State", "seenMany", "[I", true)
  | _ => ("RookWords$State", "seenSize", "I", false)
def tyX5 : Nat → FieldType := fun k => match k with
  | 0 => .array (.object "RookWords$Word")
  | 1 => .object "RookWords$Sum"
  | 2 => .array (.object "RookWords$Board")
  | 3 => .array .int
  | 4 => .array .int
  | 5 => .array .int
  | _ => .int
set_option maxRecDepth 20000 in
theorem nmX5 : ∀ a, a < 7 → ∀ b, b < 7 → a ≠ b → (TX5 a).2.1 ≠ (TX5 b).2.1 := by decide +kernel
set_option maxRecDepth 20000 in
theorem tyX5_ok : ∀ k, k < 7 → parseFieldDescriptor (TX5 k).2.2.1 = some (tyX5 k) := by decide +kernel
abbrev cX5_init : ByteArray := prog_7_method_1_code
def yX5_init : MethodName := ⟨RX5, "<init>", "()V"⟩
abbrev cX5_becomeLike : ByteArray := prog_7_method_2_code
def yX5_becomeLike : MethodName := ⟨RX5, "becomeLike", "(LRookWords$State;)V"⟩
abbrev cX5_allLetters : ByteArray := prog_7_method_3_code
def yX5_allLetters : MethodName := ⟨RX5, "allLetters", "()I"⟩
abbrev cX5_allCells : ByteArray := prog_7_method_4_code
def yX5_allCells : MethodName := ⟨RX5, "allCells", "()I"⟩
abbrev cX5_agreesWithSeen : ByteArray := prog_7_method_5_code
def yX5_agreesWithSeen : MethodName := ⟨RX5, "agreesWithSeen", "(J)Z"⟩
def RX6 : String := "RookWords$Sum"
def TX6 : u_T := fun k => match k with
  | 0 => ("RookWords$Sum", "numbers", "[J", true)
  | _ => ("RookWords$Sum", "coming", "[J", true)
def tyX6 : Nat → FieldType := fun k => match k with
  | 0 => .array .long
  | _ => .array .long
set_option maxRecDepth 20000 in
theorem nmX6 : ∀ a, a < 2 → ∀ b, b < 2 → a ≠ b → (TX6 a).2.1 ≠ (TX6 b).2.1 := by decide +kernel
set_option maxRecDepth 20000 in
theorem tyX6_ok : ∀ k, k < 2 → parseFieldDescriptor (TX6 k).2.2.1 = some (tyX6 k) := by decide +kernel
abbrev cX6_init : ByteArray := prog_8_method_1_code
def yX6_init : MethodName := ⟨RX6, "<init>", "()V"⟩
abbrev cX6_at : ByteArray := prog_8_method_2_code
def yX6_at : MethodName := ⟨RX6, "at", "(II)J"⟩
abbrev cX6_notZero : ByteArray := prog_8_method_3_code
def yX6_notZero : MethodName := ⟨RX6, "notZero", "()I"⟩
abbrev cX6_wipe : ByteArray := prog_8_method_4_code
def yX6_wipe : MethodName := ⟨RX6, "wipe", "()V"⟩
abbrev cX6_becomeLike : ByteArray := prog_8_method_5_code
def yX6_becomeLike : MethodName := ⟨RX6, "becomeLike", "(LRookWords$Sum;)V"⟩
abbrev cX6_isBeyond : ByteArray := prog_8_method_6_code
def yX6_isBeyond : MethodName := ⟨RX6, "isBeyond", "(J)Z"⟩
abbrev cX6_begin : ByteArray := prog_8_method_7_code
def yX6_begin : MethodName := ⟨RX6, "begin", "()V"⟩
abbrev cX6_settle : ByteArray := prog_8_method_8_code
def yX6_settle : MethodName := ⟨RX6, "settle", "()V"⟩
abbrev cX6_take : ByteArray := prog_8_method_9_code
def yX6_take : MethodName := ⟨RX6, "take", "([JIII)Z"⟩
abbrev cX6_multiply : ByteArray := prog_8_method_10_code
def yX6_multiply : MethodName := ⟨RX6, "multiply", "(LRookWords$Word;)Z"⟩
abbrev cX6_comingByUp : ByteArray := prog_8_method_11_code
def yX6_comingByUp : MethodName := ⟨RX6, "comingByUp", "()Z"⟩
abbrev cX6_comingByDown : ByteArray := prog_8_method_12_code
def yX6_comingByDown : MethodName := ⟨RX6, "comingByDown", "()Z"⟩
def RX7 : String := "RookWords$Tape"
def TX7 : u_T := fun k => match k with
  | 0 => ("RookWords$Tape", "sort", "I", false)
  | 1 => ("RookWords$Tape", "size", "I", false)
  | _ => ("RookWords$Tape", "items", "[J", true)
def tyX7 : Nat → FieldType := fun k => match k with
  | 0 => .int
  | 1 => .int
  | _ => .array .long
set_option maxRecDepth 20000 in
theorem nmX7 : ∀ a, a < 3 → ∀ b, b < 3 → a ≠ b → (TX7 a).2.1 ≠ (TX7 b).2.1 := by decide +kernel
set_option maxRecDepth 20000 in
theorem tyX7_ok : ∀ k, k < 3 → parseFieldDescriptor (TX7 k).2.2.1 = some (tyX7 k) := by decide +kernel
abbrev cX7_init : ByteArray := prog_9_method_1_code
def yX7_init : MethodName := ⟨RX7, "<init>", "()V"⟩
abbrev cX7_become : ByteArray := prog_9_method_2_code
def yX7_become : MethodName := ⟨RX7, "become", "(II)V"⟩
abbrev cX7_hasPart : ByteArray := prog_9_method_3_code
def yX7_hasPart : MethodName := ⟨RX7, "hasPart", "(II)Z"⟩
abbrev cX7_asItem : ByteArray := prog_9_method_4_code
def yX7_asItem : MethodName := ⟨RX7, "asItem", "(J)J"⟩
def RX8 : String := "RookWords$Text"
def TX8 : u_T := fun k => match k with
  | 0 => ("RookWords$Text", "bytes", "[I", true)
  | 1 => ("RookWords$Text", "size", "I", false)
  | 2 => ("RookWords$Text", "letters", "[I", true)
  | _ => ("RookWords$Text", "starts", "[I", true)
def tyX8 : Nat → FieldType := fun k => match k with
  | 0 => .array .int
  | 1 => .int
  | 2 => .array .int
  | _ => .array .int
set_option maxRecDepth 20000 in
theorem nmX8 : ∀ a, a < 4 → ∀ b, b < 4 → a ≠ b → (TX8 a).2.1 ≠ (TX8 b).2.1 := by decide +kernel
set_option maxRecDepth 20000 in
theorem tyX8_ok : ∀ k, k < 4 → parseFieldDescriptor (TX8 k).2.2.1 = some (tyX8 k) := by decide +kernel
abbrev cX8_init : ByteArray := prog_10_method_1_code
def yX8_init : MethodName := ⟨RX8, "<init>", "()V"⟩
abbrev cX8_push : ByteArray := prog_10_method_2_code
def yX8_push : MethodName := ⟨RX8, "push", "(I)Z"⟩
abbrev cX8_isFigure : ByteArray := prog_10_method_3_code
def yX8_isFigure : MethodName := ⟨RX8, "isFigure", "(I)Z"⟩
abbrev cX8_isLetter : ByteArray := prog_10_method_4_code
def yX8_isLetter : MethodName := ⟨RX8, "isLetter", "(I)Z"⟩
abbrev cX8_fault : ByteArray := prog_10_method_5_code
def yX8_fault : MethodName := ⟨RX8, "fault", "()I"⟩
abbrev cX8_spell : ByteArray := prog_10_method_6_code
def yX8_spell : MethodName := ⟨RX8, "spell", "()I"⟩
abbrev cX8_repeat : ByteArray := prog_10_method_7_code
def yX8_repeat : MethodName := ⟨RX8, "repeat", "(III)I"⟩
def RX9 : String := "RookWords$Word"
def TX9 : u_T := fun k => match k with
  | 0 => ("RookWords$Word", "letters", "[I", true)
  | _ => ("RookWords$Word", "size", "I", false)
def tyX9 : Nat → FieldType := fun k => match k with
  | 0 => .array .int
  | _ => .int
set_option maxRecDepth 20000 in
theorem nmX9 : ∀ a, a < 2 → ∀ b, b < 2 → a ≠ b → (TX9 a).2.1 ≠ (TX9 b).2.1 := by decide +kernel
set_option maxRecDepth 20000 in
theorem tyX9_ok : ∀ k, k < 2 → parseFieldDescriptor (TX9 k).2.2.1 = some (tyX9 k) := by decide +kernel
abbrev cX9_init : ByteArray := prog_11_method_1_code
def yX9_init : MethodName := ⟨RX9, "<init>", "()V"⟩
abbrev cX9_hasRoom : ByteArray := prog_11_method_2_code
def yX9_hasRoom : MethodName := ⟨RX9, "hasRoom", "(I)Z"⟩
abbrev cX9_push : ByteArray := prog_11_method_3_code
def yX9_push : MethodName := ⟨RX9, "push", "(II)V"⟩
abbrev cX9_fillByKind : ByteArray := prog_11_method_4_code
def yX9_fillByKind : MethodName := ⟨RX9, "fillByKind", "(II)V"⟩
abbrev cX9_pushPairs : ByteArray := prog_11_method_5_code
def yX9_pushPairs : MethodName := ⟨RX9, "pushPairs", "(III)V"⟩
abbrev cX9_pushGrowing : ByteArray := prog_11_method_6_code
def yX9_pushGrowing : MethodName := ⟨RX9, "pushGrowing", "(I)V"⟩
abbrev cX9_ups : ByteArray := prog_11_method_7_code
def yX9_ups : MethodName := ⟨RX9, "ups", "()I"⟩
abbrev cX9_downs : ByteArray := prog_11_method_8_code
def yX9_downs : MethodName := ⟨RX9, "downs", "()I"⟩
abbrev cX9_turnAbout : ByteArray := prog_11_method_9_code
def yX9_turnAbout : MethodName := ⟨RX9, "turnAbout", "()V"⟩
abbrev cX9_becomeLetters : ByteArray := prog_11_method_10_code
def yX9_becomeLetters : MethodName := ⟨RX9, "becomeLetters", "([II)V"⟩
abbrev cX9_fillOrders : ByteArray := prog_11_method_11_code
def yX9_fillOrders : MethodName := ⟨RX9, "fillOrders", "([J)V"⟩
def RX10 : String := "RookWords"
def TX10 : u_T := fun k => match k with
  | 0 => ("RookWords", "now", "LRookWords$State;", true)
  | 1 => ("RookWords", "kept", "LRookWords$State;", true)
  | 2 => ("RookWords", "imageTaken", "Z", false)
  | 3 => ("RookWords", "changes", "LRookWords$Changes;", true)
  | 4 => ("RookWords", "text", "LRookWords$Text;", true)
  | 5 => ("RookWords", "sheet", "LRookWords$Paper;", true)
  | 6 => ("RookWords", "tapes", "[LRookWords$Tape;", true)
  | 7 => ("RookWords", "rooks", "LRookWords$Rooks;", true)
  | 8 => ("RookWords", "ladders", "[LRookWords$Ladder;", true)
  | _ => ("RookWords", "orders", "[J", true)
def tyX10 : Nat → FieldType := fun k => match k with
  | 0 => .object "RookWords$State"
  | 1 => .object "RookWords$State"
  | 2 => .boolean
  | 3 => .object "RookWords$Changes"
  | 4 => .object "RookWords$Text"
  | 5 => .object "RookWords$Paper"
  | 6 => .array (.object "RookWords$Tape")
  | 7 => .object "RookWords$Rooks"
  | 8 => .array (.object "RookWords$Ladder")
  | _ => .array .long
set_option maxRecDepth 20000 in
theorem nmX10 : ∀ a, a < 10 → ∀ b, b < 10 → a ≠ b → (TX10 a).2.1 ≠ (TX10 b).2.1 := by decide +kernel
set_option maxRecDepth 20000 in
theorem tyX10_ok : ∀ k, k < 10 → parseFieldDescriptor (TX10 k).2.2.1 = some (tyX10 k) := by decide +kernel
abbrev cX10_init : ByteArray := prog_1_method_1_code
def yX10_init : MethodName := ⟨RX10, "<init>", "()V"⟩
abbrev cX10_letter : ByteArray := prog_1_method_2_code
def yX10_letter : MethodName := ⟨RX10, "letter", "(II)I"⟩
abbrev cX10_empty : ByteArray := prog_1_method_3_code
def yX10_empty : MethodName := ⟨RX10, "empty", "(I)I"⟩
abbrev cX10_make : ByteArray := prog_1_method_4_code
def yX10_make : MethodName := ⟨RX10, "make", "(III)I"⟩
abbrev cX10_join : ByteArray := prog_1_method_5_code
def yX10_join : MethodName := ⟨RX10, "join", "(II)I"⟩
abbrev cX10_turn : ByteArray := prog_1_method_6_code
def yX10_turn : MethodName := ⟨RX10, "turn", "(I)I"⟩
abbrev cX10_word : ByteArray := prog_1_method_7_code
def yX10_word : MethodName := ⟨RX10, "word", "(II)I"⟩
abbrev cX10_acted : ByteArray := prog_1_method_8_code
def yX10_acted : MethodName := ⟨RX10, "acted", "(III)J"⟩
abbrev cX10_order : ByteArray := prog_1_method_9_code
def yX10_order : MethodName := ⟨RX10, "order", "(II)J"⟩
abbrev cX10_clear : ByteArray := prog_1_method_10_code
def yX10_clear : MethodName := ⟨RX10, "clear", "()I"⟩
abbrev cX10_add : ByteArray := prog_1_method_11_code
def yX10_add : MethodName := ⟨RX10, "add", "(II)I"⟩
abbrev cX10_times : ByteArray := prog_1_method_12_code
def yX10_times : MethodName := ⟨RX10, "times", "(I)I"⟩
abbrev cX10_number : ByteArray := prog_1_method_13_code
def yX10_number : MethodName := ⟨RX10, "number", "(II)J"⟩
abbrev cX10_side : ByteArray := prog_1_method_14_code
def yX10_side : MethodName := ⟨RX10, "side", "(II)I"⟩
abbrev cX10_cell : ByteArray := prog_1_method_15_code
def yX10_cell : MethodName := ⟨RX10, "cell", "(III)I"⟩
abbrev cX10_board : ByteArray := prog_1_method_16_code
def yX10_board : MethodName := ⟨RX10, "board", "(II)I"⟩
abbrev cX10_steps : ByteArray := prog_1_method_17_code
def yX10_steps : MethodName := ⟨RX10, "steps", "(III)I"⟩
abbrev cX10_other : ByteArray := prog_1_method_18_code
def yX10_other : MethodName := ⟨RX10, "other", "(I)I"⟩
abbrev cX10_turned : ByteArray := prog_1_method_19_code
def yX10_turned : MethodName := ⟨RX10, "turned", "(I)I"⟩
abbrev cX10_flipped : ByteArray := prog_1_method_20_code
def yX10_flipped : MethodName := ⟨RX10, "flipped", "(I)I"⟩
abbrev cX10_row : ByteArray := prog_1_method_21_code
def yX10_row : MethodName := ⟨RX10, "row", "(II)I"⟩
abbrev cX10_of : ByteArray := prog_1_method_22_code
def yX10_of : MethodName := ⟨RX10, "of", "(II)I"⟩
abbrev cX10_count : ByteArray := prog_1_method_23_code
def yX10_count : MethodName := ⟨RX10, "count", "(II)I"⟩
abbrev cX10_hits : ByteArray := prog_1_method_24_code
def yX10_hits : MethodName := ⟨RX10, "hits", "(II)I"⟩
abbrev cX10_factored : ByteArray := prog_1_method_25_code
def yX10_factored : MethodName := ⟨RX10, "factored", "(II)J"⟩
abbrev cX10_bySteps : ByteArray := prog_1_method_26_code
def yX10_bySteps : MethodName := ⟨RX10, "bySteps", "(II)J"⟩
abbrev cX10_all : ByteArray := prog_1_method_27_code
def yX10_all : MethodName := ⟨RX10, "all", "(III)I"⟩
abbrev cX10_like : ByteArray := prog_1_method_28_code
def yX10_like : MethodName := ⟨RX10, "like", "(II)I"⟩
abbrev cX10_classes : ByteArray := prog_1_method_29_code
def yX10_classes : MethodName := ⟨RX10, "classes", "(III)I"⟩
abbrev cX10_see : ByteArray := prog_1_method_30_code
def yX10_see : MethodName := ⟨RX10, "see", "(II)I"⟩
abbrev cX10_fits : ByteArray := prog_1_method_31_code
def yX10_fits : MethodName := ⟨RX10, "fits", "(II)I"⟩
abbrev cX10_weight : ByteArray := prog_1_method_32_code
def yX10_weight : MethodName := ⟨RX10, "weight", "(III)I"⟩
abbrev cX10_cheapest : ByteArray := prog_1_method_33_code
def yX10_cheapest : MethodName := ⟨RX10, "cheapest", "(III)I"⟩
abbrev cX10_listed : ByteArray := prog_1_method_34_code
def yX10_listed : MethodName := ⟨RX10, "listed", "(IIII)I"⟩
abbrev cX10_odds : ByteArray := prog_1_method_35_code
def yX10_odds : MethodName := ⟨RX10, "odds", "(II)J"⟩
abbrev cX10_mean : ByteArray := prog_1_method_36_code
def yX10_mean : MethodName := ⟨RX10, "mean", "(II)J"⟩
abbrev cX10_lots : ByteArray := prog_1_method_37_code
def yX10_lots : MethodName := ⟨RX10, "lots", "(IIII)I"⟩
abbrev cX10_feed : ByteArray := prog_1_method_38_code
def yX10_feed : MethodName := ⟨RX10, "feed", "(I)I"⟩
abbrev cX10_read : ByteArray := prog_1_method_39_code
def yX10_read : MethodName := ⟨RX10, "read", "(I)I"⟩
abbrev cX10_write : ByteArray := prog_1_method_40_code
def yX10_write : MethodName := ⟨RX10, "write", "(I)I"⟩
abbrev cX10_paper : ByteArray := prog_1_method_41_code
def yX10_paper : MethodName := ⟨RX10, "paper", "(I)I"⟩
abbrev cX10_undo : ByteArray := prog_1_method_42_code
def yX10_undo : MethodName := ⟨RX10, "undo", "()I"⟩
abbrev cX10_image : ByteArray := prog_1_method_43_code
def yX10_image : MethodName := ⟨RX10, "image", "()I"⟩
abbrev cX10_restore : ByteArray := prog_1_method_44_code
def yX10_restore : MethodName := ⟨RX10, "restore", "()I"⟩
abbrev cX10_told : ByteArray := prog_1_method_45_code
def yX10_told : MethodName := ⟨RX10, "told", "(I)I"⟩
abbrev cX10_judge : ByteArray := prog_1_method_46_code
def yX10_judge : MethodName := ⟨RX10, "judge", "(III)I"⟩
abbrev cX10_tape : ByteArray := prog_1_method_47_code
def yX10_tape : MethodName := ⟨RX10, "tape", "(III)I"⟩
abbrev cX10_item : ByteArray := prog_1_method_48_code
def yX10_item : MethodName := ⟨RX10, "item", "(IIJ)I"⟩
abbrev cX10_peek : ByteArray := prog_1_method_49_code
def yX10_peek : MethodName := ⟨RX10, "peek", "(II)J"⟩
abbrev cX10_shift : ByteArray := prog_1_method_50_code
def yX10_shift : MethodName := ⟨RX10, "shift", "(IIIII)I"⟩
abbrev cX10_isPiece : ByteArray := prog_1_method_51_code
def yX10_isPiece : MethodName := ⟨RX10, "isPiece", "(I)Z"⟩
abbrev cX10_isSide : ByteArray := prog_1_method_52_code
def yX10_isSide : MethodName := ⟨RX10, "isSide", "(I)Z"⟩
abbrev cX10_areHeights : ByteArray := prog_1_method_53_code
def yX10_areHeights : MethodName := ⟨RX10, "areHeights", "(II)Z"⟩
abbrev cX10_digit : ByteArray := prog_1_method_54_code
def yX10_digit : MethodName := ⟨RX10, "digit", "(II)I"⟩
abbrev cX10_greatestStanding : ByteArray := prog_1_method_55_code
def yX10_greatestStanding : MethodName := ⟨RX10, "greatestStanding", "([I)I"⟩
abbrev cX10_inLowestTerms : ByteArray := prog_1_method_56_code
def yX10_inLowestTerms : MethodName := ⟨RX10, "inLowestTerms", "(III)J"⟩
abbrev cX10_keyOf : ByteArray := prog_1_method_57_code
def yX10_keyOf : MethodName := ⟨RX10, "keyOf", "([I)J"⟩
abbrev cX10_ladderOf : ByteArray := prog_1_method_58_code
def yX10_ladderOf : MethodName := ⟨RX10, "ladderOf", "(I)LRookWords$Ladder;"⟩
def RX11 : String := "RookWordsModel"
def TX11 : u_T := fun k => match k with
  | 0 => ("RookWordsModel", "wordMany", "[I", true)
  | 1 => ("RookWordsModel", "words", "[I", true)
  | 2 => ("RookWordsModel", "numbers", "[J", true)
  | 3 => ("RookWordsModel", "sides", "[I", true)
  | 4 => ("RookWordsModel", "boards", "[I", true)
  | 5 => ("RookWordsModel", "weights", "[I", true)
  | 6 => ("RookWordsModel", "seen", "I", false)
  | 7 => ("RookWordsModel", "seenK", "[I", true)
  | 8 => ("RookWordsModel", "seenMany", "[I", true)
  | 9 => ("RookWordsModel", "changes", "I", false)
  | 10 => ("RookWordsModel", "changeOf", "[I", true)
  | 11 => ("RookWordsModel", "changeAt", "[I", true)
  | 12 => ("RookWordsModel", "changeWas", "[I", true)
  | 13 => ("RookWordsModel", "taped", "I", false)
  | 14 => ("RookWordsModel", "tape", "[I", true)
  | 15 => ("RookWordsModel", "papered", "I", false)
  | 16 => ("RookWordsModel", "paper", "[I", true)
  | 17 => ("RookWordsModel", "rowSort", "[I", true)
  | 18 => ("RookWordsModel", "rowMany", "[I", true)
  | 19 => ("RookWordsModel", "rows", "[J", true)
  | 20 => ("RookWordsModel", "hasImage", "Z", false)
  | 21 => ("RookWordsModel", "wordMany1", "[I", true)
  | 22 => ("RookWordsModel", "words1", "[I", true)
  | 23 => ("RookWordsModel", "numbers1", "[J", true)
  | 24 => ("RookWordsModel", "sides1", "[I", true)
  | 25 => ("RookWordsModel", "boards1", "[I", true)
  | 26 => ("RookWordsModel", "weights1", "[I", true)
  | 27 => ("RookWordsModel", "seen1", "I", false)
  | 28 => ("RookWordsModel", "seenK1", "[I", true)
  | 29 => ("RookWordsModel", "seenMany1", "[I", true)
  | 30 => ("RookWordsModel", "orders", "[J", true)
  | 31 => ("RookWordsModel", "now", "[J", true)
  | 32 => ("RookWordsModel", "next", "[J", true)
  | 33 => ("RookWordsModel", "height", "[I", true)
  | 34 => ("RookWordsModel", "made", "[I", true)
  | 35 => ("RookWordsModel", "ways", "[I", true)
  | 36 => ("RookWordsModel", "counts", "[I", true)
  | 37 => ("RookWordsModel", "orderWays", "[I", true)
  | 38 => ("RookWordsModel", "allMany", "I", false)
  | 39 => ("RookWordsModel", "allSide", "I", false)
  | 40 => ("RookWordsModel", "allHeight", "[I", true)
  | 41 => ("RookWordsModel", "allCount", "[I", true)
  | 42 => ("RookWordsModel", "choice", "[I", true)
  | 43 => ("RookWordsModel", "rooks", "I", false)
  | 44 => ("RookWordsModel", "taken", "I", false)
  | 45 => ("RookWordsModel", "weighs", "I", false)
  | 46 => ("RookWordsModel", "walkRow", "I", false)
  | 47 => ("RookWordsModel", "drawn", "I", false)
  | 48 => ("RookWordsModel", "text", "[I", true)
  | 49 => ("RookWordsModel", "groupAt", "[I", true)
  | _ => ("RookWordsModel", "shifted", "[J", true)
def tyX11 : Nat → FieldType := fun k => match k with
  | 0 => .array .int
  | 1 => .array .int
  | 2 => .array .long
  | 3 => .array .int
  | 4 => .array .int
  | 5 => .array .int
  | 6 => .int
  | 7 => .array .int
  | 8 => .array .int
  | 9 => .int
  | 10 => .array .int
  | 11 => .array .int
  | 12 => .array .int
  | 13 => .int
  | 14 => .array .int
  | 15 => .int
  | 16 => .array .int
  | 17 => .array .int
  | 18 => .array .int
  | 19 => .array .long
  | 20 => .boolean
  | 21 => .array .int
  | 22 => .array .int
  | 23 => .array .long
  | 24 => .array .int
  | 25 => .array .int
  | 26 => .array .int
  | 27 => .int
  | 28 => .array .int
  | 29 => .array .int
  | 30 => .array .long
  | 31 => .array .long
  | 32 => .array .long
  | 33 => .array .int
  | 34 => .array .int
  | 35 => .array .int
  | 36 => .array .int
  | 37 => .array .int
  | 38 => .int
  | 39 => .int
  | 40 => .array .int
  | 41 => .array .int
  | 42 => .array .int
  | 43 => .int
  | 44 => .int
  | 45 => .int
  | 46 => .int
  | 47 => .int
  | 48 => .array .int
  | 49 => .array .int
  | _ => .array .long
set_option maxRecDepth 20000 in
theorem nmX11 : ∀ a, a < 51 → ∀ b, b < 51 → a ≠ b → (TX11 a).2.1 ≠ (TX11 b).2.1 := by decide +kernel
set_option maxRecDepth 20000 in
theorem tyX11_ok : ∀ k, k < 51 → parseFieldDescriptor (TX11 k).2.2.1 = some (tyX11 k) := by decide +kernel
abbrev cX11_init : ByteArray := prog_13_method_1_code
def yX11_init : MethodName := ⟨RX11, "<init>", "()V"⟩
abbrev cX11_in : ByteArray := prog_13_method_2_code
def yX11_in : MethodName := ⟨RX11, "in", "(JJJ)Z"⟩
abbrev cX11_isSix : ByteArray := prog_13_method_3_code
def yX11_isSix : MethodName := ⟨RX11, "isSix", "(I)Z"⟩
abbrev cX11_letter : ByteArray := prog_13_method_4_code
def yX11_letter : MethodName := ⟨RX11, "letter", "(II)I"⟩
abbrev cX11_empty : ByteArray := prog_13_method_5_code
def yX11_empty : MethodName := ⟨RX11, "empty", "(I)I"⟩
abbrev cX11_comes : ByteArray := prog_13_method_6_code
def yX11_comes : MethodName := ⟨RX11, "comes", "(III)V"⟩
abbrev cX11_make : ByteArray := prog_13_method_7_code
def yX11_make : MethodName := ⟨RX11, "make", "(III)I"⟩
abbrev cX11_join : ByteArray := prog_13_method_8_code
def yX11_join : MethodName := ⟨RX11, "join", "(II)I"⟩
abbrev cX11_turn : ByteArray := prog_13_method_9_code
def yX11_turn : MethodName := ⟨RX11, "turn", "(I)I"⟩
abbrev cX11_lettersU : ByteArray := prog_13_method_10_code
def yX11_lettersU : MethodName := ⟨RX11, "lettersU", "(I)I"⟩
abbrev cX11_word : ByteArray := prog_13_method_11_code
def yX11_word : MethodName := ⟨RX11, "word", "(II)I"⟩
abbrev cX11_acted : ByteArray := prog_13_method_12_code
def yX11_acted : MethodName := ⟨RX11, "acted", "(III)J"⟩
abbrev cX11_layOrders : ByteArray := prog_13_method_13_code
def yX11_layOrders : MethodName := ⟨RX11, "layOrders", "(I)V"⟩
abbrev cX11_order : ByteArray := prog_13_method_14_code
def yX11_order : MethodName := ⟨RX11, "order", "(II)J"⟩
abbrev cX11_numbersMany : ByteArray := prog_13_method_15_code
def yX11_numbersMany : MethodName := ⟨RX11, "numbersMany", "()I"⟩
abbrev cX11_clear : ByteArray := prog_13_method_16_code
def yX11_clear : MethodName := ⟨RX11, "clear", "()I"⟩
abbrev cX11_add : ByteArray := prog_13_method_17_code
def yX11_add : MethodName := ⟨RX11, "add", "(II)I"⟩
abbrev cX11_isTimes : ByteArray := prog_13_method_18_code
def yX11_isTimes : MethodName := ⟨RX11, "isTimes", "(I)Z"⟩
abbrev cX11_times : ByteArray := prog_13_method_19_code
def yX11_times : MethodName := ⟨RX11, "times", "(I)I"⟩
abbrev cX11_number : ByteArray := prog_13_method_20_code
def yX11_number : MethodName := ⟨RX11, "number", "(II)J"⟩
abbrev cX11_ones : ByteArray := prog_13_method_21_code
def yX11_ones : MethodName := ⟨RX11, "ones", "(I)I"⟩
abbrev cX11_cells : ByteArray := prog_13_method_22_code
def yX11_cells : MethodName := ⟨RX11, "cells", "(I)I"⟩
abbrev cX11_has : ByteArray := prog_13_method_23_code
def yX11_has : MethodName := ⟨RX11, "has", "(III)Z"⟩
abbrev cX11_bare : ByteArray := prog_13_method_24_code
def yX11_bare : MethodName := ⟨RX11, "bare", "(II)V"⟩
abbrev cX11_side : ByteArray := prog_13_method_25_code
def yX11_side : MethodName := ⟨RX11, "side", "(II)I"⟩
abbrev cX11_keep : ByteArray := prog_13_method_26_code
def yX11_keep : MethodName := ⟨RX11, "keep", "(III)V"⟩
abbrev cX11_cell : ByteArray := prog_13_method_27_code
def yX11_cell : MethodName := ⟨RX11, "cell", "(III)I"⟩
abbrev cX11_board : ByteArray := prog_13_method_28_code
def yX11_board : MethodName := ⟨RX11, "board", "(II)I"⟩
abbrev cX11_steps : ByteArray := prog_13_method_29_code
def yX11_steps : MethodName := ⟨RX11, "steps", "(III)I"⟩
abbrev cX11_other : ByteArray := prog_13_method_30_code
def yX11_other : MethodName := ⟨RX11, "other", "(I)I"⟩
abbrev cX11_turned : ByteArray := prog_13_method_31_code
def yX11_turned : MethodName := ⟨RX11, "turned", "(I)I"⟩
abbrev cX11_flipped : ByteArray := prog_13_method_32_code
def yX11_flipped : MethodName := ⟨RX11, "flipped", "(I)I"⟩
abbrev cX11_row : ByteArray := prog_13_method_33_code
def yX11_row : MethodName := ⟨RX11, "row", "(II)I"⟩
abbrev cX11_layCounts : ByteArray := prog_13_method_34_code
def yX11_layCounts : MethodName := ⟨RX11, "layCounts", "(I)V"⟩
abbrev cX11_count : ByteArray := prog_13_method_35_code
def yX11_count : MethodName := ⟨RX11, "count", "(II)I"⟩
abbrev cX11_layHits : ByteArray := prog_13_method_36_code
def yX11_layHits : MethodName := ⟨RX11, "layHits", "(I)V"⟩
abbrev cX11_hitsOf : ByteArray := prog_13_method_37_code
def yX11_hitsOf : MethodName := ⟨RX11, "hitsOf", "(II)I"⟩
abbrev cX11_hits : ByteArray := prog_13_method_38_code
def yX11_hits : MethodName := ⟨RX11, "hits", "(II)I"⟩
abbrev cX11_isSteps : ByteArray := prog_13_method_39_code
def yX11_isSteps : MethodName := ⟨RX11, "isSteps", "(I)Z"⟩
abbrev cX11_factored : ByteArray := prog_13_method_40_code
def yX11_factored : MethodName := ⟨RX11, "factored", "(II)J"⟩
abbrev cX11_bySteps : ByteArray := prog_13_method_41_code
def yX11_bySteps : MethodName := ⟨RX11, "bySteps", "(II)J"⟩
abbrev cX11_layAll : ByteArray := prog_13_method_42_code
def yX11_layAll : MethodName := ⟨RX11, "layAll", "(I)V"⟩
abbrev cX11_layOne : ByteArray := prog_13_method_43_code
def yX11_layOne : MethodName := ⟨RX11, "layOne", "(I)V"⟩
abbrev cX11_numberOf : ByteArray := prog_13_method_44_code
def yX11_numberOf : MethodName := ⟨RX11, "numberOf", "(I)I"⟩
abbrev cX11_of : ByteArray := prog_13_method_45_code
def yX11_of : MethodName := ⟨RX11, "of", "(II)I"⟩
abbrev cX11_all : ByteArray := prog_13_method_46_code
def yX11_all : MethodName := ⟨RX11, "all", "(III)I"⟩
abbrev cX11_compared : ByteArray := prog_13_method_47_code
def yX11_compared : MethodName := ⟨RX11, "compared", "(II)I"⟩
abbrev cX11_like : ByteArray := prog_13_method_48_code
def yX11_like : MethodName := ⟨RX11, "like", "(II)I"⟩
abbrev cX11_partOf : ByteArray := prog_13_method_49_code
def yX11_partOf : MethodName := ⟨RX11, "partOf", "(I)I"⟩
abbrev cX11_nextClass : ByteArray := prog_13_method_50_code
def yX11_nextClass : MethodName := ⟨RX11, "nextClass", "(I)I"⟩
abbrev cX11_classes : ByteArray := prog_13_method_51_code
def yX11_classes : MethodName := ⟨RX11, "classes", "(III)I"⟩
abbrev cX11_see : ByteArray := prog_13_method_52_code
def yX11_see : MethodName := ⟨RX11, "see", "(II)I"⟩
abbrev cX11_fits : ByteArray := prog_13_method_53_code
def yX11_fits : MethodName := ⟨RX11, "fits", "(II)I"⟩
abbrev cX11_weight : ByteArray := prog_13_method_54_code
def yX11_weight : MethodName := ⟨RX11, "weight", "(III)I"⟩
abbrev cX11_begin : ByteArray := prog_13_method_55_code
def yX11_begin : MethodName := ⟨RX11, "begin", "()V"⟩
abbrev cX11_lift : ByteArray := prog_13_method_56_code
def yX11_lift : MethodName := ⟨RX11, "lift", "(I)V"⟩
abbrev cX11_mayStand : ByteArray := prog_13_method_57_code
def yX11_mayStand : MethodName := ⟨RX11, "mayStand", "(III)Z"⟩
abbrev cX11_goesOn : ByteArray := prog_13_method_58_code
def yX11_goesOn : MethodName := ⟨RX11, "goesOn", "(II)Z"⟩
abbrev cX11_columnAt : ByteArray := prog_13_method_59_code
def yX11_columnAt : MethodName := ⟨RX11, "columnAt", "(II)I"⟩
abbrev cX11_layMade : ByteArray := prog_13_method_60_code
def yX11_layMade : MethodName := ⟨RX11, "layMade", "(I)V"⟩
abbrev cX11_cheapest : ByteArray := prog_13_method_61_code
def yX11_cheapest : MethodName := ⟨RX11, "cheapest", "(III)I"⟩
abbrev cX11_listed : ByteArray := prog_13_method_62_code
def yX11_listed : MethodName := ⟨RX11, "listed", "(IIII)I"⟩
abbrev cX11_common : ByteArray := prog_13_method_63_code
def yX11_common : MethodName := ⟨RX11, "common", "(JJ)J"⟩
abbrev cX11_part : ByteArray := prog_13_method_64_code
def yX11_part : MethodName := ⟨RX11, "part", "(JJI)J"⟩
abbrev cX11_factor : ByteArray := prog_13_method_65_code
def yX11_factor : MethodName := ⟨RX11, "factor", "(I)J"⟩
abbrev cX11_odds : ByteArray := prog_13_method_66_code
def yX11_odds : MethodName := ⟨RX11, "odds", "(II)J"⟩
abbrev cX11_mean : ByteArray := prog_13_method_67_code
def yX11_mean : MethodName := ⟨RX11, "mean", "(II)J"⟩
abbrev cX11_draw : ByteArray := prog_13_method_68_code
def yX11_draw : MethodName := ⟨RX11, "draw", "(I)I"⟩
abbrev cX11_lots : ByteArray := prog_13_method_69_code
def yX11_lots : MethodName := ⟨RX11, "lots", "(IIII)I"⟩
abbrev cX11_feed : ByteArray := prog_13_method_70_code
def yX11_feed : MethodName := ⟨RX11, "feed", "(I)I"⟩
abbrev cX11_faultAt : ByteArray := prog_13_method_71_code
def yX11_faultAt : MethodName := ⟨RX11, "faultAt", "()I"⟩
abbrev cX11_textLetters : ByteArray := prog_13_method_72_code
def yX11_textLetters : MethodName := ⟨RX11, "textLetters", "()I"⟩
abbrev cX11_read : ByteArray := prog_13_method_73_code
def yX11_read : MethodName := ⟨RX11, "read", "(I)I"⟩
abbrev cX11_lay : ByteArray := prog_13_method_74_code
def yX11_lay : MethodName := ⟨RX11, "lay", "(I)V"⟩
abbrev cX11_write : ByteArray := prog_13_method_75_code
def yX11_write : MethodName := ⟨RX11, "write", "(I)I"⟩
abbrev cX11_paper : ByteArray := prog_13_method_76_code
def yX11_paper : MethodName := ⟨RX11, "paper", "(I)I"⟩
abbrev cX11_undo : ByteArray := prog_13_method_77_code
def yX11_undo : MethodName := ⟨RX11, "undo", "()I"⟩
abbrev cX11_allLetters : ByteArray := prog_13_method_78_code
def yX11_allLetters : MethodName := ⟨RX11, "allLetters", "()I"⟩
abbrev cX11_image : ByteArray := prog_13_method_79_code
def yX11_image : MethodName := ⟨RX11, "image", "()I"⟩
abbrev cX11_restore : ByteArray := prog_13_method_80_code
def yX11_restore : MethodName := ⟨RX11, "restore", "()I"⟩
abbrev cX11_told : ByteArray := prog_13_method_81_code
def yX11_told : MethodName := ⟨RX11, "told", "(I)I"⟩
abbrev cX11_tape : ByteArray := prog_13_method_82_code
def yX11_tape : MethodName := ⟨RX11, "tape", "(III)I"⟩
abbrev cX11_item : ByteArray := prog_13_method_83_code
def yX11_item : MethodName := ⟨RX11, "item", "(IIJ)I"⟩
abbrev cX11_peek : ByteArray := prog_13_method_84_code
def yX11_peek : MethodName := ⟨RX11, "peek", "(II)J"⟩
abbrev cX11_shift : ByteArray := prog_13_method_85_code
def yX11_shift : MethodName := ⟨RX11, "shift", "(IIIII)I"⟩
abbrev cX11_judge : ByteArray := prog_13_method_86_code
def yX11_judge : MethodName := ⟨RX11, "judge", "(III)I"⟩
def RJ6 : String := "java/lang/Integer"
def TJ6 : u_T := fun k => match k with
  | _ => ("", "", "", false)
def tyJ6 : Nat → FieldType := fun k => match k with
  | _ => .int
set_option maxRecDepth 20000 in
theorem nmJ6 : ∀ a, a < 0 → ∀ b, b < 0 → a ≠ b → (TJ6 a).2.1 ≠ (TJ6 b).2.1 := by decide +kernel
set_option maxRecDepth 20000 in
theorem tyJ6_ok : ∀ k, k < 0 → parseFieldDescriptor (TJ6 k).2.2.1 = some (tyJ6 k) := by decide +kernel
abbrev cJ6_bitCount_0f7a4 : ByteArray := prog_14_method_49_code
def yJ6_bitCount_0f7a4 : MethodName := ⟨RJ6, "bitCount", "(I)I"⟩
def RJ9 : String := "java/lang/Math"
def TJ9 : u_T := fun k => match k with
  | _ => ("", "", "", false)
def tyJ9 : Nat → FieldType := fun k => match k with
  | _ => .int
set_option maxRecDepth 20000 in
theorem nmJ9 : ∀ a, a < 0 → ∀ b, b < 0 → a ≠ b → (TJ9 a).2.1 ≠ (TJ9 b).2.1 := by decide +kernel
set_option maxRecDepth 20000 in
theorem tyJ9_ok : ∀ k, k < 0 → parseFieldDescriptor (TJ9 k).2.2.1 = some (tyJ9 k) := by decide +kernel
abbrev cJ9_max_7cf53 : ByteArray := prog_15_method_65_code
def yJ9_max_7cf53 : MethodName := ⟨RJ9, "max", "(II)I"⟩
abbrev cJ9_min_7cf53 : ByteArray := prog_15_method_69_code
def yJ9_min_7cf53 : MethodName := ⟨RJ9, "min", "(II)I"⟩
def RJ10 : String := "java/lang/System"
def TJ10 : u_T := fun k => match k with
  | _ => ("", "", "", false)
def tyJ10 : Nat → FieldType := fun k => match k with
  | _ => .int
set_option maxRecDepth 20000 in
theorem nmJ10 : ∀ a, a < 0 → ∀ b, b < 0 → a ≠ b → (TJ10 a).2.1 ≠ (TJ10 b).2.1 := by decide +kernel
set_option maxRecDepth 20000 in
theorem tyJ10_ok : ∀ k, k < 0 → parseFieldDescriptor (TJ10 k).2.2.1 = some (tyJ10 k) := by decide +kernel
def RJ7 : String := "java/util/Arrays"
def TJ7 : u_T := fun k => match k with
  | _ => ("", "", "", false)
def tyJ7 : Nat → FieldType := fun k => match k with
  | _ => .int
set_option maxRecDepth 20000 in
theorem nmJ7 : ∀ a, a < 0 → ∀ b, b < 0 → a ≠ b → (TJ7 a).2.1 ≠ (TJ7 b).2.1 := by decide +kernel
set_option maxRecDepth 20000 in
theorem tyJ7_ok : ∀ k, k < 0 → parseFieldDescriptor (TJ7 k).2.2.1 = some (tyJ7 k) := by decide +kernel
abbrev cJ7_fill_d0a16 : ByteArray := prog_17_method_101_code
def yJ7_fill_d0a16 : MethodName := ⟨RJ7, "fill", "([JJ)V"⟩
abbrev cJ7_fill_53178 : ByteArray := prog_17_method_103_code
def yJ7_fill_53178 : MethodName := ⟨RJ7, "fill", "([II)V"⟩
def RL : String := "RookWordsLaw"
abbrev cL_law : ByteArray := code
def yL_law : MethodName := ⟨RL, "law", "([I)Z"⟩
abbrev vwCl : List vw_C := [(RX0, TX0, 2), (RX1, TX1, 5), (RX2, TX2, 7), (RX3, TX3, 2), (RX4, TX4, 5), (RX5, TX5, 7), (RX6, TX6, 2), (RX7, TX7, 3), (RX8, TX8, 4), (RX9, TX9, 2), (RX10, TX10, 10), (RX11, TX11, 51)]
theorem goodIn_r0 {big : List Cond} (ws : List Cond) (ps : List Nat) (hp : ws = ps.filterMap (fun i => big[i]?)) : ∀ w ∈ ws, w ∈ big := by
  intro w hw
  rw [hp] at hw
  obtain ⟨i, -, hi⟩ := List.mem_filterMap.mp hw
  exact List.mem_of_getElem? hi
/-- the words that stay good on a call: every contract is over these, its own code's word first -/
def lwg : List Cond := lw_tbl.filter goodWord
theorem lwg_at {w : Cond} (i : Nat) (h : lw_tbl[i]? = some w) (hg : goodWord w = true) : w ∈ lwg := List.mem_filter.mpr ⟨List.mem_of_getElem? h, hg⟩
theorem lwg_tbl {w : Cond} (h : w ∈ lwg) : w ∈ lw_tbl := (List.mem_filter.mp h).1
theorem lwg_good : GoodIn lwg lwg := fun w h => ⟨h, good_of_word (List.mem_filter.mp h).2⟩
theorem lwg_cons {w : Cond} (hw : w ∈ lwg) : GoodIn lwg (w :: lwg) := fun v h => (List.mem_cons.mp h).elim (fun e => e ▸ lwg_good w hw) (fun h => lwg_good v h)
set_option maxRecDepth 20000 in
theorem inX0 : ∀ w ∈ u_ws RX0 TX0 2, w ∈ lwg := fun w h => List.mem_filter.mpr ⟨((goodIn_r0 (u_ws RX0 TX0 2) [132, 134] (by decide +kernel)) w h), List.all_eq_true.mp (show (u_ws RX0 TX0 2).all goodWord = true by decide +kernel) w h⟩
set_option maxRecDepth 20000 in
theorem inX1 : ∀ w ∈ u_ws RX1 TX1 5, w ∈ lwg := fun w h => List.mem_filter.mpr ⟨((goodIn_r0 (u_ws RX1 TX1 5) [183, 185, 187, 189, 191] (by decide +kernel)) w h), List.all_eq_true.mp (show (u_ws RX1 TX1 5).all goodWord = true by decide +kernel) w h⟩
set_option maxRecDepth 20000 in
theorem inX2 : ∀ w ∈ u_ws RX2 TX2 7, w ∈ lwg := fun w h => List.mem_filter.mpr ⟨((goodIn_r0 (u_ws RX2 TX2 7) [617, 619, 621, 623, 625, 627, 629] (by decide +kernel)) w h), List.all_eq_true.mp (show (u_ws RX2 TX2 7).all goodWord = true by decide +kernel) w h⟩
set_option maxRecDepth 20000 in
theorem inX3 : ∀ w ∈ u_ws RX3 TX3 2, w ∈ lwg := fun w h => List.mem_filter.mpr ⟨((goodIn_r0 (u_ws RX3 TX3 2) [225, 227] (by decide +kernel)) w h), List.all_eq_true.mp (show (u_ws RX3 TX3 2).all goodWord = true by decide +kernel) w h⟩
set_option maxRecDepth 20000 in
theorem inX4 : ∀ w ∈ u_ws RX4 TX4 5, w ∈ lwg := fun w h => List.mem_filter.mpr ⟨((goodIn_r0 (u_ws RX4 TX4 5) [261, 263, 265, 267, 269] (by decide +kernel)) w h), List.all_eq_true.mp (show (u_ws RX4 TX4 5).all goodWord = true by decide +kernel) w h⟩
set_option maxRecDepth 20000 in
theorem inX5 : ∀ w ∈ u_ws RX5 TX5 7, w ∈ lwg := fun w h => List.mem_filter.mpr ⟨((goodIn_r0 (u_ws RX5 TX5 7) [156, 158, 160, 162, 164, 166, 168] (by decide +kernel)) w h), List.all_eq_true.mp (show (u_ws RX5 TX5 7).all goodWord = true by decide +kernel) w h⟩
set_option maxRecDepth 20000 in
theorem inX6 : ∀ w ∈ u_ws RX6 TX6 2, w ∈ lwg := fun w h => List.mem_filter.mpr ⟨((goodIn_r0 (u_ws RX6 TX6 2) [90, 92] (by decide +kernel)) w h), List.all_eq_true.mp (show (u_ws RX6 TX6 2).all goodWord = true by decide +kernel) w h⟩
set_option maxRecDepth 20000 in
theorem inX7 : ∀ w ∈ u_ws RX7 TX7 3, w ∈ lwg := fun w h => List.mem_filter.mpr ⟨((goodIn_r0 (u_ws RX7 TX7 3) [243, 245, 247] (by decide +kernel)) w h), List.all_eq_true.mp (show (u_ws RX7 TX7 3).all goodWord = true by decide +kernel) w h⟩
set_option maxRecDepth 20000 in
theorem inX8 : ∀ w ∈ u_ws RX8 TX8 4, w ∈ lwg := fun w h => List.mem_filter.mpr ⟨((goodIn_r0 (u_ws RX8 TX8 4) [206, 208, 210, 212] (by decide +kernel)) w h), List.all_eq_true.mp (show (u_ws RX8 TX8 4).all goodWord = true by decide +kernel) w h⟩
set_option maxRecDepth 20000 in
theorem inX9 : ∀ w ∈ u_ws RX9 TX9 2, w ∈ lwg := fun w h => List.mem_filter.mpr ⟨((goodIn_r0 (u_ws RX9 TX9 2) [115, 117] (by decide +kernel)) w h), List.all_eq_true.mp (show (u_ws RX9 TX9 2).all goodWord = true by decide +kernel) w h⟩
set_option maxRecDepth 20000 in
theorem inX10 : ∀ w ∈ u_ws RX10 TX10 10, w ∈ lwg := fun w h => List.mem_filter.mpr ⟨((goodIn_r0 (u_ws RX10 TX10 10) [284, 286, 288, 290, 292, 294, 296, 298, 300, 302] (by decide +kernel)) w h), List.all_eq_true.mp (show (u_ws RX10 TX10 10).all goodWord = true by decide +kernel) w h⟩
set_option maxRecDepth 20000 in
theorem inX11 : ∀ w ∈ u_ws RX11 TX11 51, w ∈ lwg := fun w h => List.mem_filter.mpr ⟨((goodIn_r0 (u_ws RX11 TX11 51) [985, 987, 989, 991, 993, 995, 997, 999, 1001, 1003, 1005, 1007, 1009, 1011, 1013, 1015, 1017, 1019, 1021, 1023, 1025, 1027, 1029, 1031, 1033, 1035, 1037, 1039, 1041, 1043, 1045, 1047, 1049, 1051, 1053, 1055, 1057, 1059, 1061, 1063, 1065, 1067, 1069, 1071, 1073, 1075, 1077, 1079, 1081, 1083, 1085] (by decide +kernel)) w h), List.all_eq_true.mp (show (u_ws RX11 TX11 51).all goodWord = true by decide +kernel) w h⟩
