section
-- ===== PART A: goes FIRST, ahead of the names: the tables' words, and 'selects' of the private methods out of them =====
/-- a private method of a class that the tables say can be made, by its rows of tables_1 -/
def lw_okq (q : MethodName × Nat) : Prop := (q.1.cls ≠ "java/lang/invoke/MethodHandle" ∧ q.1.cls ≠ "java/lang/invoke/VarHandle") ∧ Cond.instantiable q.1.cls q.2 ∈ tables_1 ∧ Cond.privateMethod q.1 ∈ tables_1 ∧ Cond.instanceMethod q.1 ∈ tables_1
theorem lw_p0 : lw_okq (⟨"SilentLetters$Rule", "begin", "()V"⟩, 8) := ⟨⟨by decide +kernel, by decide +kernel⟩, List.mem_of_getElem? (i := 169) (by decide +kernel), List.mem_of_getElem? (i := 289) (by decide +kernel), List.mem_of_getElem? (i := 290) (by decide +kernel)⟩
theorem lw_p1 : lw_okq (⟨"SilentLetters$Rule", "accepts", "(C)Z"⟩, 8) := ⟨⟨by decide +kernel, by decide +kernel⟩, List.mem_of_getElem? (i := 169) (by decide +kernel), List.mem_of_getElem? (i := 342) (by decide +kernel), List.mem_of_getElem? (i := 343) (by decide +kernel)⟩
theorem lw_p2 : lw_okq (⟨"SilentLetters$Rule", "acceptsDigit", "(I)Z"⟩, 8) := ⟨⟨by decide +kernel, by decide +kernel⟩, List.mem_of_getElem? (i := 169) (by decide +kernel), List.mem_of_getElem? (i := 346) (by decide +kernel), List.mem_of_getElem? (i := 347) (by decide +kernel)⟩
theorem lw_p3 : lw_okq (⟨"SilentLetters$Rule", "emit", "(I)V"⟩, 8) := ⟨⟨by decide +kernel, by decide +kernel⟩, List.mem_of_getElem? (i := 169) (by decide +kernel), List.mem_of_getElem? (i := 350) (by decide +kernel), List.mem_of_getElem? (i := 351) (by decide +kernel)⟩
theorem lw_p4 : lw_okq (⟨"SilentLetters$Rule", "closes", "()Z"⟩, 8) := ⟨⟨by decide +kernel, by decide +kernel⟩, List.mem_of_getElem? (i := 169) (by decide +kernel), List.mem_of_getElem? (i := 354) (by decide +kernel), List.mem_of_getElem? (i := 355) (by decide +kernel)⟩
theorem lw_p5 : lw_okq (⟨"SilentLetters$Rule", "moveDownTo", "(I)V"⟩, 8) := ⟨⟨by decide +kernel, by decide +kernel⟩, List.mem_of_getElem? (i := 169) (by decide +kernel), List.mem_of_getElem? (i := 358) (by decide +kernel), List.mem_of_getElem? (i := 359) (by decide +kernel)⟩
theorem lw_p6 : lw_okq (⟨"SilentLetters$Rule", "pop", "()I"⟩, 8) := ⟨⟨by decide +kernel, by decide +kernel⟩, List.mem_of_getElem? (i := 169) (by decide +kernel), List.mem_of_getElem? (i := 365) (by decide +kernel), List.mem_of_getElem? (i := 366) (by decide +kernel)⟩
theorem lw_p7 : lw_okq (⟨"SilentLetters$Rule", "acceptsBetween", "(C)Z"⟩, 8) := ⟨⟨by decide +kernel, by decide +kernel⟩, List.mem_of_getElem? (i := 169) (by decide +kernel), List.mem_of_getElem? (i := 369) (by decide +kernel), List.mem_of_getElem? (i := 370) (by decide +kernel)⟩
theorem lw_p8 : lw_okq (⟨"SilentLetters$Rule", "push", "(I)V"⟩, 8) := ⟨⟨by decide +kernel, by decide +kernel⟩, List.mem_of_getElem? (i := 169) (by decide +kernel), List.mem_of_getElem? (i := 373) (by decide +kernel), List.mem_of_getElem? (i := 374) (by decide +kernel)⟩
theorem lw_p9 : lw_okq (⟨"SilentLetters$Rule", "opens", "()Z"⟩, 8) := ⟨⟨by decide +kernel, by decide +kernel⟩, List.mem_of_getElem? (i := 169) (by decide +kernel), List.mem_of_getElem? (i := 377) (by decide +kernel), List.mem_of_getElem? (i := 378) (by decide +kernel)⟩
theorem lw_p10 : lw_okq (⟨"SilentLetters$Book", "closeLine", "()V"⟩, 4) := ⟨⟨by decide +kernel, by decide +kernel⟩, List.mem_of_getElem? (i := 69) (by decide +kernel), List.mem_of_getElem? (i := 532) (by decide +kernel), List.mem_of_getElem? (i := 533) (by decide +kernel)⟩
theorem lw_p11 : lw_okq (⟨"SilentLetters$Union", "pairsThatFall", "()I"⟩, 7) := ⟨⟨by decide +kernel, by decide +kernel⟩, List.mem_of_getElem? (i := 200) (by decide +kernel), List.mem_of_getElem? (i := 643) (by decide +kernel), List.mem_of_getElem? (i := 644) (by decide +kernel)⟩
theorem lw_p12 : lw_okq (⟨"SilentLetters", "rememberIfDone", "(I)I"⟩, 18) := ⟨⟨by decide +kernel, by decide +kernel⟩, List.mem_of_getElem? (i := 27) (by decide +kernel), List.mem_of_getElem? (i := 673) (by decide +kernel), List.mem_of_getElem? (i := 674) (by decide +kernel)⟩
theorem lw_p13 : lw_okq (⟨"SilentLetters", "doAct", "(I)I"⟩, 18) := ⟨⟨by decide +kernel, by decide +kernel⟩, List.mem_of_getElem? (i := 27) (by decide +kernel), List.mem_of_getElem? (i := 717) (by decide +kernel), List.mem_of_getElem? (i := 718) (by decide +kernel)⟩
theorem lw_p14 : lw_okq (⟨"SilentLetters", "firstLike", "(I)I"⟩, 18) := ⟨⟨by decide +kernel, by decide +kernel⟩, List.mem_of_getElem? (i := 27) (by decide +kernel), List.mem_of_getElem? (i := 747) (by decide +kernel), List.mem_of_getElem? (i := 748) (by decide +kernel)⟩
theorem lw_p15 : lw_okq (⟨"SilentLetters$Measure", "layBoth", "(LSilentLetters$State;III)V"⟩, 8) := ⟨⟨by decide +kernel, by decide +kernel⟩, List.mem_of_getElem? (i := 232) (by decide +kernel), List.mem_of_getElem? (i := 763) (by decide +kernel), List.mem_of_getElem? (i := 764) (by decide +kernel)⟩
def lw_privs_1 : List (MethodName × Nat) := [(⟨"SilentLetters$Rule", "begin", "()V"⟩, 8), (⟨"SilentLetters$Rule", "accepts", "(C)Z"⟩, 8), (⟨"SilentLetters$Rule", "acceptsDigit", "(I)Z"⟩, 8), (⟨"SilentLetters$Rule", "emit", "(I)V"⟩, 8), (⟨"SilentLetters$Rule", "closes", "()Z"⟩, 8), (⟨"SilentLetters$Rule", "moveDownTo", "(I)V"⟩, 8), (⟨"SilentLetters$Rule", "pop", "()I"⟩, 8), (⟨"SilentLetters$Rule", "acceptsBetween", "(C)Z"⟩, 8), (⟨"SilentLetters$Rule", "push", "(I)V"⟩, 8), (⟨"SilentLetters$Rule", "opens", "()Z"⟩, 8), (⟨"SilentLetters$Book", "closeLine", "()V"⟩, 4), (⟨"SilentLetters$Union", "pairsThatFall", "()I"⟩, 7), (⟨"SilentLetters", "rememberIfDone", "(I)I"⟩, 18), (⟨"SilentLetters", "doAct", "(I)I"⟩, 18), (⟨"SilentLetters", "firstLike", "(I)I"⟩, 18), (⟨"SilentLetters$Measure", "layBoth", "(LSilentLetters$State;III)V"⟩, 8)]
theorem lw_r1 : ∀ q ∈ lw_privs_1, lw_okq q := List.forall_mem_cons.mpr ⟨lw_p0, List.forall_mem_cons.mpr ⟨lw_p1, List.forall_mem_cons.mpr ⟨lw_p2, List.forall_mem_cons.mpr ⟨lw_p3, List.forall_mem_cons.mpr ⟨lw_p4, List.forall_mem_cons.mpr ⟨lw_p5, List.forall_mem_cons.mpr ⟨lw_p6, List.forall_mem_cons.mpr ⟨lw_p7, List.forall_mem_cons.mpr ⟨lw_p8, List.forall_mem_cons.mpr ⟨lw_p9, List.forall_mem_cons.mpr ⟨lw_p10, List.forall_mem_cons.mpr ⟨lw_p11, List.forall_mem_cons.mpr ⟨lw_p12, List.forall_mem_cons.mpr ⟨lw_p13, List.forall_mem_cons.mpr ⟨lw_p14, List.forall_mem_cons.mpr ⟨lw_p15, fun _ h => absurd h List.not_mem_nil⟩⟩⟩⟩⟩⟩⟩⟩⟩⟩⟩⟩⟩⟩⟩⟩
theorem lw_p16 : lw_okq (⟨"SilentLetters$Measure", "lay", "(LSilentLetters$State;II[I)I"⟩, 8) := ⟨⟨by decide +kernel, by decide +kernel⟩, List.mem_of_getElem? (i := 232) (by decide +kernel), List.mem_of_getElem? (i := 767) (by decide +kernel), List.mem_of_getElem? (i := 768) (by decide +kernel)⟩
theorem lw_p17 : lw_okq (⟨"SilentLetters$Measure", "editsAt", "(II)I"⟩, 8) := ⟨⟨by decide +kernel, by decide +kernel⟩, List.mem_of_getElem? (i := 232) (by decide +kernel), List.mem_of_getElem? (i := 772) (by decide +kernel), List.mem_of_getElem? (i := 773) (by decide +kernel)⟩
theorem lw_p18 : lw_okq (⟨"SilentLetters$Measure", "markNear", "(LSilentLetters$State;I)V"⟩, 8) := ⟨⟨by decide +kernel, by decide +kernel⟩, List.mem_of_getElem? (i := 232) (by decide +kernel), List.mem_of_getElem? (i := 785) (by decide +kernel), List.mem_of_getElem? (i := 786) (by decide +kernel)⟩
theorem lw_p19 : lw_okq (⟨"SilentLetters", "tellFirstFallen", "()V"⟩, 18) := ⟨⟨by decide +kernel, by decide +kernel⟩, List.mem_of_getElem? (i := 27) (by decide +kernel), List.mem_of_getElem? (i := 804) (by decide +kernel), List.mem_of_getElem? (i := 805) (by decide +kernel)⟩
theorem lw_p20 : lw_okq (⟨"SilentLetters$Measure", "inCommonAt", "(II)I"⟩, 8) := ⟨⟨by decide +kernel, by decide +kernel⟩, List.mem_of_getElem? (i := 232) (by decide +kernel), List.mem_of_getElem? (i := 822) (by decide +kernel), List.mem_of_getElem? (i := 823) (by decide +kernel)⟩
theorem lw_p21 : lw_okq (⟨"SilentLetters", "tellsApart", "(II)Z"⟩, 18) := ⟨⟨by decide +kernel, by decide +kernel⟩, List.mem_of_getElem? (i := 27) (by decide +kernel), List.mem_of_getElem? (i := 838) (by decide +kernel), List.mem_of_getElem? (i := 839) (by decide +kernel)⟩
theorem lw_p22 : lw_okq (⟨"SilentLetters", "tellSet", "(I)I"⟩, 18) := ⟨⟨by decide +kernel, by decide +kernel⟩, List.mem_of_getElem? (i := 27) (by decide +kernel), List.mem_of_getElem? (i := 842) (by decide +kernel), List.mem_of_getElem? (i := 843) (by decide +kernel)⟩
theorem lw_p23 : lw_okq (⟨"SilentLetters", "countPairsThatAreOne", "(I)V"⟩, 18) := ⟨⟨by decide +kernel, by decide +kernel⟩, List.mem_of_getElem? (i := 27) (by decide +kernel), List.mem_of_getElem? (i := 870) (by decide +kernel), List.mem_of_getElem? (i := 871) (by decide +kernel)⟩
theorem lw_p24 : lw_okq (⟨"SilentLetters", "neverMeet", "(I)Z"⟩, 18) := ⟨⟨by decide +kernel, by decide +kernel⟩, List.mem_of_getElem? (i := 27) (by decide +kernel), List.mem_of_getElem? (i := 874) (by decide +kernel), List.mem_of_getElem? (i := 875) (by decide +kernel)⟩
theorem lw_p25 : lw_okq (⟨"SilentLetters", "neverTaken", "(I)Z"⟩, 18) := ⟨⟨by decide +kernel, by decide +kernel⟩, List.mem_of_getElem? (i := 27) (by decide +kernel), List.mem_of_getElem? (i := 885) (by decide +kernel), List.mem_of_getElem? (i := 886) (by decide +kernel)⟩
theorem lw_p26 : lw_okq (⟨"SilentLetters", "agrees", "(I)Z"⟩, 18) := ⟨⟨by decide +kernel, by decide +kernel⟩, List.mem_of_getElem? (i := 27) (by decide +kernel), List.mem_of_getElem? (i := 909) (by decide +kernel), List.mem_of_getElem? (i := 910) (by decide +kernel)⟩
theorem lw_p27 : lw_okq (⟨"SilentLetters", "tellBestLook", "(I)I"⟩, 18) := ⟨⟨by decide +kernel, by decide +kernel⟩, List.mem_of_getElem? (i := 27) (by decide +kernel), List.mem_of_getElem? (i := 921) (by decide +kernel), List.mem_of_getElem? (i := 922) (by decide +kernel)⟩
theorem lw_p28 : lw_okq (⟨"SilentLetters", "priceStrikers", "()I"⟩, 18) := ⟨⟨by decide +kernel, by decide +kernel⟩, List.mem_of_getElem? (i := 27) (by decide +kernel), List.mem_of_getElem? (i := 937) (by decide +kernel), List.mem_of_getElem? (i := 938) (by decide +kernel)⟩
theorem lw_p29 : lw_okq (⟨"SilentLetters", "sumOver", "(I)I"⟩, 18) := ⟨⟨by decide +kernel, by decide +kernel⟩, List.mem_of_getElem? (i := 27) (by decide +kernel), List.mem_of_getElem? (i := 941) (by decide +kernel), List.mem_of_getElem? (i := 942) (by decide +kernel)⟩
theorem lw_p30 : lw_okq (⟨"SilentLetters", "setsTurnedBy", "(I)I"⟩, 18) := ⟨⟨by decide +kernel, by decide +kernel⟩, List.mem_of_getElem? (i := 27) (by decide +kernel), List.mem_of_getElem? (i := 950) (by decide +kernel), List.mem_of_getElem? (i := 951) (by decide +kernel)⟩
theorem lw_p31 : lw_okq (⟨"SilentLetters", "draw", "(I)I"⟩, 18) := ⟨⟨by decide +kernel, by decide +kernel⟩, List.mem_of_getElem? (i := 27) (by decide +kernel), List.mem_of_getElem? (i := 996) (by decide +kernel), List.mem_of_getElem? (i := 997) (by decide +kernel)⟩
def lw_privs_2 : List (MethodName × Nat) := [(⟨"SilentLetters$Measure", "lay", "(LSilentLetters$State;II[I)I"⟩, 8), (⟨"SilentLetters$Measure", "editsAt", "(II)I"⟩, 8), (⟨"SilentLetters$Measure", "markNear", "(LSilentLetters$State;I)V"⟩, 8), (⟨"SilentLetters", "tellFirstFallen", "()V"⟩, 18), (⟨"SilentLetters$Measure", "inCommonAt", "(II)I"⟩, 8), (⟨"SilentLetters", "tellsApart", "(II)Z"⟩, 18), (⟨"SilentLetters", "tellSet", "(I)I"⟩, 18), (⟨"SilentLetters", "countPairsThatAreOne", "(I)V"⟩, 18), (⟨"SilentLetters", "neverMeet", "(I)Z"⟩, 18), (⟨"SilentLetters", "neverTaken", "(I)Z"⟩, 18), (⟨"SilentLetters", "agrees", "(I)Z"⟩, 18), (⟨"SilentLetters", "tellBestLook", "(I)I"⟩, 18), (⟨"SilentLetters", "priceStrikers", "()I"⟩, 18), (⟨"SilentLetters", "sumOver", "(I)I"⟩, 18), (⟨"SilentLetters", "setsTurnedBy", "(I)I"⟩, 18), (⟨"SilentLetters", "draw", "(I)I"⟩, 18)]
theorem lw_r2 : ∀ q ∈ lw_privs_2, lw_okq q := List.forall_mem_cons.mpr ⟨lw_p16, List.forall_mem_cons.mpr ⟨lw_p17, List.forall_mem_cons.mpr ⟨lw_p18, List.forall_mem_cons.mpr ⟨lw_p19, List.forall_mem_cons.mpr ⟨lw_p20, List.forall_mem_cons.mpr ⟨lw_p21, List.forall_mem_cons.mpr ⟨lw_p22, List.forall_mem_cons.mpr ⟨lw_p23, List.forall_mem_cons.mpr ⟨lw_p24, List.forall_mem_cons.mpr ⟨lw_p25, List.forall_mem_cons.mpr ⟨lw_p26, List.forall_mem_cons.mpr ⟨lw_p27, List.forall_mem_cons.mpr ⟨lw_p28, List.forall_mem_cons.mpr ⟨lw_p29, List.forall_mem_cons.mpr ⟨lw_p30, List.forall_mem_cons.mpr ⟨lw_p31, fun _ h => absurd h List.not_mem_nil⟩⟩⟩⟩⟩⟩⟩⟩⟩⟩⟩⟩⟩⟩⟩⟩
theorem lw_p32 : lw_okq (⟨"java/lang/Throwable", "fillInStackTrace", "(I)Ljava/lang/Throwable;"⟩, 6) := ⟨⟨by decide +kernel, by decide +kernel⟩, List.mem_of_getElem? (i := 1066) (by decide +kernel), List.mem_of_getElem? (i := 1064) (by decide +kernel), List.mem_of_getElem? (i := 1065) (by decide +kernel)⟩
theorem lw_p33 : lw_okq (⟨"SilentLetters", "oneWith", "(I)I"⟩, 18) := ⟨⟨by decide +kernel, by decide +kernel⟩, List.mem_of_getElem? (i := 27) (by decide +kernel), List.mem_of_getElem? (i := 1096) (by decide +kernel), List.mem_of_getElem? (i := 1097) (by decide +kernel)⟩
theorem lw_p34 : lw_okq (⟨"SilentLettersModel", "begins", "(I)I"⟩, 49) := ⟨⟨by decide +kernel, by decide +kernel⟩, List.mem_of_getElem? (i := 1129) (by decide +kernel), List.mem_of_getElem? (i := 1298) (by decide +kernel), List.mem_of_getElem? (i := 1299) (by decide +kernel)⟩
theorem lw_p35 : lw_okq (⟨"SilentLettersModel", "readsWord", "()Z"⟩, 49) := ⟨⟨by decide +kernel, by decide +kernel⟩, List.mem_of_getElem? (i := 1129) (by decide +kernel), List.mem_of_getElem? (i := 1303) (by decide +kernel), List.mem_of_getElem? (i := 1304) (by decide +kernel)⟩
theorem lw_p36 : lw_okq (⟨"SilentLettersModel", "takesOf", "(Ljava/lang/String;)I"⟩, 49) := ⟨⟨by decide +kernel, by decide +kernel⟩, List.mem_of_getElem? (i := 1129) (by decide +kernel), List.mem_of_getElem? (i := 1308) (by decide +kernel), List.mem_of_getElem? (i := 1309) (by decide +kernel)⟩
theorem lw_p37 : lw_okq (⟨"SilentLettersModel", "takes", "(I)Z"⟩, 49) := ⟨⟨by decide +kernel, by decide +kernel⟩, List.mem_of_getElem? (i := 1129) (by decide +kernel), List.mem_of_getElem? (i := 1315) (by decide +kernel), List.mem_of_getElem? (i := 1316) (by decide +kernel)⟩
theorem lw_p38 : lw_okq (⟨"SilentLettersModel", "faultOf", "(IIZ)I"⟩, 49) := ⟨⟨by decide +kernel, by decide +kernel⟩, List.mem_of_getElem? (i := 1129) (by decide +kernel), List.mem_of_getElem? (i := 1322) (by decide +kernel), List.mem_of_getElem? (i := 1323) (by decide +kernel)⟩
theorem lw_p39 : lw_okq (⟨"SilentLettersModel", "readsRule", "()I"⟩, 49) := ⟨⟨by decide +kernel, by decide +kernel⟩, List.mem_of_getElem? (i := 1129) (by decide +kernel), List.mem_of_getElem? (i := 1330) (by decide +kernel), List.mem_of_getElem? (i := 1331) (by decide +kernel)⟩
theorem lw_p40 : lw_okq (⟨"SilentLettersModel", "readsRank", "(I)Z"⟩, 49) := ⟨⟨by decide +kernel, by decide +kernel⟩, List.mem_of_getElem? (i := 1129) (by decide +kernel), List.mem_of_getElem? (i := 1334) (by decide +kernel), List.mem_of_getElem? (i := 1335) (by decide +kernel)⟩
theorem lw_p41 : lw_okq (⟨"SilentLettersModel", "readsThing", "()Z"⟩, 49) := ⟨⟨by decide +kernel, by decide +kernel⟩, List.mem_of_getElem? (i := 1129) (by decide +kernel), List.mem_of_getElem? (i := 1338) (by decide +kernel), List.mem_of_getElem? (i := 1339) (by decide +kernel)⟩
theorem lw_p42 : lw_okq (⟨"SilentLettersModel", "codes", "(I)V"⟩, 49) := ⟨⟨by decide +kernel, by decide +kernel⟩, List.mem_of_getElem? (i := 1129) (by decide +kernel), List.mem_of_getElem? (i := 1342) (by decide +kernel), List.mem_of_getElem? (i := 1343) (by decide +kernel)⟩
theorem lw_p43 : lw_okq (⟨"SilentLettersModel", "isDigit", "()Z"⟩, 49) := ⟨⟨by decide +kernel, by decide +kernel⟩, List.mem_of_getElem? (i := 1129) (by decide +kernel), List.mem_of_getElem? (i := 1346) (by decide +kernel), List.mem_of_getElem? (i := 1347) (by decide +kernel)⟩
theorem lw_p44 : lw_okq (⟨"SilentLettersModel", "number", "(I)I"⟩, 49) := ⟨⟨by decide +kernel, by decide +kernel⟩, List.mem_of_getElem? (i := 1129) (by decide +kernel), List.mem_of_getElem? (i := 1352) (by decide +kernel), List.mem_of_getElem? (i := 1353) (by decide +kernel)⟩
theorem lw_p45 : lw_okq (⟨"SilentLettersModel", "laysCode", "([II)V"⟩, 49) := ⟨⟨by decide +kernel, by decide +kernel⟩, List.mem_of_getElem? (i := 1129) (by decide +kernel), List.mem_of_getElem? (i := 1360) (by decide +kernel), List.mem_of_getElem? (i := 1361) (by decide +kernel)⟩
theorem lw_p46 : lw_okq (⟨"SilentLettersModel", "isWord", "(I)Z"⟩, 49) := ⟨⟨by decide +kernel, by decide +kernel⟩, List.mem_of_getElem? (i := 1129) (by decide +kernel), List.mem_of_getElem? (i := 1368) (by decide +kernel), List.mem_of_getElem? (i := 1369) (by decide +kernel)⟩
theorem lw_p47 : lw_okq (⟨"SilentLettersModel", "refuse", "()I"⟩, 49) := ⟨⟨by decide +kernel, by decide +kernel⟩, List.mem_of_getElem? (i := 1129) (by decide +kernel), List.mem_of_getElem? (i := 1373) (by decide +kernel), List.mem_of_getElem? (i := 1374) (by decide +kernel)⟩
def lw_privs_3 : List (MethodName × Nat) := [(⟨"java/lang/Throwable", "fillInStackTrace", "(I)Ljava/lang/Throwable;"⟩, 6), (⟨"SilentLetters", "oneWith", "(I)I"⟩, 18), (⟨"SilentLettersModel", "begins", "(I)I"⟩, 49), (⟨"SilentLettersModel", "readsWord", "()Z"⟩, 49), (⟨"SilentLettersModel", "takesOf", "(Ljava/lang/String;)I"⟩, 49), (⟨"SilentLettersModel", "takes", "(I)Z"⟩, 49), (⟨"SilentLettersModel", "faultOf", "(IIZ)I"⟩, 49), (⟨"SilentLettersModel", "readsRule", "()I"⟩, 49), (⟨"SilentLettersModel", "readsRank", "(I)Z"⟩, 49), (⟨"SilentLettersModel", "readsThing", "()Z"⟩, 49), (⟨"SilentLettersModel", "codes", "(I)V"⟩, 49), (⟨"SilentLettersModel", "isDigit", "()Z"⟩, 49), (⟨"SilentLettersModel", "number", "(I)I"⟩, 49), (⟨"SilentLettersModel", "laysCode", "([II)V"⟩, 49), (⟨"SilentLettersModel", "isWord", "(I)Z"⟩, 49), (⟨"SilentLettersModel", "refuse", "()I"⟩, 49)]
theorem lw_r3 : ∀ q ∈ lw_privs_3, lw_okq q := List.forall_mem_cons.mpr ⟨lw_p32, List.forall_mem_cons.mpr ⟨lw_p33, List.forall_mem_cons.mpr ⟨lw_p34, List.forall_mem_cons.mpr ⟨lw_p35, List.forall_mem_cons.mpr ⟨lw_p36, List.forall_mem_cons.mpr ⟨lw_p37, List.forall_mem_cons.mpr ⟨lw_p38, List.forall_mem_cons.mpr ⟨lw_p39, List.forall_mem_cons.mpr ⟨lw_p40, List.forall_mem_cons.mpr ⟨lw_p41, List.forall_mem_cons.mpr ⟨lw_p42, List.forall_mem_cons.mpr ⟨lw_p43, List.forall_mem_cons.mpr ⟨lw_p44, List.forall_mem_cons.mpr ⟨lw_p45, List.forall_mem_cons.mpr ⟨lw_p46, List.forall_mem_cons.mpr ⟨lw_p47, fun _ h => absurd h List.not_mem_nil⟩⟩⟩⟩⟩⟩⟩⟩⟩⟩⟩⟩⟩⟩⟩⟩
theorem lw_p48 : lw_okq (⟨"SilentLettersModel", "isOneBy", "([IIII)Z"⟩, 49) := ⟨⟨by decide +kernel, by decide +kernel⟩, List.mem_of_getElem? (i := 1129) (by decide +kernel), List.mem_of_getElem? (i := 1380) (by decide +kernel), List.mem_of_getElem? (i := 1381) (by decide +kernel)⟩
theorem lw_p49 : lw_okq (⟨"SilentLettersModel", "lays", "([IIII)I"⟩, 49) := ⟨⟨by decide +kernel, by decide +kernel⟩, List.mem_of_getElem? (i := 1129) (by decide +kernel), List.mem_of_getElem? (i := 1384) (by decide +kernel), List.mem_of_getElem? (i := 1385) (by decide +kernel)⟩
theorem lw_p50 : lw_okq (⟨"SilentLettersModel", "signsOf", "([IIZ)I"⟩, 49) := ⟨⟨by decide +kernel, by decide +kernel⟩, List.mem_of_getElem? (i := 1129) (by decide +kernel), List.mem_of_getElem? (i := 1401) (by decide +kernel), List.mem_of_getElem? (i := 1402) (by decide +kernel)⟩
theorem lw_p51 : lw_okq (⟨"SilentLettersModel", "grudge", "([II)I"⟩, 49) := ⟨⟨by decide +kernel, by decide +kernel⟩, List.mem_of_getElem? (i := 1129) (by decide +kernel), List.mem_of_getElem? (i := 1405) (by decide +kernel), List.mem_of_getElem? (i := 1406) (by decide +kernel)⟩
theorem lw_p52 : lw_okq (⟨"SilentLettersModel", "grudgeAt", "([III)I"⟩, 49) := ⟨⟨by decide +kernel, by decide +kernel⟩, List.mem_of_getElem? (i := 1129) (by decide +kernel), List.mem_of_getElem? (i := 1409) (by decide +kernel), List.mem_of_getElem? (i := 1410) (by decide +kernel)⟩
theorem lw_p53 : lw_okq (⟨"SilentLettersModel", "ruled", "()I"⟩, 49) := ⟨⟨by decide +kernel, by decide +kernel⟩, List.mem_of_getElem? (i := 1129) (by decide +kernel), List.mem_of_getElem? (i := 1413) (by decide +kernel), List.mem_of_getElem? (i := 1414) (by decide +kernel)⟩
theorem lw_p54 : lw_okq (⟨"SilentLettersModel", "putsBy", "()V"⟩, 49) := ⟨⟨by decide +kernel, by decide +kernel⟩, List.mem_of_getElem? (i := 1129) (by decide +kernel), List.mem_of_getElem? (i := 1438) (by decide +kernel), List.mem_of_getElem? (i := 1439) (by decide +kernel)⟩
theorem lw_p55 : lw_okq (⟨"SilentLettersModel", "dayGoes", "([I)I"⟩, 49) := ⟨⟨by decide +kernel, by decide +kernel⟩, List.mem_of_getElem? (i := 1129) (by decide +kernel), List.mem_of_getElem? (i := 1442) (by decide +kernel), List.mem_of_getElem? (i := 1443) (by decide +kernel)⟩
theorem lw_p56 : lw_okq (⟨"SilentLettersModel", "unsaid", "([I)I"⟩, 49) := ⟨⟨by decide +kernel, by decide +kernel⟩, List.mem_of_getElem? (i := 1129) (by decide +kernel), List.mem_of_getElem? (i := 1446) (by decide +kernel), List.mem_of_getElem? (i := 1447) (by decide +kernel)⟩
theorem lw_p57 : lw_okq (⟨"SilentLettersModel", "strikeNext", "([I)I"⟩, 49) := ⟨⟨by decide +kernel, by decide +kernel⟩, List.mem_of_getElem? (i := 1129) (by decide +kernel), List.mem_of_getElem? (i := 1450) (by decide +kernel), List.mem_of_getElem? (i := 1451) (by decide +kernel)⟩
theorem lw_p58 : lw_okq (⟨"SilentLettersModel", "fallen", "([II)I"⟩, 49) := ⟨⟨by decide +kernel, by decide +kernel⟩, List.mem_of_getElem? (i := 1129) (by decide +kernel), List.mem_of_getElem? (i := 1454) (by decide +kernel), List.mem_of_getElem? (i := 1455) (by decide +kernel)⟩
theorem lw_p59 : lw_okq (⟨"SilentLettersModel", "enters", "(J)V"⟩, 49) := ⟨⟨by decide +kernel, by decide +kernel⟩, List.mem_of_getElem? (i := 1129) (by decide +kernel), List.mem_of_getElem? (i := 1458) (by decide +kernel), List.mem_of_getElem? (i := 1459) (by decide +kernel)⟩
theorem lw_p60 : lw_okq (⟨"SilentLettersModel", "adds", "(I)I"⟩, 49) := ⟨⟨by decide +kernel, by decide +kernel⟩, List.mem_of_getElem? (i := 1129) (by decide +kernel), List.mem_of_getElem? (i := 1462) (by decide +kernel), List.mem_of_getElem? (i := 1463) (by decide +kernel)⟩
theorem lw_p61 : lw_okq (⟨"SilentLettersModel", "offers", "([III)I"⟩, 49) := ⟨⟨by decide +kernel, by decide +kernel⟩, List.mem_of_getElem? (i := 1129) (by decide +kernel), List.mem_of_getElem? (i := 1470) (by decide +kernel), List.mem_of_getElem? (i := 1471) (by decide +kernel)⟩
theorem lw_p62 : lw_okq (⟨"SilentLettersModel", "counted", "(I)I"⟩, 49) := ⟨⟨by decide +kernel, by decide +kernel⟩, List.mem_of_getElem? (i := 1129) (by decide +kernel), List.mem_of_getElem? (i := 1475) (by decide +kernel), List.mem_of_getElem? (i := 1476) (by decide +kernel)⟩
theorem lw_p63 : lw_okq (⟨"SilentLettersModel", "stirsOne", "(II)I"⟩, 49) := ⟨⟨by decide +kernel, by decide +kernel⟩, List.mem_of_getElem? (i := 1129) (by decide +kernel), List.mem_of_getElem? (i := 1483) (by decide +kernel), List.mem_of_getElem? (i := 1484) (by decide +kernel)⟩
def lw_privs_4 : List (MethodName × Nat) := [(⟨"SilentLettersModel", "isOneBy", "([IIII)Z"⟩, 49), (⟨"SilentLettersModel", "lays", "([IIII)I"⟩, 49), (⟨"SilentLettersModel", "signsOf", "([IIZ)I"⟩, 49), (⟨"SilentLettersModel", "grudge", "([II)I"⟩, 49), (⟨"SilentLettersModel", "grudgeAt", "([III)I"⟩, 49), (⟨"SilentLettersModel", "ruled", "()I"⟩, 49), (⟨"SilentLettersModel", "putsBy", "()V"⟩, 49), (⟨"SilentLettersModel", "dayGoes", "([I)I"⟩, 49), (⟨"SilentLettersModel", "unsaid", "([I)I"⟩, 49), (⟨"SilentLettersModel", "strikeNext", "([I)I"⟩, 49), (⟨"SilentLettersModel", "fallen", "([II)I"⟩, 49), (⟨"SilentLettersModel", "enters", "(J)V"⟩, 49), (⟨"SilentLettersModel", "adds", "(I)I"⟩, 49), (⟨"SilentLettersModel", "offers", "([III)I"⟩, 49), (⟨"SilentLettersModel", "counted", "(I)I"⟩, 49), (⟨"SilentLettersModel", "stirsOne", "(II)I"⟩, 49)]
theorem lw_r4 : ∀ q ∈ lw_privs_4, lw_okq q := List.forall_mem_cons.mpr ⟨lw_p48, List.forall_mem_cons.mpr ⟨lw_p49, List.forall_mem_cons.mpr ⟨lw_p50, List.forall_mem_cons.mpr ⟨lw_p51, List.forall_mem_cons.mpr ⟨lw_p52, List.forall_mem_cons.mpr ⟨lw_p53, List.forall_mem_cons.mpr ⟨lw_p54, List.forall_mem_cons.mpr ⟨lw_p55, List.forall_mem_cons.mpr ⟨lw_p56, List.forall_mem_cons.mpr ⟨lw_p57, List.forall_mem_cons.mpr ⟨lw_p58, List.forall_mem_cons.mpr ⟨lw_p59, List.forall_mem_cons.mpr ⟨lw_p60, List.forall_mem_cons.mpr ⟨lw_p61, List.forall_mem_cons.mpr ⟨lw_p62, List.forall_mem_cons.mpr ⟨lw_p63, fun _ h => absurd h List.not_mem_nil⟩⟩⟩⟩⟩⟩⟩⟩⟩⟩⟩⟩⟩⟩⟩⟩
theorem lw_p64 : lw_okq (⟨"SilentLettersModel", "mutesOne", "([III)I"⟩, 49) := ⟨⟨by decide +kernel, by decide +kernel⟩, List.mem_of_getElem? (i := 1129) (by decide +kernel), List.mem_of_getElem? (i := 1492) (by decide +kernel), List.mem_of_getElem? (i := 1493) (by decide +kernel)⟩
theorem lw_p65 : lw_okq (⟨"SilentLettersModel", "readsAct", "()Z"⟩, 49) := ⟨⟨by decide +kernel, by decide +kernel⟩, List.mem_of_getElem? (i := 1129) (by decide +kernel), List.mem_of_getElem? (i := 1500) (by decide +kernel), List.mem_of_getElem? (i := 1501) (by decide +kernel)⟩
theorem lw_p66 : lw_okq (⟨"SilentLettersModel", "digitIn", "(II)I"⟩, 49) := ⟨⟨by decide +kernel, by decide +kernel⟩, List.mem_of_getElem? (i := 1129) (by decide +kernel), List.mem_of_getElem? (i := 1506) (by decide +kernel), List.mem_of_getElem? (i := 1507) (by decide +kernel)⟩
theorem lw_p67 : lw_okq (⟨"SilentLettersModel", "does", "(I)Z"⟩, 49) := ⟨⟨by decide +kernel, by decide +kernel⟩, List.mem_of_getElem? (i := 1129) (by decide +kernel), List.mem_of_getElem? (i := 1510) (by decide +kernel), List.mem_of_getElem? (i := 1511) (by decide +kernel)⟩
theorem lw_p68 : lw_okq (⟨"SilentLettersModel", "arePair", "(II)Z"⟩, 49) := ⟨⟨by decide +kernel, by decide +kernel⟩, List.mem_of_getElem? (i := 1129) (by decide +kernel), List.mem_of_getElem? (i := 1527) (by decide +kernel), List.mem_of_getElem? (i := 1528) (by decide +kernel)⟩
theorem lw_p69 : lw_okq (⟨"SilentLettersModel", "apartBy", "(III)I"⟩, 49) := ⟨⟨by decide +kernel, by decide +kernel⟩, List.mem_of_getElem? (i := 1129) (by decide +kernel), List.mem_of_getElem? (i := 1531) (by decide +kernel), List.mem_of_getElem? (i := 1532) (by decide +kernel)⟩
theorem lw_p70 : lw_okq (⟨"SilentLettersModel", "sharedBy", "(III)I"⟩, 49) := ⟨⟨by decide +kernel, by decide +kernel⟩, List.mem_of_getElem? (i := 1129) (by decide +kernel), List.mem_of_getElem? (i := 1542) (by decide +kernel), List.mem_of_getElem? (i := 1543) (by decide +kernel)⟩
theorem lw_p71 : lw_okq (⟨"SilentLettersModel", "copies", "()V"⟩, 49) := ⟨⟨by decide +kernel, by decide +kernel⟩, List.mem_of_getElem? (i := 1129) (by decide +kernel), List.mem_of_getElem? (i := 1557) (by decide +kernel), List.mem_of_getElem? (i := 1558) (by decide +kernel)⟩
theorem lw_p72 : lw_okq (⟨"SilentLettersModel", "areApart", "(II)Z"⟩, 49) := ⟨⟨by decide +kernel, by decide +kernel⟩, List.mem_of_getElem? (i := 1129) (by decide +kernel), List.mem_of_getElem? (i := 1583) (by decide +kernel), List.mem_of_getElem? (i := 1584) (by decide +kernel)⟩
theorem lw_p73 : lw_okq (⟨"SilentLettersModel", "tellsSet", "(I)I"⟩, 49) := ⟨⟨by decide +kernel, by decide +kernel⟩, List.mem_of_getElem? (i := 1129) (by decide +kernel), List.mem_of_getElem? (i := 1587) (by decide +kernel), List.mem_of_getElem? (i := 1588) (by decide +kernel)⟩
theorem lw_p74 : lw_okq (⟨"SilentLettersModel", "canBeOne", "([III)Z"⟩, 49) := ⟨⟨by decide +kernel, by decide +kernel⟩, List.mem_of_getElem? (i := 1129) (by decide +kernel), List.mem_of_getElem? (i := 1603) (by decide +kernel), List.mem_of_getElem? (i := 1604) (by decide +kernel)⟩
theorem lw_p75 : lw_okq (⟨"SilentLettersModel", "isAsNoticed", "(I)Z"⟩, 49) := ⟨⟨by decide +kernel, by decide +kernel⟩, List.mem_of_getElem? (i := 1129) (by decide +kernel), List.mem_of_getElem? (i := 1623) (by decide +kernel), List.mem_of_getElem? (i := 1624) (by decide +kernel)⟩
theorem lw_p76 : lw_okq (⟨"SilentLettersModel", "cost", "(I)I"⟩, 49) := ⟨⟨by decide +kernel, by decide +kernel⟩, List.mem_of_getElem? (i := 1129) (by decide +kernel), List.mem_of_getElem? (i := 1635) (by decide +kernel), List.mem_of_getElem? (i := 1636) (by decide +kernel)⟩
theorem lw_p77 : lw_okq (⟨"SilentLettersModel", "tips", "(I)I"⟩, 49) := ⟨⟨by decide +kernel, by decide +kernel⟩, List.mem_of_getElem? (i := 1129) (by decide +kernel), List.mem_of_getElem? (i := 1647) (by decide +kernel), List.mem_of_getElem? (i := 1648) (by decide +kernel)⟩
theorem lw_p78 : lw_okq (⟨"SilentLettersModel", "tellsFraction", "(JJ)V"⟩, 49) := ⟨⟨by decide +kernel, by decide +kernel⟩, List.mem_of_getElem? (i := 1129) (by decide +kernel), List.mem_of_getElem? (i := 1651) (by decide +kernel), List.mem_of_getElem? (i := 1652) (by decide +kernel)⟩
theorem lw_p79 : lw_okq (⟨"SilentLettersModel", "draws", "(I)I"⟩, 49) := ⟨⟨by decide +kernel, by decide +kernel⟩, List.mem_of_getElem? (i := 1129) (by decide +kernel), List.mem_of_getElem? (i := 1688) (by decide +kernel), List.mem_of_getElem? (i := 1689) (by decide +kernel)⟩
def lw_privs_5 : List (MethodName × Nat) := [(⟨"SilentLettersModel", "mutesOne", "([III)I"⟩, 49), (⟨"SilentLettersModel", "readsAct", "()Z"⟩, 49), (⟨"SilentLettersModel", "digitIn", "(II)I"⟩, 49), (⟨"SilentLettersModel", "does", "(I)Z"⟩, 49), (⟨"SilentLettersModel", "arePair", "(II)Z"⟩, 49), (⟨"SilentLettersModel", "apartBy", "(III)I"⟩, 49), (⟨"SilentLettersModel", "sharedBy", "(III)I"⟩, 49), (⟨"SilentLettersModel", "copies", "()V"⟩, 49), (⟨"SilentLettersModel", "areApart", "(II)Z"⟩, 49), (⟨"SilentLettersModel", "tellsSet", "(I)I"⟩, 49), (⟨"SilentLettersModel", "canBeOne", "([III)Z"⟩, 49), (⟨"SilentLettersModel", "isAsNoticed", "(I)Z"⟩, 49), (⟨"SilentLettersModel", "cost", "(I)I"⟩, 49), (⟨"SilentLettersModel", "tips", "(I)I"⟩, 49), (⟨"SilentLettersModel", "tellsFraction", "(JJ)V"⟩, 49), (⟨"SilentLettersModel", "draws", "(I)I"⟩, 49)]
theorem lw_r5 : ∀ q ∈ lw_privs_5, lw_okq q := List.forall_mem_cons.mpr ⟨lw_p64, List.forall_mem_cons.mpr ⟨lw_p65, List.forall_mem_cons.mpr ⟨lw_p66, List.forall_mem_cons.mpr ⟨lw_p67, List.forall_mem_cons.mpr ⟨lw_p68, List.forall_mem_cons.mpr ⟨lw_p69, List.forall_mem_cons.mpr ⟨lw_p70, List.forall_mem_cons.mpr ⟨lw_p71, List.forall_mem_cons.mpr ⟨lw_p72, List.forall_mem_cons.mpr ⟨lw_p73, List.forall_mem_cons.mpr ⟨lw_p74, List.forall_mem_cons.mpr ⟨lw_p75, List.forall_mem_cons.mpr ⟨lw_p76, List.forall_mem_cons.mpr ⟨lw_p77, List.forall_mem_cons.mpr ⟨lw_p78, List.forall_mem_cons.mpr ⟨lw_p79, fun _ h => absurd h List.not_mem_nil⟩⟩⟩⟩⟩⟩⟩⟩⟩⟩⟩⟩⟩⟩⟩⟩
theorem lw_p80 : lw_okq (⟨"SilentLettersModel", "allSigns", "(Z)I"⟩, 49) := ⟨⟨by decide +kernel, by decide +kernel⟩, List.mem_of_getElem? (i := 1129) (by decide +kernel), List.mem_of_getElem? (i := 1705) (by decide +kernel), List.mem_of_getElem? (i := 1706) (by decide +kernel)⟩
def lw_privs_6 : List (MethodName × Nat) := [(⟨"SilentLettersModel", "allSigns", "(Z)I"⟩, 49)]
theorem lw_r6 : ∀ q ∈ lw_privs_6, lw_okq q := List.forall_mem_cons.mpr ⟨lw_p80, fun _ h => absurd h List.not_mem_nil⟩
def lw_privs : List (MethodName × Nat) := lw_privs_1 ++ (lw_privs_2 ++ (lw_privs_3 ++ (lw_privs_4 ++ (lw_privs_5 ++ (lw_privs_6)))))
def lw_tbl : List Cond := k2_sels lw_privs ++ tables_1
theorem lw_privs_ok : ∀ q ∈ lw_privs, lw_okq q := by
  show ∀ q ∈ lw_privs_1 ++ (lw_privs_2 ++ (lw_privs_3 ++ (lw_privs_4 ++ (lw_privs_5 ++ (lw_privs_6))))), lw_okq q
  exact List.forall_mem_append.mpr ⟨lw_r1, List.forall_mem_append.mpr ⟨lw_r2, List.forall_mem_append.mpr ⟨lw_r3, List.forall_mem_append.mpr ⟨lw_r4, List.forall_mem_append.mpr ⟨lw_r5, lw_r6⟩⟩⟩⟩⟩
/-! ===== BEGIN words of one list among another's, by their places ===== -/
theorem goodIn_r {big : List Cond} (ws : List Cond) (ps : List Nat) (hp : ws = ps.filterMap (fun i => big[i]?)) (h : ws.all goodWord = true) : GoodIn big ws := by
  intro w hw
  have h1 := List.all_eq_true.mp h w hw
  rw [hp] at hw
  obtain ⟨i, -, hi⟩ := List.mem_filterMap.mp hw
  have hm : w ∈ big := by first | exact List.mem_of_getElem? hi | exact List.getElem?_mem hi
  exact ⟨hm, good_of_word h1⟩
theorem goodIn_app {big a b : List Cond} (ha : GoodIn big a) (hb : GoodIn big b) : GoodIn big (a ++ b) := fun w h => (List.mem_append.mp h).elim (ha w) (hb w)
theorem goodIn_ca {big a b : List Cond} {c : Cond} (ha : GoodIn big (c :: a)) (hb : GoodIn big b) : GoodIn big (c :: (a ++ b)) := fun w h => (List.mem_cons.mp h).elim (fun e => ha w (List.mem_cons.mpr (Or.inl e))) (fun h => (List.mem_append.mp h).elim (fun h => ha w (List.mem_cons.mpr (Or.inr h))) (hb w))
theorem goodIn_sub {big ws : List Cond} (hm : ∀ w ∈ ws, w ∈ big) (h : ws.all goodWord = true) : GoodIn big ws := fun w hw => ⟨hm w hw, good_of_word (List.all_eq_true.mp h w hw)⟩
/-! ===== END ===== -/

/-! ===== BEGIN new T[n][m]: the outer array a place, the inner ones among the pooled ===== -/
/-- f, but v at every address of l -/
def vr_up {α : Type} (f : Nat → α) (l : List Nat) (v : α) : Nat → α := fun a => if a ∈ l then v else f a
theorem vr_up_in {α : Type} {f : Nat → α} {l : List Nat} {v : α} {a : Nat} (h : a ∈ l) : vr_up f l v a = v := if_pos h
theorem vr_up_ne {α : Type} {f : Nat → α} {l : List Nat} {v : α} {a : Nat} (h : a ∉ l) : vr_up f l v a = f a := if_neg h
theorem vr_rows {L l : List Nat} {f : Nat → va_E} {e : va_E} (h : ∀ a, a ∈ l → a ∉ L) : va_pl L f ++ l.map (fun a => (a, e)) = va_pl (L ++ l) (vr_up f l e) := by
  unfold va_pl
  rw [List.map_append]
  congr 1
  · apply List.map_congr_left
    intro a ha
    rw [vr_up_ne (fun q => h a q ha)]
  · apply List.map_congr_left
    intro a ha
    rw [vr_up_in ha]
theorem vr_lay {X rows : va_W} {x : Nat × va_E} {pl : va_W} {D : va_G} {cl : List vw_C} {H : Heap} (hP : va_P D cl (((X ++ pl) ++ [x]) ++ rows) H) : va_P D cl ((X ++ [x]) ++ (pl ++ rows)) H := by
  rw [List.append_assoc (X ++ pl)] at hP
  have h := va_P.swap hP
  rw [← List.append_assoc X] at h
  have h2 := va_P.swap h
  rw [List.append_assoc (X ++ [x])] at h2
  exact h2
theorem vr_layD {X rows : va_W} {x : Nat × va_E} {pl : va_W} {A : Nat → Prop} (hD : va_D A (((X ++ pl) ++ [x]) ++ rows)) : va_D A ((X ++ [x]) ++ (pl ++ rows)) := by
  rw [List.append_assoc (X ++ pl)] at hD
  have h := va_D.swap hD
  rw [← List.append_assoc X] at h
  have h2 := va_D.swap h
  rw [List.append_assoc (X ++ [x])] at h2
  exact h2
theorem vr_outer (c : ClassId) (N h0 : Nat) : ∀ i : Nat, Jvm.Free.Multi.outerC c N h0 i = arrV c N (fun j => va_rf (if j < i then some (h0 + 1 + j) else none))
  | 0 => by
    show ({ cls := c, slots := Array.replicate N .null, vm := .none } : Cell) = _
    rw [arrV_new]
    refine congrArg (arrV c N) (funext fun j => ?_)
    simp [va_rf]
  | i + 1 => by
    show (Jvm.Free.Multi.outerC c N h0 i).setSlot i (.ref (h0 + 1 + i)) = _
    rw [vr_outer c N h0 i, arrV_store]
    refine congrArg (arrV c N) (funext fun j => ?_)
    by_cases e : j = i
    · subst e
      simp [updV, va_rf]
    · by_cases h : j < i
      · simp [updV, e, h, Nat.lt_succ_of_lt h]
      · simp [updV, e, h, show ¬ j < i + 1 by omega]
/-! ===== END ===== -/

/-! ===== BEGIN exceptions that leave a method, and their catching by the caller (launches without stack traces) ===== -/
section VXA
/-! The laws vx_back, vx_callV, vx_callS, vx_callSW, vx_throw0, vx_throwS follow proofs of the library, with one case more: JvmDerived/Free/Laws.lean (Back.of_free), Shelf42/LK1.lean (callV, callS), Shelf/KitTraced.lean (throwNew0V, throwNewS). -/
/-- where a method has thrown q: the class by its name, the cell, what was written, the world -/
def vx_T (XC : String → State → State → Prop) (st : State) (q : Addr) (t : State) (mc ms : Nat) (free : Addr → Prop) : Prop :=
  ∃ (E : String) (ce : Cell) (L : List Loc), XC E st t ∧ t.heap[q]? = some ce ∧ ce.vm = .none ∧ st.vm.findClass E = some ce.cls ∧ st.WarmedH t.vm ∧ st.sameButNew ({ t with vm := st.vm } : State) L mc ms ∧ ∀ z ∈ L, free z.base
def vx_Q (Qc : Array Value → State → Outcome → State → Prop) (XC : String → State → State → Prop) (mc ms : Nat) (free : Addr → Prop) : Array Value → State → Outcome → State → Prop := fun a st o t =>
  (Qc a st o t ∧ ∃ L, FrameEnd st o t L mc ms ∧ ∀ q ∈ L, free q.base) ∨ ∃ q, o = .threw q ∧ vx_T XC st q t mc ms free
/-- a callee that returns or throws -/
def vx_Met (l : Launch) (y : MethodName) (ws : List Cond) (rm : Room) (Pc : Array Value → State → Prop) (Qc : Array Value → State → Outcome → State → Prop) (XC : String → State → State → Prop) (mc ms : Nat) (free : Addr → Prop) : Prop :=
  MetFree l y (headSpec ws rm) Pc (fun _ _ _ _ _ => True) (vx_Q Qc XC mc ms free)
def vx_Post (XC : String → State → State → Prop) (mc ms : Nat) (free : Addr → Prop) : Pt → Array Value → Addr → Pt → Prop := fun A a q B =>
  ∃ (g : JFrame) (mk : MethodId) (t : State) (L : List Loc) (E : String) (ce : Cell), B.U.heap = t.heap ∧ B.U.vm = t.vm ∧ XC E (A.U.calling g mk a) t ∧ t.heap[q]? = some ce ∧ ce.vm = .none ∧ A.U.vm.findClass E = some ce.cls ∧ B.locs = A.locs ++ L ∧ (∀ z ∈ L, free z.base) ∧ B.cells = A.cells + mc ∧ B.slots = A.slots + ms
def vx_Back (l : Launch) (R : Room) (p : Program) (e : Env) (below : List Frame) (s : State) (sargs : Array Value) (y : MethodName) (len W9 : Nat)
    (Pre : Pt → Array Value → Prop) (Post : Pt → Array Value → Option Value → Pt → Prop) (PostX : Pt → Array Value → Addr → Pt → Prop) : Prop :=
  ∀ (m : MethodId) (meth : Method) (c : Code) (A : Pt) (g : JFrame) (ig : Instr) (mk : MethodId) (a : Array Value),
    Stand p l e R s m sargs below meth c A.U A.locs A.cells A.slots → g.method = m → g.locals.size = c.maxLocals → decode c.code g.pc = .ok (ig, len) →
    2 * g.monitorRoom + (g.stack.map fun v => v.category).sum ≤ W9 → A.U.methodNamed? y = some mk → Pre A a →
    (∃ (v : Option Value) (B : Pt), Stand p l e R s m sargs below meth c B.U B.locs B.cells B.slots ∧ Post A a v B ∧
      Steps p.tables e below (doInvoke e (A.U.setTop g) [] mk a).1 (B.U.setTop { g with pc := g.pc + len, stack := v.toList ++ g.stack })) ∨
    (∃ (q : Addr) (B : Pt), Stand p l e R s m sargs below meth c B.U B.locs B.cells B.slots ∧ PostX A a q B ∧
      Steps p.tables e below (doInvoke e (A.U.setTop g) [] mk a).1 ((B.U.setTop g).pushFrame (.throwing q)))
section Payer
variable {l : Launch} {R : Room} {p : Program} {e : Env} {below : List Frame} {s : State} {sargs : Array Value} {y : MethodName} {len W9 : Nat}
theorem vx_back {ws : List Cond} {rm : Room} {Pc : Array Value → State → Prop} {Qc : Array Value → State → Outcome → State → Prop} {XC : String → State → State → Prop} {mc ms : Nat} {free : Addr → Prop} {bytes : ByteArray} {maxL : Nat} {ret : Option FieldType}
    (hM : vx_Met l y ws rm Pc Qc XC mc ms free) (hblind : FrameBlind Pc) (hrc : rm.cells = mc) (hrs : rm.slots = ms)
    (hframes : rm.frames + 1 ≤ R.frames) (hlocals : W9 + (maxL + 11) + rm.locals ≤ R.locals)
    (hws : ∀ w ∈ ws, ∀ a' U, s.WarmedH U.vm → w.before a' U = true) (hcode : Cond.code y bytes maxL ret ∈ ws) (hinit : ∀ a' U, s.WarmedH U.vm → (Cond.initialized y.cls).before a' U = true) :
    vx_Back l R p e below s sargs y len W9 (PreOf R mc ms Pc) (PostOf Qc mc ms free) (vx_Post XC mc ms free) := by
  intro m meth c A g ig mk a X hg hsize hdg hW hn hp
  have h1 : (headSpec ws rm).pre.before a A.U = true := atoms_intro fun w hw => hws w hw _ _ X.warmed
  have h2 : (Cond.code y bytes maxL ret).before a A.U = true := hws _ hcode _ _ X.warmed
  have h3 : (Cond.initialized y.cls).before a A.U = true := hinit _ _ X.warmed
  have h4 : A.cells + (headSpec ws rm).room.cells ≤ R.cells := by rw [show (headSpec ws rm).room.cells = mc from hrc]; exact hp.1
  have h5 : A.slots + (headSpec ws rm).room.slots ≤ R.slots := by rw [show (headSpec ws rm).room.slots = ms from hrs]; exact hp.2.1
  have hPc : Pc a (A.U.calling g mk a) := hblind _ _ _ _ hp.2.2
  obtain ⟨U, Ls, c0, s0⟩ := A
  dsimp only [Pt.U, Pt.locs, Pt.cells, Pt.slots] at h1 h2 h3 h4 h5 X hn hPc ⊢
  obtain ⟨methY, cY, hmY, hcY, -, hlY, -, -, -, -⟩ := Cond.code_spec hn h2
  obtain ⟨kY, hkY, -⟩ := className_of_methodNamed hn
  have hinitY : kY.init = .initialized := Cond.initialized_spec (findClass_of_methodNamed hn) hkY h3
  have h : At U g.method c below := by rw [hg]; exact X.here
  have hlocals9 : W9 + (maxL + 11) + (headSpec ws rm).room.locals ≤ R.locals := hlocals
  have happ : (headSpec ws rm).appliesLoose y e.platform (U.calling g mk a) = true :=
    Spec.appliesLoose_calling (g := g) h hdg hn hkY hinitY
      (X.room_calling (g := g) (R' := (headSpec ws rm).room) hsize hmY hcY hframes (by rw [hlY]; omega) h4 h5) h1
  obtain ⟨mid, hmid⟩ := h.above
  have hfr : (U.setTop g).frames = (.java g :: mid) ++ below := by rw [State.frames_setTop' g h.top, hmid]; rfl
  obtain ⟨o, s₂, hsteps, -, hend, hq⟩ := Steps.callFree hM p X.admits X.cas X.clock (acts := []) hfr happ hPc trivial
  have hq' : vx_Q Qc XC mc ms free a (U.calling g mk a) o s₂ := hq
  rw [State.frames_setTop' g h.top] at hend
  obtain ⟨g₀, hg0⟩ := Option.isSome_iff_exists.mp h.top
  obtain ⟨r, hr⟩ := State.topJava?_eq_some.mp hg0
  have hr' : (({ U with heap := s₂.heap, slotsUsed := s₂.slotsUsed } : State).setVm s₂.vm).frames = .java g₀ :: r := hr
  rcases hq' with ⟨hqc, L, hfe, hL⟩ | ⟨q, rfl, E, ce, L, hx, hce, hcv, hcl, hW₂, hsm, hL⟩
  · obtain ⟨⟨v, rfl⟩, hW₂, e2, q2, q3, q4, q5, q6⟩ := id hfe
    have e3 : s₂ = ({ (U.calling g mk a).setFrames s₂.frames with heap := s₂.heap, slotsUsed := s₂.slotsUsed } : State).setVm s₂.vm := by
      have : s₂ = ({ s₂ with vm := (U.calling g mk a).vm } : State).setVm s₂.vm := rfl
      rw [e2] at this
      exact this
    obtain ⟨c₂, i₂, len₂, hc₂, hd₂, hf₂⟩ := hend
    have hW' : U.WarmedH s₂.vm := hW₂
    have hcc : c₂ = c := by
      have h1 : s₂.code? g.method = U.code? g.method := by
        rw [State.code?_eq, State.code?_eq, hW'.alike.method?]
      exact Option.some.inj (hc₂.symm.trans (h1.trans h.code))
    subst hcc
    have hlen : len₂ = len := by rw [hdg] at hd₂; cases hd₂; rfl
    subst hlen
    have hs₂ : s₂ = (({ U with heap := s₂.heap, slotsUsed := s₂.slotsUsed } : State).setVm s₂.vm).setTop { g with pc := g.pc + len₂, stack := v.toList ++ g.stack } := by
      refine e3.trans ?_
      rw [hf₂, State.calling_eq h.top, State.setFrames_setFrames, State.setTop_of_frames _ hr', hr]
      rfl
    have hsame : U.sameButNew ({ U with heap := s₂.heap, slotsUsed := s₂.slotsUsed } : State) L mc ms := by
      refine ⟨?_, q2, q3, q4, q5, q6⟩
      obtain ⟨t, ht, -⟩ := State.frames_cons hr
      show ({ U with heap := s₂.heap, slotsUsed := s₂.slotsUsed } : State) = { U.setFrames U.frames with heap := s₂.heap, slotsUsed := s₂.slotsUsed }
      rw [State.setFrames_self ht]
    subst hg
    refine Or.inl ⟨v, ⟨(({ U with heap := s₂.heap, slotsUsed := s₂.slotsUsed } : State).setVm s₂.vm), Ls ++ L, c0 + mc, s0 + ms⟩,
      ⟨X.admits, X.cas, X.clock, X.frames, X.room, X.hears, X.method, X.code, (X.here.setHeapUsed s₂.heap s₂.slotsUsed).setVm hW'.alike, X.tail, State.WarmedH.trans X.warmed hW', X.limits, X.bytes, X.same.trans (hsame.setVm s.vm)⟩,
      ⟨g, mk, s₂, L, rfl, rfl, hqc, rfl, hL, rfl, rfl⟩, ?_⟩
    show Steps p.tables e below _ ((({ U with heap := s₂.heap, slotsUsed := s₂.slotsUsed } : State).setVm s₂.vm).setTop { g with pc := g.pc + len₂, stack := v.toList ++ g.stack })
    rw [← hs₂]
    exact hsteps
  · obtain ⟨e2, q2, q3, q4, q5, q6⟩ := id hsm
    have e3 : s₂ = ({ (U.calling g mk a).setFrames s₂.frames with heap := s₂.heap, slotsUsed := s₂.slotsUsed } : State).setVm s₂.vm := by
      have : s₂ = ({ s₂ with vm := (U.calling g mk a).vm } : State).setVm s₂.vm := rfl
      rw [e2] at this
      exact this
    have hf₂ : s₂.frames = .throwing q :: .java g :: U.frames.tail := hend
    have hW' : U.WarmedH s₂.vm := hW₂
    have hs₂ : s₂ = ((({ U with heap := s₂.heap, slotsUsed := s₂.slotsUsed } : State).setVm s₂.vm).setTop g).pushFrame (.throwing q) := by
      refine e3.trans ?_
      rw [hf₂, State.calling_eq h.top, State.setFrames_setFrames, State.pushFrame, State.frames_setTop _ hr', State.setTop_of_frames _ hr', State.setFrames_setFrames, hr]
      rfl
    have hsame : U.sameButNew ({ U with heap := s₂.heap, slotsUsed := s₂.slotsUsed } : State) L mc ms := by
      refine ⟨?_, q2, q3, q4, q5, q6⟩
      obtain ⟨t, ht, -⟩ := State.frames_cons hr
      show ({ U with heap := s₂.heap, slotsUsed := s₂.slotsUsed } : State) = { U.setFrames U.frames with heap := s₂.heap, slotsUsed := s₂.slotsUsed }
      rw [State.setFrames_self ht]
    subst hg
    refine Or.inr ⟨q, ⟨(({ U with heap := s₂.heap, slotsUsed := s₂.slotsUsed } : State).setVm s₂.vm), Ls ++ L, c0 + mc, s0 + ms⟩,
      ⟨X.admits, X.cas, X.clock, X.frames, X.room, X.hears, X.method, X.code, (X.here.setHeapUsed s₂.heap s₂.slotsUsed).setVm hW'.alike, X.tail, State.WarmedH.trans X.warmed hW', X.limits, X.bytes, X.same.trans (hsame.setVm s.vm)⟩,
      ⟨g, mk, s₂, L, E, ce, rfl, rfl, hx, hce, hcv, hcl, rfl, hL, rfl, rfl⟩, ?_⟩
    show Steps p.tables e below _ (((({ U with heap := s₂.heap, slotsUsed := s₂.slotsUsed } : State).setVm s₂.vm).setTop g).pushFrame (.throwing q))
    rw [← hs₂]
    exact hsteps
end Payer
section Calls
variable {p : Program} {l : Launch} {e : Env} {R : Room} {s : State} {m : MethodId} {args : Array Value} {below : List Frame} {meth : Method} {c : Code} {T : State} {locs : List Loc} {cells slots : Nat}
theorem vx_callV (X : Stand p l e R s m args below meth c T locs cells slots) (hexec : p.tables.exec = Jvm.exec) {own C : String} {index : Nat} {y : MethodName} {bytes : ByteArray} {maxL : Nat} {ret : Option FieldType}
    (hown : s.vm.findClass own = some m.cls) (hlink : (Cond.methodLink own index y).before args s = true) (hinst : (Cond.instanceMethod y).before args s = true) (hsel : (Cond.selects C y y).before args s = true)
    (hcode : (Cond.code y bytes maxL ret).before args s = true) (hy : y.cls ≠ "java/lang/invoke/MethodHandle" ∧ y.cls ≠ "java/lang/invoke/VarHandle")
    {W9 : Nat} {Pre : Pt → Array Value → Prop} {Post : Pt → Array Value → Option Value → Pt → Prop} {PostX : Pt → Array Value → Addr → Pt → Prop} (hK : vx_Back l R p e below s args y 3 W9 Pre Post PostX)
    {b : Addr} {cellB : Cell} (hcell : T.heap[b]? = some cellB) (hobj : cellB.vm.isStatics = false) (hcls : s.vm.findClass C = some cellB.cls)
    {g : JFrame} (hg : g.method = m) (hsize : g.locals.size = c.maxLocals) {argsL rest : List Value} (hlen : ∀ sig, parseMethodDescriptor y.desc = some sig → argsL.length = sig.parameters.length)
    (hstack : g.stack = argsL.reverse ++ .ref b :: rest) (hW : 2 * g.monitorRoom + (rest.map fun v => v.category).sum ≤ W9) (hdg : decode c.code g.pc = .ok (.invokevirtual index, 3))
    (hpre : ∀ vm₁, s.WarmedH vm₁ → Pre ⟨T.setVm vm₁, locs, cells, slots⟩ (Value.ref b :: argsL).toArray) :
    (∃ (v : Option Value) (vm₁ : Vm) (B : Pt), s.WarmedH vm₁ ∧ Stand p l e R s m args below meth c B.U B.locs B.cells B.slots ∧ Post ⟨T.setVm vm₁, locs, cells, slots⟩ (Value.ref b :: argsL).toArray v B ∧
      ∀ target, Steps p.tables e below (B.U.setTop { g with pc := g.pc + 3, stack := v.toList ++ rest }) target → Steps p.tables e below (T.setTop g) target) ∨
    (∃ (q : Addr) (vm₁ : Vm) (B : Pt), s.WarmedH vm₁ ∧ Stand p l e R s m args below meth c B.U B.locs B.cells B.slots ∧ PostX ⟨T.setVm vm₁, locs, cells, slots⟩ (Value.ref b :: argsL).toArray q B ∧
      Steps p.tables e below (T.setTop g) ((B.U.setTop { g with stack := rest }).pushFrame (.throwing q))) := by
  obtain ⟨mk, methM, hnamed, hmethM, hstM, habM⟩ := Cond.instanceMethod_spec hinst
  obtain ⟨methM', cM, hmethM', -, -, -, -, -, -, hsigM⟩ := Cond.code_spec hnamed hcode
  cases hmethM.symm.trans hmethM'
  obtain ⟨c2, r2, m2, q1, q2, q3, q4, kP, hkP, hkPi⟩ := Cond.selects_spec hsel
  cases hcls.symm.trans q1
  cases (State.methodFound?_of_named hnamed hy).symm.trans q2
  cases hnamed.symm.trans q3
  have hselP : selectMethod e.platform s.vm cellB.cls mk = .method mk := by rw [Launch.admits_selectMethod X.admits]; exact q4
  obtain ⟨vm₁, X₁, hstep₁⟩ := X.invokevirtual hexec hown hlink hnamed hmethM hstM hkP hkPi hy (a := b) (cell := cellB) hcell
    (fun z h => by rw [h] at hobj; cases hobj) hselP hmethM habM hkP hkPi (g := g) hg (argsL := argsL) (rest := rest) (hlen _ hsigM) hstack hdg
  rcases hK m meth c ⟨T.setVm vm₁, locs, cells, slots⟩ { g with stack := rest } (.invokevirtual index) mk (Value.ref b :: argsL).toArray X₁ hg hsize hdg hW (X₁.named hnamed) (hpre vm₁ X₁.warmed) with ⟨v, B, X', hpost, hsteps⟩ | ⟨q, B, X', hpost, hsteps⟩
  · exact Or.inl ⟨v, vm₁, B, X₁.warmed, X', hpost, fun target h => hstep₁ _ fun acts => by rw [doInvoke_state]; exact hsteps.trans h⟩
  · exact Or.inr ⟨q, vm₁, B, X₁.warmed, X', hpost, hstep₁ _ fun acts => by rw [doInvoke_state]; exact hsteps⟩
theorem vx_callS (X : Stand p l e R s m args below meth c T locs cells slots) (hexec : p.tables.exec = Jvm.exec) {own : String} {index : Nat} {y : MethodName} {bytes : ByteArray} {maxL : Nat} {ret : Option FieldType}
    (hown : s.vm.findClass own = some m.cls) (hlink : (Cond.methodLink own index y).before args s = true) (hstat : (Cond.static y).before args s = true) (hinit : (Cond.initialized y.cls).before args s = true)
    (hcode : (Cond.code y bytes maxL ret).before args s = true) (hy : y.cls ≠ "java/lang/invoke/MethodHandle" ∧ y.cls ≠ "java/lang/invoke/VarHandle")
    {W9 : Nat} {Pre : Pt → Array Value → Prop} {Post : Pt → Array Value → Option Value → Pt → Prop} {PostX : Pt → Array Value → Addr → Pt → Prop} (hK : vx_Back l R p e below s args y 3 W9 Pre Post PostX)
    {g : JFrame} (hg : g.method = m) (hsize : g.locals.size = c.maxLocals) {argsL rest : List Value} (hlen : ∀ sig, parseMethodDescriptor y.desc = some sig → argsL.length = sig.parameters.length)
    (hstack : g.stack = argsL.reverse ++ rest) (hW : 2 * g.monitorRoom + (rest.map fun v => v.category).sum ≤ W9) (hdg : decode c.code g.pc = .ok (.invokestatic index, 3))
    (hpre : ∀ vm₁, s.WarmedH vm₁ → Pre ⟨T.setVm vm₁, locs, cells, slots⟩ argsL.toArray) :
    (∃ (v : Option Value) (vm₁ : Vm) (B : Pt), s.WarmedH vm₁ ∧ Stand p l e R s m args below meth c B.U B.locs B.cells B.slots ∧ Post ⟨T.setVm vm₁, locs, cells, slots⟩ argsL.toArray v B ∧
      ∀ target, Steps p.tables e below (B.U.setTop { g with pc := g.pc + 3, stack := v.toList ++ rest }) target → Steps p.tables e below (T.setTop g) target) ∨
    (∃ (q : Addr) (vm₁ : Vm) (B : Pt), s.WarmedH vm₁ ∧ Stand p l e R s m args below meth c B.U B.locs B.cells B.slots ∧ PostX ⟨T.setVm vm₁, locs, cells, slots⟩ argsL.toArray q B ∧
      Steps p.tables e below (T.setTop g) ((B.U.setTop { g with stack := rest }).pushFrame (.throwing q))) := by
  obtain ⟨mk, hnamed⟩ := Cond.code_named hcode
  obtain ⟨methM, cM, hmethM, -, -, -, -, -, -, hsigM⟩ := Cond.code_spec hnamed hcode
  have hstatic : methM.isStatic = true := Cond.static_spec hnamed hmethM hstat
  obtain ⟨kP, hkP, -⟩ := className_of_methodNamed hnamed
  have hinitP : kP.init = .initialized := Cond.initialized_spec (findClass_of_methodNamed hnamed) hkP hinit
  obtain ⟨vm₁, X₁, hstep₁⟩ := X.invokestatic hexec hown hlink hnamed hmethM hstatic hkP hinitP hy (g := g) hg (argsL := argsL) (rest := rest) (hlen _ hsigM) hstack hdg
  rcases hK m meth c ⟨T.setVm vm₁, locs, cells, slots⟩ { g with stack := rest } (.invokestatic index) mk argsL.toArray X₁ hg hsize hdg hW (X₁.named hnamed) (hpre vm₁ X₁.warmed) with ⟨v, B, X', hpost, hsteps⟩ | ⟨q, B, X', hpost, hsteps⟩
  · exact Or.inl ⟨v, vm₁, B, X₁.warmed, X', hpost, fun target h => hstep₁ _ fun acts => by rw [doInvoke_state]; exact hsteps.trans h⟩
  · exact Or.inr ⟨q, vm₁, B, X₁.warmed, X', hpost, hstep₁ _ fun acts => by rw [doInvoke_state]; exact hsteps⟩
end Calls
theorem vx_cls {s : State} {T : State} {vm₁ : Vm} {E : String} {k : ClassId} (hW : s.WarmedH vm₁) (h : (T.setVm vm₁).vm.findClass E = some k) : s.vm.findClass E = some k := by
  have h1 : vm₁.findClass E = some k := h
  rw [hW.alike.findClass] at h1
  exact h1
/-- the method's frame g, with q thrown over it -/
def vx_W (p : Program) (l : Launch) (e : Env) (R : Room) (s : State) (m : MethodId) (args : Array Value) (below : List Frame) (meth : Method) (c : Code) (H : Heap) (locs : List Loc) (cells slots : Nat) (Q : State → Prop) (g : JFrame) (q : Addr) : Prop :=
  ∀ T : State, T.heap = H → Stand p l e R s m args below meth c T locs cells slots → ∃ t, Steps p.tables e below ((T.setTop g).pushFrame (.throwing q)) t ∧ Q t
def vx_Run (p : Program) (l : Launch) (e : Env) (R : Room) (s : State) (m : MethodId) (args : Array Value) (below : List Frame) (meth : Method) (c : Code) (H : Heap) (locs : List Loc) (cells slots mc ms : Nat) (g : JFrame) (rest : List Value) (Qa : State → Outcome → State → Prop) (XC : String → State → State → Prop) (free : Addr → Prop) : Prop :=
  ∀ T : State, T.heap = H → Stand p l e R s m args below meth c T locs cells slots →
    (∃ (v : Option Value) (st₀ t T' : State) (L : List Loc), st₀.heap = H ∧ Stand p l e R s m args below meth c T' (locs ++ L) (cells + mc) (slots + ms) ∧ (∀ q ∈ L, free q.base) ∧ T'.heap = t.heap ∧ T'.vm = t.vm ∧ Qa st₀ (.returned v) t ∧
      Goes p e below T g T' { g with pc := g.pc + 3, stack := v.toList ++ rest }) ∨
    (∃ (q : Addr) (st₀ t T' : State) (L : List Loc) (E : String) (ce : Cell), st₀.heap = H ∧ Stand p l e R s m args below meth c T' (locs ++ L) (cells + mc) (slots + ms) ∧ (∀ z ∈ L, free z.base) ∧ T'.heap = t.heap ∧ T'.vm = t.vm ∧ XC E st₀ t ∧ t.heap[q]? = some ce ∧ ce.vm = .none ∧ s.vm.findClass E = some ce.cls ∧
      Steps p.tables e below (T.setTop g) ((T'.setTop { g with stack := rest }).pushFrame (.throwing q)))
def vx_X {S : Type} (px : S → Prop) (B : String → S → State → Prop) (A : Nat → Prop) : String → State → State → Prop := fun E st t => ∃ u : S, px u ∧ B E u t ∧ va_F A st t
section Runs
variable {p : Program} {l : Launch} {e : Env} {R : Room} {s : State} {m : MethodId} {args : Array Value} {below : List Frame} {meth : Method} {c : Code} {H : Heap} {locs : List Loc} {cells slots : Nat}
variable {y : MethodName} {bytes cc : ByteArray} {maxL nL mc ms n index : Nat} {ret : Option FieldType} {ws : List Cond} {rm : Room} {Pc : Array Value → State → Prop} {Qc : Array Value → State → Outcome → State → Prop} {XC : String → State → State → Prop} {free : Addr → Prop} {Ts : List Cond} {own C : String} {b : Addr} {As rest : List Value} {g : JFrame}
theorem vx_callBack (cb : CallB R s args own index y bytes maxL ret ws rm mc ms n) (hM : vx_Met l y ws rm Pc Qc XC mc ms free) (hbl : FrameBlind Pc) : vx_Back l R p e below s args y 3 8 (PreOf R mc ms Pc) (PostOf Qc mc ms free) (vx_Post XC mc ms free) := by
  obtain ⟨hrc, hrs, hfr, hlo, hws, hcw, -, hini, -⟩ := cb
  exact vx_back (bytes := bytes) (maxL := maxL) (ret := ret) hM hbl hrc hrs hfr hlo hws hcw (fun a' U hW => word_at hW (Or.inl (by first | rfl | simp [Cond.onTables, Cond.keeps, Cond.steady])) hini)
theorem vx_runV (S : CallFix p m c cc nL s args Ts own) (hM : vx_Met l y ws rm Pc Qc XC mc ms free) (cw : CallW R s args own C index y bytes maxL ret ws rm mc ms n) (hp : PreV s H C b Pc As)
    (hg : g.method = m) (hn : As.length = n) (hsize : g.locals.size = nL) (hstack : g.stack = As.reverse ++ .ref b :: rest) (hW : 2 * g.monitorRoom + (rest.map fun v => v.category).sum ≤ 8) (hdg : decode cc g.pc = .ok (.invokevirtual index, 3)) (hf : cells + mc ≤ R.cells ∧ slots + ms ≤ R.slots) :
    vx_Run p l e R s m args below meth c H locs cells slots mc ms g rest (Qc (Value.ref b :: As).toArray) XC free := by
  have hK : vx_Back l R p e below s args y 3 8 (PreOf R mc ms Pc) (PostOf Qc mc ms free) (vx_Post XC mc ms free) := vx_callBack cw.1 hM hp.1
  obtain ⟨⟨-, -, -, -, -, -, hcode, -, hy, hlen, hl⟩, hin, hse⟩ := cw
  obtain ⟨hx, hb, hml, ho, -⟩ := S
  obtain ⟨-, ⟨cellB, hcB, hoB, hclB⟩, hPc⟩ := hp
  intro T hT X
  rcases vx_callV X hx (C := C) (bytes := bytes) (maxL := maxL) (ret := ret) ho hl hin hse hcode hy hK (by rw [hT]; exact hcB) hoB hclB hg (hsize.trans hml.symm) (argsL := As) (rest := rest) (fun sig h => hn.trans (hlen sig h)) hstack hW (by rw [hb]; exact hdg)
    (fun vm₁ hW₁ => ⟨hf.1, hf.2, hPc (T.setVm vm₁) hT hW₁⟩) with ⟨v, vm₁, ⟨U', l2, c2, s2⟩, hW₁, X', ⟨g', mk, t, L, e1, e2, hq, h1, hL, h2, h3⟩, st⟩ | ⟨q, vm₁, ⟨U', l2, c2, s2⟩, hW₁, X', ⟨g', mk, t, L, E, ce, e1, e2, hq, hce, hcv, hcl, h1, hL, h2, h3⟩, st⟩
  · dsimp only [Pt.U, Pt.locs, Pt.cells, Pt.slots] at X' e1 e2 h1 h2 h3 st
    subst h1; subst h2; subst h3
    exact Or.inl ⟨v, (T.setVm vm₁).calling g' mk (Value.ref b :: As).toArray, t, U', L, hT, X', hL, e1, e2, hq, st⟩
  · dsimp only [Pt.U, Pt.locs, Pt.cells, Pt.slots] at X' e1 e2 h1 h2 h3 st hcl
    subst h1; subst h2; subst h3
    exact Or.inr ⟨q, (T.setVm vm₁).calling g' mk (Value.ref b :: As).toArray, t, U', L, E, ce, hT, X', hL, e1, e2, hq, hce, hcv, vx_cls hW₁ hcl, st⟩
theorem vx_runS (S : CallFix p m c cc nL s args Ts own) (hM : vx_Met l y ws rm Pc Qc XC mc ms free) (cw : CallB R s args own index y bytes maxL ret ws rm mc ms n ∧ (Cond.static y).before args s = true) (hp : PreS s H Pc As)
    (hg : g.method = m) (hn : As.length = n) (hsize : g.locals.size = nL) (hstack : g.stack = As.reverse ++ rest) (hW : 2 * g.monitorRoom + (rest.map fun v => v.category).sum ≤ 8) (hdg : decode cc g.pc = .ok (.invokestatic index, 3)) (hf : cells + mc ≤ R.cells ∧ slots + ms ≤ R.slots) :
    vx_Run p l e R s m args below meth c H locs cells slots mc ms g rest (Qc As.toArray) XC free := by
  have hK : vx_Back l R p e below s args y 3 8 (PreOf R mc ms Pc) (PostOf Qc mc ms free) (vx_Post XC mc ms free) := vx_callBack cw.1 hM hp.1
  obtain ⟨⟨-, -, -, -, -, -, hcode, hini, hy, hlen, hl⟩, hstt⟩ := cw
  obtain ⟨hx, hb, hml, ho, -⟩ := S
  intro T hT X
  rcases vx_callS X hx (bytes := bytes) (maxL := maxL) (ret := ret) ho hl hstt hini hcode hy hK hg (hsize.trans hml.symm) (argsL := As) (rest := rest) (fun sig h => hn.trans (hlen sig h)) hstack hW (by rw [hb]; exact hdg)
    (fun vm₁ hW₁ => ⟨hf.1, hf.2, hp.2 (T.setVm vm₁) hT hW₁⟩) with ⟨v, vm₁, ⟨U', l2, c2, s2⟩, hW₁, X', ⟨g', mk, t, L, e1, e2, hq, h1, hL, h2, h3⟩, st⟩ | ⟨q, vm₁, ⟨U', l2, c2, s2⟩, hW₁, X', ⟨g', mk, t, L, E, ce, e1, e2, hq, hce, hcv, hcl, h1, hL, h2, h3⟩, st⟩
  · dsimp only [Pt.U, Pt.locs, Pt.cells, Pt.slots] at X' e1 e2 h1 h2 h3 st
    subst h1; subst h2; subst h3
    exact Or.inl ⟨v, (T.setVm vm₁).calling g' mk As.toArray, t, U', L, hT, X', hL, e1, e2, hq, st⟩
  · dsimp only [Pt.U, Pt.locs, Pt.cells, Pt.slots] at X' e1 e2 h1 h2 h3 st hcl
    subst h1; subst h2; subst h3
    exact Or.inr ⟨q, (T.setVm vm₁).calling g' mk As.toArray, t, U', L, E, ce, hT, X', hL, e1, e2, hq, hce, hcv, vx_cls hW₁ hcl, st⟩
end Runs
section Rows
variable {p : Program} {l : Launch} {e : Env} {R : Room} {s : State} {m : MethodId} {args : Array Value} {below : List Frame} {meth : Method} {c : Code} {H : Heap} {locs : List Loc} {cells slots : Nat} {Q : State → Prop}
variable {mc ms : Nat} {free : Addr → Prop} {A0 A1 : Nat → Prop} {H0 : Heap} {a : Array Value} {pc : Nat} {ls : Array Slot} {st0 rest : List Value}
theorem vx_keep {st₀ t T' : State} {L : List Loc} (h0 : st₀.heap = H) (e1 : T'.heap = t.heap) (hS : va_S A0 H0 H locs) (hA : ∀ q, q < H.size → A1 q → A0 q) (hf : ∀ q, free q → A0 q) (hL : ∀ q ∈ L, free q.base) (hF : va_F A1 st₀ t) :
    H.size ≤ T'.heap.size ∧ (∀ q : Nat, q < H.size → ¬ A1 q → T'.heap[q]? = H[q]?) ∧ va_S A0 H0 T'.heap (locs ++ L) := by
  obtain ⟨hz, hk⟩ := hF
  rw [h0] at hz hk
  exact ⟨by rw [e1]; exact hz, fun q h1 h2 => by rw [e1]; exact hk q h1 h2,
    ⟨Nat.le_trans hS.1 (by rw [e1]; exact hz), fun q h1 h2 => by rw [e1, hk q (Nat.lt_of_lt_of_le h1 hS.1) (fun z => h2 (hA q (Nat.lt_of_lt_of_le h1 hS.1) z))]; exact hS.2.1 q h1 h2, fun q hq => by
      rcases List.mem_append.mp hq with h | h
      · exact hS.2.2 q h
      · exact hf _ (hL q h)⟩⟩
theorem vx_calli {S SX : Type} {post : Int32 → S → Prop} {px : SX → Prop} {B : S → State → Prop} {BX : String → SX → State → Prop} {AX : Nat → Prop} (hr : vx_Run p l e R s m args below meth c H locs cells slots mc ms (F0 m pc ls st0) rest (va_Qi post B A1 a) (vx_X px BX AX) free) (hS : va_S A0 H0 H locs) (hA : ∀ q, q < H.size → A1 q → A0 q) (hf : ∀ q, free q → A0 q) (hAX : ∀ q, q < H.size → AX q → A0 q)
    (kx : ∀ (E : String) (ce : Cell) (q9 : Addr) (u : SX) (t : State) (H1 : Heap) (locs1 : List Loc), t.heap = H1 → s.vm.Alike t.vm → px u → BX E u t → H.size ≤ H1.size → (∀ q : Nat, q < H.size → ¬ AX q → H1[q]? = H[q]?) → va_S A0 H0 H1 locs1 → H1[q9]? = some ce → ce.vm = .none → s.vm.findClass E = some ce.cls → vx_W p l e R s m args below meth c H1 locs1 (cells + mc) (slots + ms) Q (F0 m pc ls rest) q9)
    (kk : ∀ (r : Int32) (u : S) (t : State) (H1 : Heap) (locs1 : List Loc), t.heap = H1 → s.vm.Alike t.vm → post r u → B u t → H.size ≤ H1.size → (∀ q : Nat, q < H.size → ¬ A1 q → H1[q]? = H[q]?) → va_S A0 H0 H1 locs1 → W p l e R s m args below meth c H1 locs1 (cells + mc) (slots + ms) Q (F0 m (pc + 3) ls (.int r :: rest))) : W p l e R s m args below meth c H locs cells slots Q (F0 m pc ls st0) := by
  intro T hT X
  rcases hr T hT X with ⟨v, st₀, t, T', L, h0, X', hL, e1, e2, ⟨⟨r, u, hv, hp, hb⟩, hF⟩, st⟩ | ⟨q, st₀, t, T', L, E, ce, h0, X', hL, e1, e2, ⟨u, hp, hb, hF⟩, hce, hcv, hcl, st⟩
  · cases hv
    obtain ⟨k1, k2, k3⟩ := vx_keep h0 e1 hS hA hf hL hF
    obtain ⟨t2, a1, b1⟩ := kk r u t T'.heap (locs ++ L) e1.symm (by rw [← e2]; exact X'.warmed.alike) hp hb k1 k2 k3 T' rfl X'
    exact ⟨t2, st t2 a1, b1⟩
  · obtain ⟨k1, k2, k3⟩ := vx_keep h0 e1 hS hAX hf hL hF
    obtain ⟨t2, a1, b1⟩ := kx E ce q u t T'.heap (locs ++ L) e1.symm (by rw [← e2]; exact X'.warmed.alike) hp hb k1 k2 k3 (by rw [e1]; exact hce) hcv hcl T' rfl X'
    exact ⟨t2, st.trans a1, b1⟩
theorem vx_calll {S SX : Type} {post : Int64 → S → Prop} {px : SX → Prop} {B : S → State → Prop} {BX : String → SX → State → Prop} {AX : Nat → Prop} (hr : vx_Run p l e R s m args below meth c H locs cells slots mc ms (F0 m pc ls st0) rest (va_Ql post B A1 a) (vx_X px BX AX) free) (hS : va_S A0 H0 H locs) (hA : ∀ q, q < H.size → A1 q → A0 q) (hf : ∀ q, free q → A0 q) (hAX : ∀ q, q < H.size → AX q → A0 q)
    (kx : ∀ (E : String) (ce : Cell) (q9 : Addr) (u : SX) (t : State) (H1 : Heap) (locs1 : List Loc), t.heap = H1 → s.vm.Alike t.vm → px u → BX E u t → H.size ≤ H1.size → (∀ q : Nat, q < H.size → ¬ AX q → H1[q]? = H[q]?) → va_S A0 H0 H1 locs1 → H1[q9]? = some ce → ce.vm = .none → s.vm.findClass E = some ce.cls → vx_W p l e R s m args below meth c H1 locs1 (cells + mc) (slots + ms) Q (F0 m pc ls rest) q9)
    (kk : ∀ (r : Int64) (u : S) (t : State) (H1 : Heap) (locs1 : List Loc), t.heap = H1 → s.vm.Alike t.vm → post r u → B u t → H.size ≤ H1.size → (∀ q : Nat, q < H.size → ¬ A1 q → H1[q]? = H[q]?) → va_S A0 H0 H1 locs1 → W p l e R s m args below meth c H1 locs1 (cells + mc) (slots + ms) Q (F0 m (pc + 3) ls (.long r :: rest))) : W p l e R s m args below meth c H locs cells slots Q (F0 m pc ls st0) := by
  intro T hT X
  rcases hr T hT X with ⟨v, st₀, t, T', L, h0, X', hL, e1, e2, ⟨⟨r, u, hv, hp, hb⟩, hF⟩, st⟩ | ⟨q, st₀, t, T', L, E, ce, h0, X', hL, e1, e2, ⟨u, hp, hb, hF⟩, hce, hcv, hcl, st⟩
  · cases hv
    obtain ⟨k1, k2, k3⟩ := vx_keep h0 e1 hS hA hf hL hF
    obtain ⟨t2, a1, b1⟩ := kk r u t T'.heap (locs ++ L) e1.symm (by rw [← e2]; exact X'.warmed.alike) hp hb k1 k2 k3 T' rfl X'
    exact ⟨t2, st t2 a1, b1⟩
  · obtain ⟨k1, k2, k3⟩ := vx_keep h0 e1 hS hAX hf hL hF
    obtain ⟨t2, a1, b1⟩ := kx E ce q u t T'.heap (locs ++ L) e1.symm (by rw [← e2]; exact X'.warmed.alike) hp hb k1 k2 k3 (by rw [e1]; exact hce) hcv hcl T' rfl X'
    exact ⟨t2, st.trans a1, b1⟩
theorem vx_callf {S SX : Type} {post : UInt32 → S → Prop} {px : SX → Prop} {B : S → State → Prop} {BX : String → SX → State → Prop} {AX : Nat → Prop} (hr : vx_Run p l e R s m args below meth c H locs cells slots mc ms (F0 m pc ls st0) rest (va_Qf post B A1 a) (vx_X px BX AX) free) (hS : va_S A0 H0 H locs) (hA : ∀ q, q < H.size → A1 q → A0 q) (hf : ∀ q, free q → A0 q) (hAX : ∀ q, q < H.size → AX q → A0 q)
    (kx : ∀ (E : String) (ce : Cell) (q9 : Addr) (u : SX) (t : State) (H1 : Heap) (locs1 : List Loc), t.heap = H1 → s.vm.Alike t.vm → px u → BX E u t → H.size ≤ H1.size → (∀ q : Nat, q < H.size → ¬ AX q → H1[q]? = H[q]?) → va_S A0 H0 H1 locs1 → H1[q9]? = some ce → ce.vm = .none → s.vm.findClass E = some ce.cls → vx_W p l e R s m args below meth c H1 locs1 (cells + mc) (slots + ms) Q (F0 m pc ls rest) q9)
    (kk : ∀ (r : UInt32) (u : S) (t : State) (H1 : Heap) (locs1 : List Loc), t.heap = H1 → s.vm.Alike t.vm → post r u → B u t → H.size ≤ H1.size → (∀ q : Nat, q < H.size → ¬ A1 q → H1[q]? = H[q]?) → va_S A0 H0 H1 locs1 → W p l e R s m args below meth c H1 locs1 (cells + mc) (slots + ms) Q (F0 m (pc + 3) ls (.float r :: rest))) : W p l e R s m args below meth c H locs cells slots Q (F0 m pc ls st0) := by
  intro T hT X
  rcases hr T hT X with ⟨v, st₀, t, T', L, h0, X', hL, e1, e2, ⟨⟨r, u, hv, hp, hb⟩, hF⟩, st⟩ | ⟨q, st₀, t, T', L, E, ce, h0, X', hL, e1, e2, ⟨u, hp, hb, hF⟩, hce, hcv, hcl, st⟩
  · cases hv
    obtain ⟨k1, k2, k3⟩ := vx_keep h0 e1 hS hA hf hL hF
    obtain ⟨t2, a1, b1⟩ := kk r u t T'.heap (locs ++ L) e1.symm (by rw [← e2]; exact X'.warmed.alike) hp hb k1 k2 k3 T' rfl X'
    exact ⟨t2, st t2 a1, b1⟩
  · obtain ⟨k1, k2, k3⟩ := vx_keep h0 e1 hS hAX hf hL hF
    obtain ⟨t2, a1, b1⟩ := kx E ce q u t T'.heap (locs ++ L) e1.symm (by rw [← e2]; exact X'.warmed.alike) hp hb k1 k2 k3 (by rw [e1]; exact hce) hcv hcl T' rfl X'
    exact ⟨t2, st.trans a1, b1⟩
theorem vx_calld {S SX : Type} {post : UInt64 → S → Prop} {px : SX → Prop} {B : S → State → Prop} {BX : String → SX → State → Prop} {AX : Nat → Prop} (hr : vx_Run p l e R s m args below meth c H locs cells slots mc ms (F0 m pc ls st0) rest (va_Qd post B A1 a) (vx_X px BX AX) free) (hS : va_S A0 H0 H locs) (hA : ∀ q, q < H.size → A1 q → A0 q) (hf : ∀ q, free q → A0 q) (hAX : ∀ q, q < H.size → AX q → A0 q)
    (kx : ∀ (E : String) (ce : Cell) (q9 : Addr) (u : SX) (t : State) (H1 : Heap) (locs1 : List Loc), t.heap = H1 → s.vm.Alike t.vm → px u → BX E u t → H.size ≤ H1.size → (∀ q : Nat, q < H.size → ¬ AX q → H1[q]? = H[q]?) → va_S A0 H0 H1 locs1 → H1[q9]? = some ce → ce.vm = .none → s.vm.findClass E = some ce.cls → vx_W p l e R s m args below meth c H1 locs1 (cells + mc) (slots + ms) Q (F0 m pc ls rest) q9)
    (kk : ∀ (r : UInt64) (u : S) (t : State) (H1 : Heap) (locs1 : List Loc), t.heap = H1 → s.vm.Alike t.vm → post r u → B u t → H.size ≤ H1.size → (∀ q : Nat, q < H.size → ¬ A1 q → H1[q]? = H[q]?) → va_S A0 H0 H1 locs1 → W p l e R s m args below meth c H1 locs1 (cells + mc) (slots + ms) Q (F0 m (pc + 3) ls (.double r :: rest))) : W p l e R s m args below meth c H locs cells slots Q (F0 m pc ls st0) := by
  intro T hT X
  rcases hr T hT X with ⟨v, st₀, t, T', L, h0, X', hL, e1, e2, ⟨⟨r, u, hv, hp, hb⟩, hF⟩, st⟩ | ⟨q, st₀, t, T', L, E, ce, h0, X', hL, e1, e2, ⟨u, hp, hb, hF⟩, hce, hcv, hcl, st⟩
  · cases hv
    obtain ⟨k1, k2, k3⟩ := vx_keep h0 e1 hS hA hf hL hF
    obtain ⟨t2, a1, b1⟩ := kk r u t T'.heap (locs ++ L) e1.symm (by rw [← e2]; exact X'.warmed.alike) hp hb k1 k2 k3 T' rfl X'
    exact ⟨t2, st t2 a1, b1⟩
  · obtain ⟨k1, k2, k3⟩ := vx_keep h0 e1 hS hAX hf hL hF
    obtain ⟨t2, a1, b1⟩ := kx E ce q u t T'.heap (locs ++ L) e1.symm (by rw [← e2]; exact X'.warmed.alike) hp hb k1 k2 k3 (by rw [e1]; exact hce) hcv hcl T' rfl X'
    exact ⟨t2, st.trans a1, b1⟩
theorem vx_callv {S SX : Type} {post : S → Prop} {px : SX → Prop} {B : S → State → Prop} {BX : String → SX → State → Prop} {AX : Nat → Prop} (hr : vx_Run p l e R s m args below meth c H locs cells slots mc ms (F0 m pc ls st0) rest (va_Qv post B A1 a) (vx_X px BX AX) free) (hS : va_S A0 H0 H locs) (hA : ∀ q, q < H.size → A1 q → A0 q) (hf : ∀ q, free q → A0 q) (hAX : ∀ q, q < H.size → AX q → A0 q)
    (kx : ∀ (E : String) (ce : Cell) (q9 : Addr) (u : SX) (t : State) (H1 : Heap) (locs1 : List Loc), t.heap = H1 → s.vm.Alike t.vm → px u → BX E u t → H.size ≤ H1.size → (∀ q : Nat, q < H.size → ¬ AX q → H1[q]? = H[q]?) → va_S A0 H0 H1 locs1 → H1[q9]? = some ce → ce.vm = .none → s.vm.findClass E = some ce.cls → vx_W p l e R s m args below meth c H1 locs1 (cells + mc) (slots + ms) Q (F0 m pc ls rest) q9)
    (kk : ∀ (u : S) (t : State) (H1 : Heap) (locs1 : List Loc), t.heap = H1 → s.vm.Alike t.vm → post u → B u t → H.size ≤ H1.size → (∀ q : Nat, q < H.size → ¬ A1 q → H1[q]? = H[q]?) → va_S A0 H0 H1 locs1 → W p l e R s m args below meth c H1 locs1 (cells + mc) (slots + ms) Q (F0 m (pc + 3) ls (rest))) : W p l e R s m args below meth c H locs cells slots Q (F0 m pc ls st0) := by
  intro T hT X
  rcases hr T hT X with ⟨v, st₀, t, T', L, h0, X', hL, e1, e2, ⟨⟨u, hv, hp, hb⟩, hF⟩, st⟩ | ⟨q, st₀, t, T', L, E, ce, h0, X', hL, e1, e2, ⟨u, hp, hb, hF⟩, hce, hcv, hcl, st⟩
  · cases hv
    obtain ⟨k1, k2, k3⟩ := vx_keep h0 e1 hS hA hf hL hF
    obtain ⟨t2, a1, b1⟩ := kk u t T'.heap (locs ++ L) e1.symm (by rw [← e2]; exact X'.warmed.alike) hp hb k1 k2 k3 T' rfl X'
    exact ⟨t2, st t2 a1, b1⟩
  · obtain ⟨k1, k2, k3⟩ := vx_keep h0 e1 hS hAX hf hL hF
    obtain ⟨t2, a1, b1⟩ := kx E ce q u t T'.heap (locs ++ L) e1.symm (by rw [← e2]; exact X'.warmed.alike) hp hb k1 k2 k3 (by rw [e1]; exact hce) hcv hcl T' rfl X'
    exact ⟨t2, st.trans a1, b1⟩
/-- caught by the row x of this method's table; the rows ahead don't take it -/
theorem vx_catch {own name : String} {E : String} {ce : Cell} {q : Addr} (hown : s.vm.findClass own = some m.cls) (pre : List ExceptionTableEntry) (x : ExceptionTableEntry) (suf : List ExceptionTableEntry) (hsplit : c.exceptionTable.toList = pre ++ x :: suf)
    (hpass : ∀ z ∈ pre, covers z pc = false ∨ (z.catchType ≠ 0 ∧ ∃ nm : String, (Cond.classLink own z.catchType nm).before args s = true ∧ va_Nc E nm s)) (hx : covers x pc = true) (h0 : x.catchType ≠ 0)
    (hlink : (Cond.classLink own x.catchType name).before args s = true) (hcast : (Cond.castable E name).before args s = true) (hcell : H[q]? = some ce) (hv : ce.vm = .none) (hcl : s.vm.findClass E = some ce.cls)
    (kk : W p l e R s m args below meth c H locs cells slots Q (F0 m x.handlerPc ls [.ref q])) : vx_W p l e R s m args below meth c H locs cells slots Q (F0 m pc ls rest) q := by
  intro T hT X
  have hpl : e.platform.magicAccessors = ({} : Platform).magicAccessors := by rw [X.admits.platform]
  obtain ⟨c3, c4, hc3, hc4, hasg⟩ := Cond.castable_spec hcast
  cases Option.some.inj (hc3.symm.trans hcl)
  obtain ⟨c5, hc5, hcl5⟩ := Cond.classLink_spec hown hlink e.platform hpl
  cases Option.some.inj (hc4.symm.trans hc5)
  obtain ⟨vm', X', st⟩ := X.thenCaughtThrough q (g := F0 m pc ls rest) rfl (Steps.refl _) (by rw [hT]; exact hcell) (by rw [hv]; rfl) (by obtain ⟨k9, h9, -⟩ := Vm.findClass_spec hcl; exact ⟨k9, h9⟩) pre x suf hsplit
    (fun z hz => by
      rcases hpass z hz with h | ⟨hz0, nm, hl1, hn1⟩
      · exact Or.inl h
      · obtain ⟨c6, hc6, hcl6⟩ := Cond.classLink_spec hown hl1 e.platform hpl
        obtain ⟨a8, b8, h1, h2, h3⟩ := hn1
        cases Option.some.inj (h1.symm.trans hcl)
        cases Option.some.inj (h2.symm.trans hc6)
        exact Or.inr ⟨hz0, _, hcl6, h3⟩) hx (Or.inr ⟨h0, c4, hcl5, hasg⟩)
  obtain ⟨t, a1, b1⟩ := kk (T.setVm vm') hT X'
  exact ⟨t, st.trans a1, b1⟩
end Rows
section Ends
variable {p : Program} {l : Launch} {e : Env} {R : Room} {s : State} {m : MethodId} {args : Array Value} {below : List Frame} {meth : Method} {c : Code} {H : Heap} {locs : List Loc} {cells slots : Nat} {Q : State → Prop}
variable {mc ms : Nat} {free : Addr → Prop} {A0 A1 : Nat → Prop} {H0 : Heap} {a : Array Value} {ls : Array Slot} {st0 rest : List Value}
variable {Qc : Array Value → State → Outcome → State → Prop} {XC : String → State → State → Prop}
/-- what a body that may throw owes at its end -/
def vx_MQ (below : List Frame) (Qc : Array Value → State → Outcome → State → Prop) (XC : String → State → State → Prop) (a : Array Value) (s : State) (mc ms : Nat) (free : Addr → Prop) : State → Prop := fun t =>
  ∃ o, t.status = .running ∧ Ended t below o ∧ vx_Q Qc XC mc ms free a s o t
theorem vx_ret {g : JFrame} {mc ms : Nat} (k : W p l e R s m args below meth c H locs cells slots (MQ below Qc args s mc ms free) g) : W p l e R s m args below meth c H locs cells slots (vx_MQ below Qc XC args s mc ms free) g := by
  intro T hT X
  obtain ⟨t, a1, o, b1, b2, b3, b4⟩ := k T hT X
  exact ⟨t, a1, o, b1, b2, Or.inl ⟨b3, b4⟩⟩
/-- not caught here: it goes on to the caller -/
theorem vx_widen {g : JFrame} {q : Addr} {k n : Nat} (h1 : cells ≤ k) (h2 : slots ≤ n) (kk : vx_W p l e R s m args below meth c H locs k n Q g q) : vx_W p l e R s m args below meth c H locs cells slots Q g q := fun T hT X => kk T hT (stand_widen X h1 h2)
theorem vx_out {pc : Nat} {E : String} {ce : Cell} {q : Addr} {mc ms : Nat} (hout : ∀ x ∈ c.exceptionTable.toList, covers x pc = false) (hlocks : meth.locks = false) (hcell : H[q]? = some ce) (hv : ce.vm = .none) (hcl : s.vm.findClass E = some ce.cls)
    (hx : ∀ t : State, t.heap = H → s.vm.Alike t.vm → XC E s t) (hf : ∀ z ∈ locs, free z.base) (hc : cells ≤ mc) (hs : slots ≤ ms) :
    vx_W p l e R s m args below meth c H locs cells slots (vx_MQ below Qc XC args s mc ms free) (F0 m pc ls rest) q := by
  intro T hT X
  obtain ⟨st1, hrun, hend, hW, hsm⟩ := X.leaveThrown q (g := F0 m pc ls rest) rfl rfl rfl hout hlocks
  have hcell9 : (T.setFrames (.throwing q :: below)).heap[q]? = some ce := by
    show T.heap[q]? = some ce
    rw [hT]; exact hcell
  exact ⟨_, st1, .threw q, hrun, hend, Or.inr ⟨q, rfl, E, ce, locs, hx _ hT hW.alike, hcell9, hv, hcl, hW, hsm.mono hc hs, hf⟩⟩
theorem vx_frame {U : State} {k n : Nat} (h : s.sameButNew ({ U with vm := s.vm } : State) locs k n) : s.heap.size ≤ U.heap.size ∧ ∀ q : Nat, q < s.heap.size → (∀ z ∈ locs, z.base ≠ q) → U.heap[q]? = s.heap[q]? := by
  obtain ⟨-, h2, -, -, -, h6⟩ := h
  refine ⟨h2, fun q hq hz => ?_⟩
  obtain ⟨c9, e1, e2, e3, e4⟩ := h6 q _ (Array.getElem?_eq_getElem hq)
  have hs : c9.slots = (s.heap[q]).slots := Array.ext_getElem? fun i => e4 i fun hm => hz _ hm rfl
  have h9 : c9 = s.heap[q] := by
    rw [hs] at e2
    exact e2
  have e5 : U.heap[q]? = some c9 := e1
  rw [e5, h9, Array.getElem?_eq_getElem hq]
/-- the words of a throw but the four that speak of the heap -/
def vx_no (w : Cond) : Bool := decide (w ≠ .isRef (.static Bundle.tN "UNASSIGNED_STACK" Bundle.steD)) && decide (w ≠ .isRef (.static Bundle.tN "SUPPRESSED_SENTINEL" Bundle.listD)) && decide (w ≠ .laysStatic Bundle.tN "UNASSIGNED_STACK" Bundle.steD) && decide (w ≠ .laysStatic Bundle.tN "SUPPRESSED_SENTINEL" Bundle.listD)
def vx_at0 (own : String) (ic : Nat) (X : String) (names : List String) : List Cond := (Bundle.ownAtoms0 own ic X names).filter vx_no
def vx_atS (own : String) (ic : Nat) (X : String) (names : List String) : List Cond := (Bundle.ownAtoms own ic X names).filter vx_no
/-- a word that the tables alone decide, or a good one -/
def vx_ot (w : Cond) : Bool := w.onTables || goodWord w
theorem vx_ot_at {args a' : Array Value} {s U : State} {w : Cond} (hW : s.WarmedH U.vm) (hvm : s.vm = U.vm) (hg : vx_ot w = true) (h : w.before args s = true) : w.before a' U = true := by
  simp only [vx_ot, Bool.or_eq_true] at hg
  rcases hg with hg | hg
  · exact va_tabs hg hvm h
  · exact word_at hW (good_of_word hg) h
/-- a list's words: the good ones out of the method's own list, the others by premises of their own -/
theorem vx_hat {args : Array Value} {s : State} {L B : List Cond} (h1 : ∀ w ∈ L.filter goodWord, w.before args s = true) (h2 : ∀ w ∈ L.filter (fun w => !goodWord w), w ∈ B) (h3 : ∀ w ∈ B, w.before args s = true) : ∀ w ∈ L, w.before args s = true := by
  intro w hw
  by_cases g : goodWord w = true
  · exact h1 w (List.mem_filter.mpr ⟨hw, g⟩)
  · refine h3 w (h2 w (List.mem_filter.mpr ⟨hw, ?_⟩))
    show (!goodWord w) = true
    cases hgw : goodWord w
    · rfl
    · exact absurd hgw g
theorem vx_c {args : Array Value} {s : State} {w : Cond} {B : List Cond} (h : w.before args s = true) (t : ∀ w ∈ B, w.before args s = true) : ∀ w' ∈ w :: B, w'.before args s = true := fun w' h' => (List.mem_cons.mp h').elim (fun e => by rw [e]; exact h) (t w')
theorem vx_n {args : Array Value} {s : State} : ∀ w ∈ ([] : List Cond), w.before args s = true := fun _ h => nomatch h
theorem vx_own {args : Array Value} {s : State} {L : List Cond} (h1 : ∀ w ∈ L.filter vx_no, w.before args s = true)
    (hU : (Cond.isRef (.static Bundle.tN "UNASSIGNED_STACK" Bundle.steD)).before args s = true) (hN : (Cond.isRef (.static Bundle.tN "SUPPRESSED_SENTINEL" Bundle.listD)).before args s = true)
    (lU : (Cond.laysStatic Bundle.tN "UNASSIGNED_STACK" Bundle.steD).before args s = true) (lN : (Cond.laysStatic Bundle.tN "SUPPRESSED_SENTINEL" Bundle.listD).before args s = true) : ∀ w ∈ L, w.before args s = true := by
  intro w hw
  by_cases e1 : w = .isRef (.static Bundle.tN "UNASSIGNED_STACK" Bundle.steD)
  · rw [e1]; exact hU
  · by_cases e2 : w = .isRef (.static Bundle.tN "SUPPRESSED_SENTINEL" Bundle.listD)
    · rw [e2]; exact hN
    · by_cases e3 : w = .laysStatic Bundle.tN "UNASSIGNED_STACK" Bundle.steD
      · rw [e3]; exact lU
      · by_cases e4 : w = .laysStatic Bundle.tN "SUPPRESSED_SENTINEL" Bundle.listD
        · rw [e4]; exact lN
        · exact h1 w (List.mem_filter.mpr ⟨hw, by unfold vx_no; rw [decide_eq_true e1, decide_eq_true e2, decide_eq_true e3, decide_eq_true e4]; rfl⟩)
/-- where a static field lies, its class's statics cell in H -/
def vx_L (C n d : String) (A : Nat → Prop) (U : State) (H : Heap) : Prop := ∃ (c : ClassId) (k : Class) (i : Nat) (f : Field) (a : Nat) (cell : Cell), U.vm.findClass C = some c ∧ U.fieldFound? C n d = some (c, k, i, f) ∧ f.isStatic = true ∧ k.statics = some a ∧ H[a]? = some cell ∧ cell.vm.isStatics = true ∧ cell.cls = c ∧ f.slot < cell.slots.size ∧ k.staticTypes[f.slot]? = some f.type ∧ ¬ A a
theorem vx_L.moved {C n d : String} {A : Nat → Prop} {u U : State} {H : Heap} (hvm : u.vm.Alike U.vm) (h : vx_L C n d A u H) : vx_L C n d A U H := by
  obtain ⟨c, k, i, f, a, cell, h1, h2, h3, h4, h5, h6, h7, h8, h9, h10⟩ := h
  obtain ⟨k', hi', he⟩ := State.fieldFound?_setVm hvm h2
  exact ⟨c, k', i, f, a, cell, by rw [hvm.findClass]; exact h1, hi', h3, by rw [he]; exact h4, h5, h6, h7, h8, by rw [he]; exact h9, h10⟩
theorem vx_L.kept {C n d : String} {A : Nat → Prop} {U : State} {H H1 : Heap} (h : vx_L C n d A U H) (hq : ∀ a : Nat, a < H.size → ¬ A a → H1[a]? = H[a]?) : vx_L C n d A U H1 := by
  obtain ⟨c, k, i, f, a, cell, h1, h2, h3, h4, h5, h6, h7, h8, h9, h10⟩ := h
  exact ⟨c, k, i, f, a, cell, h1, h2, h3, h4, by rw [hq a (Array.getElem?_eq_some_iff.mp h5).1 h10]; exact h5, h6, h7, h8, h9, h10⟩
theorem vx_L.narrow {C n d : String} {A B : Nat → Prop} {U : State} {H : Heap} (h : vx_L C n d A U H) (hAB : ∀ q, B q → A q) : vx_L C n d B U H := by
  obtain ⟨c, k, i, f, a, cell, h1, h2, h3, h4, h5, h6, h7, h8, h9, h10⟩ := h
  exact ⟨c, k, i, f, a, cell, h1, h2, h3, h4, h5, h6, h7, h8, h9, fun z => h10 (hAB _ z)⟩
theorem vx_L.word {C n d : String} {A : Nat → Prop} {s : State} {args : Array Value} (h : vx_L C n d A s s.heap) : (Cond.laysStatic C n d).before args s = true := by
  obtain ⟨c, k, i, f, a, cell, h1, h2, h3, h4, h5, h6, h7, h8, h9, -⟩ := h
  show (Cond.laysStatic C n d).holds args s none s [] = true
  exact Cond.laysStatic_of h1 h2 h3 h4 h5 h6 h7 h8 h9
/-- .. and what it holds: null or some reference -/
def vx_Zq (C n d : String) (A : Nat → Prop) (U : State) (H : Heap) : Prop := va_Zq C n d A U H ∧ vx_L C n d A U H
theorem vx_Zq.moved {C n d : String} {A : Nat → Prop} {u U : State} {H : Heap} (hvm : u.vm.Alike U.vm) (h : vx_Zq C n d A u H) : vx_Zq C n d A U H := ⟨va_Zq.moved hvm h.1, vx_L.moved hvm h.2⟩
theorem vx_Zq.kept {C n d : String} {A : Nat → Prop} {U : State} {H H1 : Heap} (h : vx_Zq C n d A U H) (hq : ∀ a : Nat, a < H.size → ¬ A a → H1[a]? = H[a]?) : vx_Zq C n d A U H1 := ⟨va_Zq.kept h.1 hq, vx_L.kept h.2 hq⟩
theorem vx_Zq.narrow {C n d : String} {A B : Nat → Prop} {U : State} {H : Heap} (h : vx_Zq C n d A U H) (hAB : ∀ q, B q → A q) : vx_Zq C n d B U H := ⟨va_Zq.narrow h.1 hAB, vx_L.narrow h.2 hAB⟩
theorem vx_Zqof {args : Array Value} {s : State} {C n d : String} {A : Nat → Prop} (hl : (Cond.laysStatic C n d).before args s = true) (hini : (Cond.initialized C).before args s = true) (h : (Cond.isRef (.static C n d)).before args s = true) (hA : ∀ a : Nat, a < s.heap.size → ¬ A a) : vx_Zq C n d A s s.heap := by
  refine ⟨va_Zqof hl hini h hA, ?_⟩
  obtain ⟨c, k, i, f, a, cell, h1, h2, h3, h4, h5, h6, h7, h8, h9⟩ := Cond.laysStatic_spec hl
  exact ⟨c, k, i, f, a, cell, h1, h2, h3, h4, h5, h6, h7, h8, h9, hA a (Array.getElem?_eq_some_iff.mp h5).1⟩
theorem vx_isRef {C n d : String} {v : Value} {A : Nat → Prop} {s : State} {args : Array Value} (h : va_Z C n d v A s s.heap) (hv : v.isRef = true) : (Cond.isRef (.static C n d)).before args s = true := by
  obtain ⟨cf, kf, fi, f, a, cell, h1, h2, h3, h4, h5, h6, h7, -⟩ := h
  have he : (Term.static C n d).eval args s none [] s = some v := by
    simp [Term.eval, State.fieldNamed?, h1, h2, h4, h5, h6, h7]
  simp only [Cond.before, Cond.holds, Cond.value, he]
  cases v <;> simp_all [Value.isRef]
theorem vx_isRefq {C n d : String} {A : Nat → Prop} {s : State} {args : Array Value} (h : va_Zq C n d A s s.heap) : (Cond.isRef (.static C n d)).before args s = true := by
  rcases h with h | ⟨t, h⟩
  · exact vx_isRef h rfl
  · exact vx_isRef h rfl
/-- the same frame, seen from here: as if the method were called anew in this heap -/
theorem vx_rebase {T : State} (X : Stand p l e R s m args below meth c T locs cells slots) {R' : Room} (hf : R'.frames ≤ R.frames) (hl : R'.locals ≤ R.locals) (hc : cells + R'.cells ≤ R.cells) (hs : slots + R'.slots ≤ R.slots) :
    Stand p l e R' ((T.setVm s.vm).setFrames (.invoking m args :: below)) m args below meth c T [] 0 0 := by
  have htop : (T.setVm s.vm).topJava?.isSome := X.here.top
  have hF : ((T.setVm s.vm).setFrames (.invoking m args :: below)).frames = .invoking m args :: below := State.frames_setFrames _ (State.cur_lt_of_top htop)
  obtain ⟨g₀, hg0⟩ := Option.isSome_iff_exists.mp htop
  obtain ⟨r, hr⟩ := State.topJava?_eq_some.mp hg0
  have hl9 : e.platform.stackLimits (T.setVm s.vm).me = e.platform.stackLimits s.me := X.limits
  have hb9 : (T.setVm s.vm).me.stackBytes = s.me.stackBytes := X.bytes
  refine ⟨X.admits, X.cas, X.clock, hF, ?_, X.hears, X.method, X.code, X.here, X.tail, X.warmed, ?_, ?_, ?_⟩
  · have h := X.room
    have hU : ((T.setVm s.vm).setFrames (.invoking m args :: below)).localsInUse = s.localsInUse := by
      rw [State.localsInUse_invoking hF (meth := meth) (c := c) X.method X.code, State.localsInUse_invoking X.frames X.method X.code]
    simp only [State.hasRoom, Bool.and_eq_true, decide_eq_true_eq] at h ⊢
    obtain ⟨⟨⟨⟨h1, h2, h3, h4, h5, h6⟩, h7⟩, h8⟩, h9⟩ := h
    rw [X.frames, List.length_cons] at h2 h3
    have q1 := X.heapSize
    have q2 := X.used
    simp only [hF, hU, List.length_cons, State.stackLimits_setFrames, State.stackBytes_setFrames, hl9, hb9]
    refine ⟨⟨⟨⟨by omega, by omega, by omega, by omega, by omega, h6⟩, ?_⟩, ?_⟩, X.book⟩
    · show T.heap.size + R'.cells ≤ e.platform.maxCells
      omega
    · show T.slotsUsed + R'.slots ≤ e.platform.maxSlots
      omega
  · rw [State.stackLimits_setFrames]; rfl
  · rw [State.stackBytes_setFrames]; rfl
  · refine ⟨?_, Nat.le_refl _, Nat.le_refl _, ?_, ?_, fun a c9 h9 => ⟨c9, h9, rfl, rfl, fun _ _ => rfl⟩⟩
    · obtain ⟨t, ht, -⟩ := State.frames_cons hr
      show T.setVm s.vm = { ((T.setVm s.vm).setFrames (.invoking m args :: below)).setFrames (T.setVm s.vm).frames with heap := T.heap, slotsUsed := T.slotsUsed }
      rw [State.setFrames_setFrames, State.setFrames_self ht]
      rfl
    · show T.slotsUsed = T.slotsUsed + ((T.heap.toList.drop T.heap.size).map (·.slots.size)).sum
      rw [List.drop_eq_nil_of_le (Nat.le_of_eq Array.length_toList)]
      rfl
    · show ((T.heap.toList.drop T.heap.size).map (·.slots.size)).sum ≤ 0
      rw [List.drop_eq_nil_of_le (Nat.le_of_eq Array.length_toList)]
      exact Nat.le_refl _
/-- 'throw new E()': new; dup; invokespecial; athrow -/
theorem vx_throw0 {cc : ByteArray} {pc : Nat} (hexec : p.tables.exec = Jvm.exec) (hb : c.code = cc) (hl : l.stackTraces = false) {own cls : String} {names : List String} {ik ic mc ms : Nat} {A : Nat → Prop}
    (hown : s.vm.findClass own = some m.cls) (hcls : Bundle.fit cls = true) (hnames : ∀ n ∈ names, Bundle.fit n = true)
    (hk : (Cond.classLink own ik cls).before args s = true) (hini : (Cond.initialized cls).before args s = true) (hat : ∀ w ∈ vx_at0 own ic cls names, w.before args s = true)
    (hgood : ∀ w ∈ Cond.classLink own ik cls :: Cond.initialized cls :: vx_at0 own ic cls names, vx_ot w = true)
    (hU : vx_Zq Bundle.tN "UNASSIGNED_STACK" Bundle.steD A s s.heap) (hN : vx_Zq Bundle.tN "SUPPRESSED_SENTINEL" Bundle.listD A s s.heap) (hS : va_S A s.heap H locs) (hsize : ls.size = c.maxLocals)
    (d0 : decode cc pc = .ok (.new ik, 3)) (d3 : decode cc (pc + 3) = .ok (.dup, 1)) (d4 : decode cc (pc + 4) = .ok (.invokespecial ic, 3)) (d7 : decode cc (pc + 7) = .ok (.athrow, 1))
    (hout : ∀ x ∈ c.exceptionTable.toList, covers x (pc + 7) = false)
    (hRframes : names.length + 3 < R.frames) (hRlocals : (rest.map fun v => v.category).sum + (13 * (names.length + 1) + 42) ≤ R.locals) (hRcells : cells + 1 ≤ R.cells) (hRslots : slots + 6 ≤ R.slots) (hlocks : meth.locks = false)
    (hx : ∀ t : State, s.vm.Alike t.vm → H.size ≤ t.heap.size → (∀ q : Nat, q < H.size → t.heap[q]? = H[q]?) → XC cls s t)
    (hf : ∀ z ∈ locs, free z.base) (hc : cells + 1 ≤ mc) (hs : slots + 6 ≤ ms) :
    W p l e R s m args below meth c H locs cells slots (vx_MQ below Qc XC args s mc ms free) (F0 m pc ls rest) := by
  intro T hT X
  have htr : e.platform.stackTraces = false := (show e.platform.stackTraces = l.stackTraces by rw [X.admits.platform]).trans hl
  have Y := vx_rebase X (R' := { frames := R.frames, locals := R.locals, cells := 1, slots := 6 }) (Nat.le_refl _) (Nat.le_refl _) hRcells hRslots
  obtain ⟨s', hA⟩ : ∃ z, z = (T.setVm s.vm).setFrames (.invoking m args :: below) := ⟨_, rfl⟩
  rw [← hA] at Y
  have hvm : s'.vm = s.vm := by rw [hA]; rfl
  have hhp : s'.heap = H := by rw [hA]; exact hT
  have hW0 : s.WarmedH s'.vm := by rw [hvm]; exact State.WarmedH.refl s
  have hat' : ∀ w ∈ vx_at0 own ic cls names, w.before args s' = true := fun w hw => vx_ot_at hW0 hvm.symm (hgood w (List.mem_cons_of_mem _ (List.mem_cons_of_mem _ hw))) (hat w hw)
  have hk' : (Cond.classLink own ik cls).before args s' = true := vx_ot_at hW0 hvm.symm (hgood _ List.mem_cons_self) hk
  have hini' : (Cond.initialized cls).before args s' = true := vx_ot_at hW0 hvm.symm (hgood _ (List.mem_cons_of_mem _ List.mem_cons_self)) hini
  have hU' : vx_Zq Bundle.tN "UNASSIGNED_STACK" Bundle.steD A s' s'.heap := by rw [hhp]; exact vx_Zq.moved hW0.alike (hU.kept hS.2.1)
  have hN' : vx_Zq Bundle.tN "SUPPRESSED_SENTINEL" Bundle.listD A s' s'.heap := by rw [hhp]; exact vx_Zq.moved hW0.alike (hN.kept hS.2.1)
  have h : ∀ w ∈ Bundle.ownAtoms0 own ic cls names, w.before args s' = true := vx_own hat' (vx_isRefq hU'.1) (vx_isRefq hN'.1) hU'.2.word hN'.2.word
  have hown' : s'.vm.findClass own = some m.cls := by rw [hvm]; exact hown
  have hins : (Cond.instantiable cls 6).before args s' = true := h _ (by simp [Bundle.ownAtoms0])
  obtain ⟨vm₁, cX, kX, hfX, hkX, -, -, X₁, st1⟩ := Y.newCold hexec (own := own) (C := cls) (index := ik) (n := 6) hown' hk' hins hini'
    (g := F0 m pc ls rest) rfl (by rw [hb]; exact d0) (Nat.le_refl _) (Nat.le_refl _)
  generalize hT1 : (T.setVm vm₁).pushCell { cls := cX, slots := kX.instanceTypes.map defaultValue, vm := .none } = T1 at X₁ st1
  have hcat : (Value.ref T.heap.size).category = 1 := rfl
  have hcellA : T1.heap[T.heap.size]? = some (freshCell cX kX) := by rw [← hT1]; exact State.heap_pushCell_size _ _
  have d3' : decode c.code (pc + 3) = .ok (.dup, 1) := by rw [hb]; exact d3
  obtain ⟨U, hsteps, hrun, hend, hW, hsame, ce, hce, hO⟩ := X₁.ctorThrow0 hexec htr (own := own) (cls := cls) (names := names) (ic := ic) hown' hcls hnames h (fun x hx => nomatch hx) hfX hkX hcellA (by rw [hhp, hT]; exact Nat.le_refl _)
    (g := { method := m, pc := pc + 4, locals := ls, stack := .ref T.heap.size :: .ref T.heap.size :: rest, locked := none }) rfl hsize rfl rfl (rest := rest) rfl
    (by rw [hb]; exact d4) (by rw [hb]; exact d7) hout hRframes (by simp only [List.map_cons, List.sum_cons, hcat]; omega) hlocks
  obtain ⟨f1, f2⟩ := vx_frame hsame
  rw [hhp] at f1 f2
  have hWs : s.WarmedH U.vm := State.WarmedH.trans hW0 hW
  have hcl : s.vm.findClass cls = some ce.cls := by
    have h9 := hO.cls
    rw [hvm] at h9
    exact h9
  have hall : s.sameButNew ({ U with vm := s.vm } : State) locs mc ms := by
    subst hA
    obtain ⟨e1, e2⟩ := hsame
    rw [State.setFrames_setFrames] at e1
    have h2 : (T.setVm s.vm).sameButNew ({ U with vm := s.vm } : State) [] (0 + 1) (0 + 6) := ⟨e1, e2⟩
    have h3 := X.same.trans h2
    rw [List.append_nil] at h3
    exact h3.mono hc hs
  refine ⟨U, ?_, .threw T.heap.size, hrun, hend, Or.inr ⟨T.heap.size, rfl, cls, ce, locs, hx U hWs.alike f1 (fun q hq => f2 q hq (fun z hz => nomatch hz)), hce, hO.vm, hcl, hWs, hall, hf⟩⟩
  refine st1 _ ?_
  show Steps p.tables e below (T1.setTop { method := m, pc := pc + 3, locals := ls, stack := .ref T.heap.size :: rest, locked := none }) _
  jvm_step X₁.here [X₁.here.top, hexec, d3', Value.category]
  exact hsteps
/-- 'throw new E("text")': new; dup; ldc; invokespecial; athrow -/
theorem vx_throwS {cc : ByteArray} {pc : Nat} (hexec : p.tables.exec = Jvm.exec) (hb : c.code = cc) (hl : l.stackTraces = false) {own cls text : String} {names : List String} {ik is ic mc ms sa : Nat} {A : Nat → Prop}
    (hown : s.vm.findClass own = some m.cls) (hcls : Bundle.fit cls = true) (hnames : ∀ n ∈ names, Bundle.fit n = true)
    (hk : (Cond.classLink own ik cls).before args s = true) (hini : (Cond.initialized cls).before args s = true) (hstr : vk_R own is text sa s) (hat : ∀ w ∈ vx_atS own ic cls names, w.before args s = true)
    (hgood : ∀ w ∈ Cond.classLink own ik cls :: Cond.initialized cls :: vx_atS own ic cls names, vx_ot w = true)
    (hU : vx_Zq Bundle.tN "UNASSIGNED_STACK" Bundle.steD A s s.heap) (hN : vx_Zq Bundle.tN "SUPPRESSED_SENTINEL" Bundle.listD A s s.heap) (hS : va_S A s.heap H locs) (hsize : ls.size = c.maxLocals)
    (d0 : decode cc pc = .ok (.new ik, 3)) (d3 : decode cc (pc + 3) = .ok (.dup, 1)) (d4 : decode cc (pc + 4) = .ok (.ldc is, 2)) (d6 : decode cc (pc + 6) = .ok (.invokespecial ic, 3)) (d9 : decode cc (pc + 9) = .ok (.athrow, 1))
    (hout : ∀ x ∈ c.exceptionTable.toList, covers x (pc + 9) = false)
    (hRframes : names.length + 3 < R.frames) (hRlocals : (rest.map fun v => v.category).sum + (13 * (names.length + 1) + 43) ≤ R.locals) (hRcells : cells + 1 ≤ R.cells) (hRslots : slots + 6 ≤ R.slots) (hlocks : meth.locks = false)
    (hx : ∀ t : State, s.vm.Alike t.vm → H.size ≤ t.heap.size → (∀ q : Nat, q < H.size → t.heap[q]? = H[q]?) → XC cls s t)
    (hf : ∀ z ∈ locs, free z.base) (hc : cells + 1 ≤ mc) (hs : slots + 6 ≤ ms) :
    W p l e R s m args below meth c H locs cells slots (vx_MQ below Qc XC args s mc ms free) (F0 m pc ls rest) := by
  intro T hT X
  have htr : e.platform.stackTraces = false := (show e.platform.stackTraces = l.stackTraces by rw [X.admits.platform]).trans hl
  have Y := vx_rebase X (R' := { frames := R.frames, locals := R.locals, cells := 1, slots := 6 }) (Nat.le_refl _) (Nat.le_refl _) hRcells hRslots
  obtain ⟨s', hA⟩ : ∃ z, z = (T.setVm s.vm).setFrames (.invoking m args :: below) := ⟨_, rfl⟩
  rw [← hA] at Y
  have hvm : s'.vm = s.vm := by rw [hA]; rfl
  have hhp : s'.heap = H := by rw [hA]; exact hT
  have hW0 : s.WarmedH s'.vm := by rw [hvm]; exact State.WarmedH.refl s
  have hat' : ∀ w ∈ vx_atS own ic cls names, w.before args s' = true := fun w hw => vx_ot_at hW0 hvm.symm (hgood w (List.mem_cons_of_mem _ (List.mem_cons_of_mem _ hw))) (hat w hw)
  have hk' : (Cond.classLink own ik cls).before args s' = true := vx_ot_at hW0 hvm.symm (hgood _ List.mem_cons_self) hk
  have hini' : (Cond.initialized cls).before args s' = true := vx_ot_at hW0 hvm.symm (hgood _ (List.mem_cons_of_mem _ List.mem_cons_self)) hini
  have hU' : vx_Zq Bundle.tN "UNASSIGNED_STACK" Bundle.steD A s' s'.heap := by rw [hhp]; exact vx_Zq.moved hW0.alike (hU.kept hS.2.1)
  have hN' : vx_Zq Bundle.tN "SUPPRESSED_SENTINEL" Bundle.listD A s' s'.heap := by rw [hhp]; exact vx_Zq.moved hW0.alike (hN.kept hS.2.1)
  have h : ∀ w ∈ Bundle.ownAtoms own ic cls names, w.before args s' = true := vx_own hat' (vx_isRefq hU'.1) (vx_isRefq hN'.1) hU'.2.word hN'.2.word
  have hown' : s'.vm.findClass own = some m.cls := by rw [hvm]; exact hown
  have hins : (Cond.instantiable cls 6).before args s' = true := h _ (by simp [Bundle.ownAtoms])
  obtain ⟨vm₁, cX, kX, hfX, hkX, -, -, X₁, st1⟩ := Y.newCold hexec (own := own) (C := cls) (index := ik) (n := 6) hown' hk' hins hini'
    (g := F0 m pc ls rest) rfl (by rw [hb]; exact d0) (Nat.le_refl _) (Nat.le_refl _)
  generalize hT1 : (T.setVm vm₁).pushCell { cls := cX, slots := kX.instanceTypes.map defaultValue, vm := .none } = T1 at X₁ st1
  have hcat : (Value.ref T.heap.size).category = 1 := rfl
  have hcellA : T1.heap[T.heap.size]? = some (freshCell cX kX) := by rw [← hT1]; exact State.heap_pushCell_size _ _
  have d3' : decode c.code (pc + 3) = .ok (.dup, 1) := by rw [hb]; exact d3
  have d4' : decode c.code (pc + 4) = .ok (.ldc is, 2) := by rw [hb]; exact d4
  have hstr' : vk_R own is text sa s' := vk_R.warm hW0 hstr
  obtain ⟨U, hsteps, hrun, hend, hW, hsame, ce, hce, hO⟩ := X₁.ctorThrowS hexec htr (own := own) (cls := cls) (names := names) (ic := ic) hown' hcls hnames h (fun x hx => nomatch hx) hfX hkX hcellA (by rw [hhp, hT]; exact Nat.le_refl _) (msg := .ref sa) rfl
    (g := { method := m, pc := pc + 6, locals := ls, stack := .ref sa :: .ref T.heap.size :: .ref T.heap.size :: rest, locked := none }) rfl hsize rfl rfl (rest := rest) rfl
    (by rw [hb]; exact d6) (by rw [hb]; exact d9) hout hRframes (by simp only [List.map_cons, List.sum_cons, hcat]; omega) hlocks
  obtain ⟨f1, f2⟩ := vx_frame hsame
  rw [hhp] at f1 f2
  have hWs : s.WarmedH U.vm := State.WarmedH.trans hW0 hW
  have hcl : s.vm.findClass cls = some ce.cls := by
    have h9 := hO.cls
    rw [hvm] at h9
    exact h9
  have hall : s.sameButNew ({ U with vm := s.vm } : State) locs mc ms := by
    subst hA
    obtain ⟨e1, e2⟩ := hsame
    rw [State.setFrames_setFrames] at e1
    have h2 : (T.setVm s.vm).sameButNew ({ U with vm := s.vm } : State) [] (0 + 1) (0 + 6) := ⟨e1, e2⟩
    have h3 := X.same.trans h2
    rw [List.append_nil] at h3
    exact h3.mono hc hs
  refine ⟨U, ?_, .threw T.heap.size, hrun, hend, Or.inr ⟨T.heap.size, rfl, cls, ce, locs, hx U hWs.alike f1 (fun q hq => f2 q hq (fun z hz => nomatch hz)), hce, hO.vm, hcl, hWs, hall, hf⟩⟩
  refine st1 _ ?_
  show Steps p.tables e below (T1.setTop { method := m, pc := pc + 3, locals := ls, stack := .ref T.heap.size :: rest, locked := none }) _
  jvm_step X₁.here [X₁.here.top, hexec, d3', Value.category]
  exact X₁.ldcString hexec (own := own) (text := text) (index := is) (a := sa) hown' hstr'.1 hstr'.2
    (g := { method := m, pc := pc + 4, locals := ls, stack := .ref T.heap.size :: .ref T.heap.size :: rest, locked := none }) rfl d4' _ hsteps
/-- 'throw new E("text")', the text by a wide index -/
theorem vx_throwSW {cc : ByteArray} {pc : Nat} (hexec : p.tables.exec = Jvm.exec) (hb : c.code = cc) (hl : l.stackTraces = false) {own cls text : String} {names : List String} {ik is ic mc ms sa : Nat} {A : Nat → Prop}
    (hown : s.vm.findClass own = some m.cls) (hcls : Bundle.fit cls = true) (hnames : ∀ n ∈ names, Bundle.fit n = true)
    (hk : (Cond.classLink own ik cls).before args s = true) (hini : (Cond.initialized cls).before args s = true) (hstr : vk_R own is text sa s) (hat : ∀ w ∈ vx_atS own ic cls names, w.before args s = true)
    (hgood : ∀ w ∈ Cond.classLink own ik cls :: Cond.initialized cls :: vx_atS own ic cls names, vx_ot w = true)
    (hU : vx_Zq Bundle.tN "UNASSIGNED_STACK" Bundle.steD A s s.heap) (hN : vx_Zq Bundle.tN "SUPPRESSED_SENTINEL" Bundle.listD A s s.heap) (hS : va_S A s.heap H locs) (hsize : ls.size = c.maxLocals)
    (d0 : decode cc pc = .ok (.new ik, 3)) (d3 : decode cc (pc + 3) = .ok (.dup, 1)) (d4 : decode cc (pc + 4) = .ok (.ldc_w is, 3)) (d7 : decode cc (pc + 7) = .ok (.invokespecial ic, 3)) (d10 : decode cc (pc + 10) = .ok (.athrow, 1))
    (hout : ∀ x ∈ c.exceptionTable.toList, covers x (pc + 10) = false)
    (hRframes : names.length + 3 < R.frames) (hRlocals : (rest.map fun v => v.category).sum + (13 * (names.length + 1) + 43) ≤ R.locals) (hRcells : cells + 1 ≤ R.cells) (hRslots : slots + 6 ≤ R.slots) (hlocks : meth.locks = false)
    (hx : ∀ t : State, s.vm.Alike t.vm → H.size ≤ t.heap.size → (∀ q : Nat, q < H.size → t.heap[q]? = H[q]?) → XC cls s t)
    (hf : ∀ z ∈ locs, free z.base) (hc : cells + 1 ≤ mc) (hs : slots + 6 ≤ ms) :
    W p l e R s m args below meth c H locs cells slots (vx_MQ below Qc XC args s mc ms free) (F0 m pc ls rest) := by
  intro T hT X
  have htr : e.platform.stackTraces = false := (show e.platform.stackTraces = l.stackTraces by rw [X.admits.platform]).trans hl
  have Y := vx_rebase X (R' := { frames := R.frames, locals := R.locals, cells := 1, slots := 6 }) (Nat.le_refl _) (Nat.le_refl _) hRcells hRslots
  obtain ⟨s', hA⟩ : ∃ z, z = (T.setVm s.vm).setFrames (.invoking m args :: below) := ⟨_, rfl⟩
  rw [← hA] at Y
  have hvm : s'.vm = s.vm := by rw [hA]; rfl
  have hhp : s'.heap = H := by rw [hA]; exact hT
  have hW0 : s.WarmedH s'.vm := by rw [hvm]; exact State.WarmedH.refl s
  have hat' : ∀ w ∈ vx_atS own ic cls names, w.before args s' = true := fun w hw => vx_ot_at hW0 hvm.symm (hgood w (List.mem_cons_of_mem _ (List.mem_cons_of_mem _ hw))) (hat w hw)
  have hk' : (Cond.classLink own ik cls).before args s' = true := vx_ot_at hW0 hvm.symm (hgood _ List.mem_cons_self) hk
  have hini' : (Cond.initialized cls).before args s' = true := vx_ot_at hW0 hvm.symm (hgood _ (List.mem_cons_of_mem _ List.mem_cons_self)) hini
  have hU' : vx_Zq Bundle.tN "UNASSIGNED_STACK" Bundle.steD A s' s'.heap := by rw [hhp]; exact vx_Zq.moved hW0.alike (hU.kept hS.2.1)
  have hN' : vx_Zq Bundle.tN "SUPPRESSED_SENTINEL" Bundle.listD A s' s'.heap := by rw [hhp]; exact vx_Zq.moved hW0.alike (hN.kept hS.2.1)
  have h : ∀ w ∈ Bundle.ownAtoms own ic cls names, w.before args s' = true := vx_own hat' (vx_isRefq hU'.1) (vx_isRefq hN'.1) hU'.2.word hN'.2.word
  have hown' : s'.vm.findClass own = some m.cls := by rw [hvm]; exact hown
  have hins : (Cond.instantiable cls 6).before args s' = true := h _ (by simp [Bundle.ownAtoms])
  obtain ⟨vm₁, cX, kX, hfX, hkX, -, -, X₁, st1⟩ := Y.newCold hexec (own := own) (C := cls) (index := ik) (n := 6) hown' hk' hins hini'
    (g := F0 m pc ls rest) rfl (by rw [hb]; exact d0) (Nat.le_refl _) (Nat.le_refl _)
  generalize hT1 : (T.setVm vm₁).pushCell { cls := cX, slots := kX.instanceTypes.map defaultValue, vm := .none } = T1 at X₁ st1
  have hcat : (Value.ref T.heap.size).category = 1 := rfl
  have hcellA : T1.heap[T.heap.size]? = some (freshCell cX kX) := by rw [← hT1]; exact State.heap_pushCell_size _ _
  have d3' : decode c.code (pc + 3) = .ok (.dup, 1) := by rw [hb]; exact d3
  have d4' : decode c.code (pc + 4) = .ok (.ldc_w is, 3) := by rw [hb]; exact d4
  have hstr' : vk_R own is text sa s' := vk_R.warm hW0 hstr
  obtain ⟨U, hsteps, hrun, hend, hW, hsame, ce, hce, hO⟩ := X₁.ctorThrowS hexec htr (own := own) (cls := cls) (names := names) (ic := ic) hown' hcls hnames h (fun x hx => nomatch hx) hfX hkX hcellA (by rw [hhp, hT]; exact Nat.le_refl _) (msg := .ref sa) rfl
    (g := { method := m, pc := pc + 7, locals := ls, stack := .ref sa :: .ref T.heap.size :: .ref T.heap.size :: rest, locked := none }) rfl hsize rfl rfl (rest := rest) rfl
    (by rw [hb]; exact d7) (by rw [hb]; exact d10) hout hRframes (by simp only [List.map_cons, List.sum_cons, hcat]; omega) hlocks
  obtain ⟨f1, f2⟩ := vx_frame hsame
  rw [hhp] at f1 f2
  have hWs : s.WarmedH U.vm := State.WarmedH.trans hW0 hW
  have hcl : s.vm.findClass cls = some ce.cls := by
    have h9 := hO.cls
    rw [hvm] at h9
    exact h9
  have hall : s.sameButNew ({ U with vm := s.vm } : State) locs mc ms := by
    subst hA
    obtain ⟨e1, e2⟩ := hsame
    rw [State.setFrames_setFrames] at e1
    have h2 : (T.setVm s.vm).sameButNew ({ U with vm := s.vm } : State) [] (0 + 1) (0 + 6) := ⟨e1, e2⟩
    have h3 := X.same.trans h2
    rw [List.append_nil] at h3
    exact h3.mono hc hs
  refine ⟨U, ?_, .threw T.heap.size, hrun, hend, Or.inr ⟨T.heap.size, rfl, cls, ce, locs, hx U hWs.alike f1 (fun q hq => f2 q hq (fun z hz => nomatch hz)), hce, hO.vm, hcl, hWs, hall, hf⟩⟩
  refine st1 _ ?_
  show Steps p.tables e below (T1.setTop { method := m, pc := pc + 3, locals := ls, stack := .ref T.heap.size :: rest, locked := none }) _
  jvm_step X₁.here [X₁.here.top, hexec, d3', Value.category]
  exact X₁.ldcStringW hexec (own := own) (text := text) (index := is) (a := sa) hown' hstr'.1 hstr'.2
    (g := { method := m, pc := pc + 4, locals := ls, stack := .ref T.heap.size :: .ref T.heap.size :: rest, locked := none }) rfl d4' _ hsteps
end Ends
section Bodies
variable {l : Launch}
theorem vx_ofW {y : MethodName} {ws ws' : List Cond} {rm : Room} {Pc : Array Value → State → Prop} {Qc : Array Value → State → Outcome → State → Prop} {XC : String → State → State → Prop} {mc ms : Nat} {free : Addr → Prop} {cc : ByteArray} {maxL : Nat} {ret : Option FieldType}
    (hy : plainName y.cls = true) (hw : ws = Cond.code y cc maxL ret :: ws')
    (body : ∀ p e s m args below meth c s₁, BodyLoose p l y (headSpec ws rm) cc maxL ret e s m args below meth c s₁ → c.maxLocals = maxL → (∀ x ∈ c.exceptionTable.toList, False) → Pc args s →
      W p l e (headSpec ws rm).room s m args below meth c s.heap [] 0 0 (vx_MQ below Qc XC args s mc ms free) (entryFrame m args maxL)) : vx_Met l y ws rm Pc Qc XC mc ms free := by
  refine MetFree.of_bodyS (code := cc) (maxLocals := maxL) (ret := ret) hy ?_ ?_
  · intro args s m h hn
    obtain ⟨meth, c, h1, h2, h3, h4, h5, h6, -, -⟩ := Cond.code_spec hn (atoms_spec (ws := ws) h _ (by rw [hw]; exact List.mem_cons_self))
    exact ⟨meth, c, h1, h2, h3, h4, h5, h6⟩
  · intro p e s m args below meth c s₁ B hml hP _
    have hh0 : s₁.heap = s.heap := by rw [B.state]; rfl
    have ht : ∀ x ∈ c.exceptionTable.toList, False := by
      obtain ⟨meth9, c9, h1, h2, -, -, -, -, h7, -⟩ := Cond.code_spec B.named (atoms_spec (ws := ws) B.pre _ (by rw [hw]; exact List.mem_cons_self))
      cases Option.some.inj (h1.symm.trans B.method)
      cases Option.some.inj (h2.symm.trans (Stand.of_body B).code)
      intro x hx
      rw [Array.isEmpty_iff.mp h7] at hx
      cases hx
    obtain ⟨t, a1, o, b1, b2, b3⟩ := body p e s m args below meth c s₁ B hml ht hP s₁ hh0 (Stand.of_body B)
    exact ⟨t, o, a1, b1, b2, b3⟩
/-- the table of a body with handlers -/
theorem vx_table {p : Program} {x y : MethodName} {S : Spec} {cc bytes : ByteArray} {maxL maxL' : Nat} {ret ret' : Option FieldType} {e : Env} {s s₁ : State} {m : MethodId} {args : Array Value} {below : List Frame} {meth : Method} {c : Code} {hh : List (Nat × Nat × Nat × Nat)}
    (B : BodyLoose p l y S cc maxL ret e s m args below meth c s₁) (h : (Cond.codeWith y bytes maxL' ret' hh).before args s = true) : c.exceptionTable.toList = tableOf hh := by
  obtain ⟨m9, meth9, c9, hn9, h1, h2, -, -, h6, -⟩ := Cond.codeWith_spec h
  cases Option.some.inj (hn9.symm.trans B.named)
  cases Option.some.inj (h1.symm.trans B.method)
  cases Option.some.inj (h2.symm.trans (Stand.of_body B).code)
  rw [← h6, table_eq]
end Bodies
end VXA
/-! ===== END ===== -/
/-! ===== BEGIN a static call of a method with an exception table ===== -/
section VXS
variable {p : Program} {l : Launch} {e : Env} {R : Room} {s : State} {m : MethodId} {args : Array Value} {below : List Frame} {meth : Method} {c : Code} {T : State} {H : Heap} {locs : List Loc} {cells slots : Nat}
abbrev vx_CSW (R : Room) (s : State) (args : Array Value) (own : String) (index : Nat) (y : MethodName) (bytes : ByteArray) (maxL : Nat) (ret : Option FieldType) (hh : List (Nat × Nat × Nat × Nat)) (ws : List Cond) (rm : Room) (mc ms n : Nat) : Prop :=
  (rm.cells = mc ∧ rm.slots = ms ∧ rm.frames + 1 ≤ R.frames ∧ 8 + (maxL + 11) + rm.locals ≤ R.locals ∧ (∀ w ∈ ws, ∀ (a' : Array Value) (U : State), s.WarmedH U.vm → w.before a' U = true) ∧ Cond.codeWith y bytes maxL ret hh ∈ ws) ∧
  (Cond.codeWith y bytes maxL ret hh).before args s = true ∧ (Cond.initialized y.cls).before args s = true ∧ (y.cls ≠ "java/lang/invoke/MethodHandle" ∧ y.cls ≠ "java/lang/invoke/VarHandle") ∧
  (∀ sig, parseMethodDescriptor y.desc = some sig → n = sig.parameters.length) ∧ (Cond.methodLink own index y).before args s = true ∧ (Cond.static y).before args s = true
theorem vx_cwSW {own : String} {index maxL mc ms : Nat} {y : MethodName} {bytes : ByteArray} {ret : Option FieldType} {hh : List (Nat × Nat × Nat × Nat)} {Ts ws ws' : List Cond} {rm : Room} (n : Nat) (ht : ∀ w ∈ Ts, w.before args s = true) (hT : GoodIn Ts (va_wsS own index y ws)) (hw : ws = Cond.codeWith y bytes maxL ret hh :: ws') (hrc : rm.cells = mc) (hrs : rm.slots = ms)
    (hd : y.cls ≠ "java/lang/invoke/MethodHandle" ∧ y.cls ≠ "java/lang/invoke/VarHandle" ∧ (parseMethodDescriptor y.desc).map (fun d => d.parameters.length) = some n) (hR : rm.frames + 1 ≤ R.frames ∧ 8 + (maxL + 11) + rm.locals ≤ R.locals) :
    vx_CSW R s args own index y bytes maxL ret hh ws rm mc ms n := by
  have ok : ∀ w ∈ va_wsS own index y ws, w.before args s = true := fun w h => ht w (hT w h).1
  have hG : GoodIn Ts ws := fun w h => hT w (by unfold va_wsS; exact List.mem_append_right _ h)
  have hc : Cond.codeWith y bytes maxL ret hh ∈ ws := by rw [hw]; exact List.mem_cons_self
  refine ⟨⟨hrc, hrs, hR.1, hR.2, pay_in ht hG, hc⟩, ht _ (hG _ hc).1, ok _ (by simp [va_wsS]), ⟨hd.1, hd.2.1⟩, fun sig h => ?_, ok _ (by simp [va_wsS]), ok _ (by simp [va_wsS])⟩
  have h2 := hd.2.2
  rw [h] at h2
  exact (Option.some.inj h2).symm
theorem vx_callSW (X : Stand p l e R s m args below meth c T locs cells slots) (hexec : p.tables.exec = Jvm.exec) {own : String} {index : Nat} {y : MethodName} {bytes : ByteArray} {maxL : Nat} {ret : Option FieldType} {hh : List (Nat × Nat × Nat × Nat)}
    (hown : s.vm.findClass own = some m.cls) (hlink : (Cond.methodLink own index y).before args s = true) (hstat : (Cond.static y).before args s = true) (hinit : (Cond.initialized y.cls).before args s = true)
    (hcode : (Cond.codeWith y bytes maxL ret hh).before args s = true) (hy : y.cls ≠ "java/lang/invoke/MethodHandle" ∧ y.cls ≠ "java/lang/invoke/VarHandle")
    {W9 : Nat} {Pre : Pt → Array Value → Prop} {Post : Pt → Array Value → Option Value → Pt → Prop} (hK : Back l R p e below s args y 3 W9 Pre Post)
    {g : JFrame} (hg : g.method = m) (hsize : g.locals.size = c.maxLocals) {argsL rest : List Value} (hlen : ∀ sig, parseMethodDescriptor y.desc = some sig → argsL.length = sig.parameters.length)
    (hstack : g.stack = argsL.reverse ++ rest) (hW : 2 * g.monitorRoom + (rest.map fun v => v.category).sum ≤ W9) (hdg : decode c.code g.pc = .ok (.invokestatic index, 3))
    (hpre : ∀ vm₁, s.WarmedH vm₁ → Pre ⟨T.setVm vm₁, locs, cells, slots⟩ argsL.toArray) :
    ∃ (v : Option Value) (vm₁ : Vm) (B : Pt), s.WarmedH vm₁ ∧ Stand p l e R s m args below meth c B.U B.locs B.cells B.slots ∧ Post ⟨T.setVm vm₁, locs, cells, slots⟩ argsL.toArray v B ∧
      ∀ target, Steps p.tables e below (B.U.setTop { g with pc := g.pc + 3, stack := v.toList ++ rest }) target → Steps p.tables e below (T.setTop g) target := by
  obtain ⟨mk, methM, cM, hnamed, hmethM, -, -, -, -, -, -, hsigM⟩ := Cond.codeWith_spec hcode
  have hstatic : methM.isStatic = true := Cond.static_spec hnamed hmethM hstat
  obtain ⟨kP, hkP, -⟩ := className_of_methodNamed hnamed
  have hinitP : kP.init = .initialized := Cond.initialized_spec (findClass_of_methodNamed hnamed) hkP hinit
  obtain ⟨vm₁, X₁, hstep₁⟩ := X.invokestatic hexec hown hlink hnamed hmethM hstatic hkP hinitP hy (g := g) hg (argsL := argsL) (rest := rest) (hlen _ hsigM) hstack hdg
  obtain ⟨v, B, X', hpost, hsteps⟩ := hK m meth c ⟨T.setVm vm₁, locs, cells, slots⟩ { g with stack := rest } (.invokestatic index) mk argsL.toArray X₁ hg hsize hdg hW (X₁.named hnamed) (hpre vm₁ X₁.warmed)
  exact ⟨v, vm₁, B, X₁.warmed, X', hpost, fun target h => hstep₁ _ fun acts => by rw [doInvoke_state]; exact hsteps.trans h⟩
theorem vx_runSW {y : MethodName} {bytes cc : ByteArray} {maxL nL mc ms n index : Nat} {ret : Option FieldType} {hh : List (Nat × Nat × Nat × Nat)} {ws : List Cond} {rm : Room} {Pc : Array Value → State → Prop} {Qc : Array Value → State → Outcome → State → Prop} {free : Addr → Prop} {Ts : List Cond} {own : String} {As rest : List Value} {g : JFrame}
    (S : CallFix p m c cc nL s args Ts own) (hM : Met l y ws rm Pc Qc mc ms free) (cw : vx_CSW R s args own index y bytes maxL ret hh ws rm mc ms n) (hp : PreS s H Pc As)
    (hg : g.method = m) (hn : As.length = n) (hsize : g.locals.size = nL) (hstack : g.stack = As.reverse ++ rest) (hW : 2 * g.monitorRoom + (rest.map fun v => v.category).sum ≤ 8) (hdg : decode cc g.pc = .ok (.invokestatic index, 3)) (hf : cells + mc ≤ R.cells ∧ slots + ms ≤ R.slots) :
    va_Run p l e R s m args below meth c H locs cells slots mc ms g rest (Qc As.toArray) (free) := by
  obtain ⟨⟨hrc, hrs, hfr, hlo, hws, hcw⟩, hcode, hini, hy, hlen, hl, hstt⟩ := cw
  have hK : Back l R p e below s args y 3 8 (PreOf R mc ms Pc) (PostOf Qc mc ms free) := va_backW (hh := hh) (bytes := bytes) (maxL := maxL) (ret := ret) hM hp.1 hrc hrs hfr hlo hws hcw (fun a' U hW => word_at hW (Or.inl (by first | rfl | simp [Cond.onTables, Cond.keeps, Cond.steady])) hini)
  obtain ⟨hx, hb, hml, ho, -⟩ := S
  intro T hT X
  obtain ⟨v, vm₁, ⟨U', l2, c2, s2⟩, hW₁, X', ⟨g', mk, t, L, e1, e2, hq, h1, hL, h2, h3⟩, st⟩ := vx_callSW X hx (hh := hh) (bytes := bytes) (maxL := maxL) (ret := ret) ho hl hstt hini hcode hy hK hg (hsize.trans hml.symm) (argsL := As) (rest := rest) (fun sig h => hn.trans (hlen sig h)) hstack hW (by rw [hb]; exact hdg)
    (fun vm₁ hW₁ => ⟨hf.1, hf.2, hp.2 (T.setVm vm₁) hT hW₁⟩)
  dsimp only [Pt.U, Pt.locs, Pt.cells, Pt.slots] at X' e1 e2 h1 h2 h3 st
  subst h1; subst h2; subst h3
  exact ⟨v, (T.setVm vm₁).calling g' mk As.toArray, t, U', L, hT, X', hL, e1, e2, hq, st⟩
/-- not caught here, past rows that name other classes: it goes on to the caller -/
theorem vx_outP {p : Program} {l : Launch} {e : Env} {R : Room} {s : State} {m : MethodId} {args : Array Value} {below : List Frame} {meth : Method} {c : Code} {H : Heap} {locs : List Loc} {cells slots : Nat} {free : Addr → Prop} {ls : Array Slot} {rest : List Value} {Qc : Array Value → State → Outcome → State → Prop} {XC : String → State → State → Prop}
    {pc : Nat} {own E : String} {ce : Cell} {q : Addr} {mc ms : Nat} (hown : s.vm.findClass own = some m.cls) (hlocks : meth.locks = false)
    (hpass : ∀ z ∈ c.exceptionTable.toList, covers z pc = false ∨ (z.catchType ≠ 0 ∧ ∃ nm : String, (Cond.classLink own z.catchType nm).before args s = true ∧ va_Nc E nm s)) (hcell : H[q]? = some ce) (hv : ce.vm = .none) (hcl : s.vm.findClass E = some ce.cls)
    (hx : ∀ t : State, t.heap = H → s.vm.Alike t.vm → XC E s t) (hf : ∀ z ∈ locs, free z.base) (hc : cells ≤ mc) (hs : slots ≤ ms) :
    vx_W p l e R s m args below meth c H locs cells slots (vx_MQ below Qc XC args s mc ms free) (F0 m pc ls rest) q := by
  intro T hT X
  have hpl : e.platform.magicAccessors = ({} : Platform).magicAccessors := by rw [X.admits.platform]
  obtain ⟨vm', hW', X', st⟩ := X.outThrough hlocks q (g := F0 m pc ls rest) rfl rfl rfl (cell := ce) (by rw [hT]; exact hcell) (by rw [hv]; rfl)
    (by obtain ⟨k9, h9, -⟩ := Vm.findClass_spec hcl; exact ⟨k9, h9⟩) (fun z hz => by
      rcases hpass z hz with h | ⟨hz0, nm, hl1, hn1⟩
      · exact Or.inl h
      · obtain ⟨c6, hc6, hcl6⟩ := Cond.classLink_spec hown hl1 e.platform hpl
        obtain ⟨a8, b8, h1, h2, h3⟩ := hn1
        cases Option.some.inj (h1.symm.trans hcl)
        cases Option.some.inj (h2.symm.trans hc6)
        exact Or.inr ⟨hz0, _, hcl6, h3⟩)
  obtain ⟨g₀, hfr⟩ := X'.frames_eq
  have hcell9 : ((T.setVm vm').setFrames (.throwing q :: below)).heap[q]? = some ce := by
    show T.heap[q]? = some ce
    rw [hT]; exact hcell
  have hend : Ended ((T.setVm vm').setFrames (.throwing q :: below)) below (.threw q) := State.frames_setFrames _ (State.cur_lt_of_frames hfr)
  refine ⟨(T.setVm vm').setFrames (.throwing q :: below), ?_, .threw q, X'.here.running, hend, Or.inr ⟨q, rfl, E, ce, locs, hx _ hT (X'.ends _).1.alike, hcell9, hv, hcl, (X'.ends _).1, (X'.ends _).2.mono hc hs, hf⟩⟩
  rw [X.pushThrowing_eq]
  exact st
/-- a thing of a world lies in the heap -/
theorem vx_lt {D : va_G} {cl : List vw_C} {ws : va_W} {H1 : Heap} (h : va_P D cl ws H1) {k : Nat} {q : Nat × va_E} (hk : ws[k]? = some q) : q.1 < H1.size := (h k q hk).lt
end VXS
/-! ===== END ===== -/
/-! ===== BEGIN methods with a table of their own: called by a name, returning or throwing ===== -/
section VXH
/-! vx_backW, vx_callVX, vx_callSX, vx_callVW, vx_runVW, vx_runVX, vx_runSX, vx_ofWH follow the same proofs as their sisters above (Free/Laws.lean, Shelf42/LK1.lean); vx_outP calls Shelf42/NT130.lean (outThrough). -/
section
variable {l : Launch} {R : Room} {p : Program} {e : Env} {below : List Frame} {s : State} {sargs : Array Value} {y : MethodName} {len W9 : Nat}
theorem vx_backW {ws : List Cond} {rm : Room} {Pc : Array Value → State → Prop} {Qc : Array Value → State → Outcome → State → Prop} {XC : String → State → State → Prop} {mc ms : Nat} {free : Addr → Prop} {bytes : ByteArray} {maxL : Nat} {ret : Option FieldType} {hh : List (Nat × Nat × Nat × Nat)}
    (hM : vx_Met l y ws rm Pc Qc XC mc ms free) (hblind : FrameBlind Pc) (hrc : rm.cells = mc) (hrs : rm.slots = ms)
    (hframes : rm.frames + 1 ≤ R.frames) (hlocals : W9 + (maxL + 11) + rm.locals ≤ R.locals)
    (hws : ∀ w ∈ ws, ∀ a' U, s.WarmedH U.vm → w.before a' U = true) (hcode : Cond.codeWith y bytes maxL ret hh ∈ ws) (hinit : ∀ a' U, s.WarmedH U.vm → (Cond.initialized y.cls).before a' U = true) :
    vx_Back l R p e below s sargs y len W9 (PreOf R mc ms Pc) (PostOf Qc mc ms free) (vx_Post XC mc ms free) := by
  intro m meth c A g ig mk a X hg hsize hdg hW hn hp
  have h1 : (headSpec ws rm).pre.before a A.U = true := atoms_intro fun w hw => hws w hw _ _ X.warmed
  have h2 : (Cond.codeWith y bytes maxL ret hh).before a A.U = true := hws _ hcode _ _ X.warmed
  have h3 : (Cond.initialized y.cls).before a A.U = true := hinit _ _ X.warmed
  have h4 : A.cells + (headSpec ws rm).room.cells ≤ R.cells := by rw [show (headSpec ws rm).room.cells = mc from hrc]; exact hp.1
  have h5 : A.slots + (headSpec ws rm).room.slots ≤ R.slots := by rw [show (headSpec ws rm).room.slots = ms from hrs]; exact hp.2.1
  have hPc : Pc a (A.U.calling g mk a) := hblind _ _ _ _ hp.2.2
  obtain ⟨U, Ls, c0, s0⟩ := A
  dsimp only [Pt.U, Pt.locs, Pt.cells, Pt.slots] at h1 h2 h3 h4 h5 X hn hPc ⊢
  obtain ⟨m9, methY, cY, hn9, hmY, hcY, -, hlY, -⟩ := Cond.codeWith_spec h2
  cases Option.some.inj (hn9.symm.trans hn)
  obtain ⟨kY, hkY, -⟩ := className_of_methodNamed hn
  have hinitY : kY.init = .initialized := Cond.initialized_spec (findClass_of_methodNamed hn) hkY h3
  have h : At U g.method c below := by rw [hg]; exact X.here
  have hlocals9 : W9 + (maxL + 11) + (headSpec ws rm).room.locals ≤ R.locals := hlocals
  have happ : (headSpec ws rm).appliesLoose y e.platform (U.calling g mk a) = true :=
    Spec.appliesLoose_calling (g := g) h hdg hn hkY hinitY
      (X.room_calling (g := g) (R' := (headSpec ws rm).room) hsize hmY hcY hframes (by rw [hlY]; omega) h4 h5) h1
  obtain ⟨mid, hmid⟩ := h.above
  have hfr : (U.setTop g).frames = (.java g :: mid) ++ below := by rw [State.frames_setTop' g h.top, hmid]; rfl
  obtain ⟨o, s₂, hsteps, -, hend, hq⟩ := Steps.callFree hM p X.admits X.cas X.clock (acts := []) hfr happ hPc trivial
  have hq' : vx_Q Qc XC mc ms free a (U.calling g mk a) o s₂ := hq
  rw [State.frames_setTop' g h.top] at hend
  obtain ⟨g₀, hg0⟩ := Option.isSome_iff_exists.mp h.top
  obtain ⟨r, hr⟩ := State.topJava?_eq_some.mp hg0
  have hr' : (({ U with heap := s₂.heap, slotsUsed := s₂.slotsUsed } : State).setVm s₂.vm).frames = .java g₀ :: r := hr
  rcases hq' with ⟨hqc, L, hfe, hL⟩ | ⟨q, rfl, E, ce, L, hx, hce, hcv, hcl, hW₂, hsm, hL⟩
  · obtain ⟨⟨v, rfl⟩, hW₂, e2, q2, q3, q4, q5, q6⟩ := id hfe
    have e3 : s₂ = ({ (U.calling g mk a).setFrames s₂.frames with heap := s₂.heap, slotsUsed := s₂.slotsUsed } : State).setVm s₂.vm := by
      have : s₂ = ({ s₂ with vm := (U.calling g mk a).vm } : State).setVm s₂.vm := rfl
      rw [e2] at this
      exact this
    obtain ⟨c₂, i₂, len₂, hc₂, hd₂, hf₂⟩ := hend
    have hW' : U.WarmedH s₂.vm := hW₂
    have hcc : c₂ = c := by
      have h1 : s₂.code? g.method = U.code? g.method := by
        rw [State.code?_eq, State.code?_eq, hW'.alike.method?]
      exact Option.some.inj (hc₂.symm.trans (h1.trans h.code))
    subst hcc
    have hlen : len₂ = len := by rw [hdg] at hd₂; cases hd₂; rfl
    subst hlen
    have hs₂ : s₂ = (({ U with heap := s₂.heap, slotsUsed := s₂.slotsUsed } : State).setVm s₂.vm).setTop { g with pc := g.pc + len₂, stack := v.toList ++ g.stack } := by
      refine e3.trans ?_
      rw [hf₂, State.calling_eq h.top, State.setFrames_setFrames, State.setTop_of_frames _ hr', hr]
      rfl
    have hsame : U.sameButNew ({ U with heap := s₂.heap, slotsUsed := s₂.slotsUsed } : State) L mc ms := by
      refine ⟨?_, q2, q3, q4, q5, q6⟩
      obtain ⟨t, ht, -⟩ := State.frames_cons hr
      show ({ U with heap := s₂.heap, slotsUsed := s₂.slotsUsed } : State) = { U.setFrames U.frames with heap := s₂.heap, slotsUsed := s₂.slotsUsed }
      rw [State.setFrames_self ht]
    subst hg
    refine Or.inl ⟨v, ⟨(({ U with heap := s₂.heap, slotsUsed := s₂.slotsUsed } : State).setVm s₂.vm), Ls ++ L, c0 + mc, s0 + ms⟩,
      ⟨X.admits, X.cas, X.clock, X.frames, X.room, X.hears, X.method, X.code, (X.here.setHeapUsed s₂.heap s₂.slotsUsed).setVm hW'.alike, X.tail, State.WarmedH.trans X.warmed hW', X.limits, X.bytes, X.same.trans (hsame.setVm s.vm)⟩,
      ⟨g, mk, s₂, L, rfl, rfl, hqc, rfl, hL, rfl, rfl⟩, ?_⟩
    show Steps p.tables e below _ ((({ U with heap := s₂.heap, slotsUsed := s₂.slotsUsed } : State).setVm s₂.vm).setTop { g with pc := g.pc + len₂, stack := v.toList ++ g.stack })
    rw [← hs₂]
    exact hsteps
  · obtain ⟨e2, q2, q3, q4, q5, q6⟩ := id hsm
    have e3 : s₂ = ({ (U.calling g mk a).setFrames s₂.frames with heap := s₂.heap, slotsUsed := s₂.slotsUsed } : State).setVm s₂.vm := by
      have : s₂ = ({ s₂ with vm := (U.calling g mk a).vm } : State).setVm s₂.vm := rfl
      rw [e2] at this
      exact this
    have hf₂ : s₂.frames = .throwing q :: .java g :: U.frames.tail := hend
    have hW' : U.WarmedH s₂.vm := hW₂
    have hs₂ : s₂ = ((({ U with heap := s₂.heap, slotsUsed := s₂.slotsUsed } : State).setVm s₂.vm).setTop g).pushFrame (.throwing q) := by
      refine e3.trans ?_
      rw [hf₂, State.calling_eq h.top, State.setFrames_setFrames, State.pushFrame, State.frames_setTop _ hr', State.setTop_of_frames _ hr', State.setFrames_setFrames, hr]
      rfl
    have hsame : U.sameButNew ({ U with heap := s₂.heap, slotsUsed := s₂.slotsUsed } : State) L mc ms := by
      refine ⟨?_, q2, q3, q4, q5, q6⟩
      obtain ⟨t, ht, -⟩ := State.frames_cons hr
      show ({ U with heap := s₂.heap, slotsUsed := s₂.slotsUsed } : State) = { U.setFrames U.frames with heap := s₂.heap, slotsUsed := s₂.slotsUsed }
      rw [State.setFrames_self ht]
    subst hg
    refine Or.inr ⟨q, ⟨(({ U with heap := s₂.heap, slotsUsed := s₂.slotsUsed } : State).setVm s₂.vm), Ls ++ L, c0 + mc, s0 + ms⟩,
      ⟨X.admits, X.cas, X.clock, X.frames, X.room, X.hears, X.method, X.code, (X.here.setHeapUsed s₂.heap s₂.slotsUsed).setVm hW'.alike, X.tail, State.WarmedH.trans X.warmed hW', X.limits, X.bytes, X.same.trans (hsame.setVm s.vm)⟩,
      ⟨g, mk, s₂, L, E, ce, rfl, rfl, hx, hce, hcv, hcl, rfl, hL, rfl, rfl⟩, ?_⟩
    show Steps p.tables e below _ (((({ U with heap := s₂.heap, slotsUsed := s₂.slotsUsed } : State).setVm s₂.vm).setTop g).pushFrame (.throwing q))
    rw [← hs₂]
    exact hsteps
end
variable {p : Program} {l : Launch} {e : Env} {R : Room} {s : State} {m : MethodId} {args : Array Value} {below : List Frame} {meth : Method} {c : Code} {T : State} {H : Heap} {locs : List Loc} {cells slots : Nat}
theorem vx_callVX (X : Stand p l e R s m args below meth c T locs cells slots) (hexec : p.tables.exec = Jvm.exec) {own C : String} {index : Nat} {y : MethodName} {bytes : ByteArray} {maxL : Nat} {ret : Option FieldType} {hh : List (Nat × Nat × Nat × Nat)}
    (hown : s.vm.findClass own = some m.cls) (hlink : (Cond.methodLink own index y).before args s = true) (hinst : (Cond.instanceMethod y).before args s = true) (hsel : (Cond.selects C y y).before args s = true)
    (hcode : (Cond.codeWith y bytes maxL ret hh).before args s = true) (hy : y.cls ≠ "java/lang/invoke/MethodHandle" ∧ y.cls ≠ "java/lang/invoke/VarHandle")
    {W9 : Nat} {Pre : Pt → Array Value → Prop} {Post : Pt → Array Value → Option Value → Pt → Prop} {PostX : Pt → Array Value → Addr → Pt → Prop} (hK : vx_Back l R p e below s args y 3 W9 Pre Post PostX)
    {b : Addr} {cellB : Cell} (hcell : T.heap[b]? = some cellB) (hobj : cellB.vm.isStatics = false) (hcls : s.vm.findClass C = some cellB.cls)
    {g : JFrame} (hg : g.method = m) (hsize : g.locals.size = c.maxLocals) {argsL rest : List Value} (hlen : ∀ sig, parseMethodDescriptor y.desc = some sig → argsL.length = sig.parameters.length)
    (hstack : g.stack = argsL.reverse ++ .ref b :: rest) (hW : 2 * g.monitorRoom + (rest.map fun v => v.category).sum ≤ W9) (hdg : decode c.code g.pc = .ok (.invokevirtual index, 3))
    (hpre : ∀ vm₁, s.WarmedH vm₁ → Pre ⟨T.setVm vm₁, locs, cells, slots⟩ (Value.ref b :: argsL).toArray) :
    (∃ (v : Option Value) (vm₁ : Vm) (B : Pt), s.WarmedH vm₁ ∧ Stand p l e R s m args below meth c B.U B.locs B.cells B.slots ∧ Post ⟨T.setVm vm₁, locs, cells, slots⟩ (Value.ref b :: argsL).toArray v B ∧
      ∀ target, Steps p.tables e below (B.U.setTop { g with pc := g.pc + 3, stack := v.toList ++ rest }) target → Steps p.tables e below (T.setTop g) target) ∨
    (∃ (q : Addr) (vm₁ : Vm) (B : Pt), s.WarmedH vm₁ ∧ Stand p l e R s m args below meth c B.U B.locs B.cells B.slots ∧ PostX ⟨T.setVm vm₁, locs, cells, slots⟩ (Value.ref b :: argsL).toArray q B ∧
      Steps p.tables e below (T.setTop g) ((B.U.setTop { g with stack := rest }).pushFrame (.throwing q))) := by
  obtain ⟨mk, methM, hnamed, hmethM, hstM, habM⟩ := Cond.instanceMethod_spec hinst
  obtain ⟨m8, methM', cM, hn8, hmethM', -, -, -, -, -, -, hsigM⟩ := Cond.codeWith_spec hcode
  cases Option.some.inj (hn8.symm.trans hnamed)
  cases hmethM.symm.trans hmethM'
  obtain ⟨c2, r2, m2, q1, q2, q3, q4, kP, hkP, hkPi⟩ := Cond.selects_spec hsel
  cases hcls.symm.trans q1
  cases (State.methodFound?_of_named hnamed hy).symm.trans q2
  cases hnamed.symm.trans q3
  have hselP : selectMethod e.platform s.vm cellB.cls mk = .method mk := by rw [Launch.admits_selectMethod X.admits]; exact q4
  obtain ⟨vm₁, X₁, hstep₁⟩ := X.invokevirtual hexec hown hlink hnamed hmethM hstM hkP hkPi hy (a := b) (cell := cellB) hcell
    (fun z h => by rw [h] at hobj; cases hobj) hselP hmethM habM hkP hkPi (g := g) hg (argsL := argsL) (rest := rest) (hlen _ hsigM) hstack hdg
  rcases hK m meth c ⟨T.setVm vm₁, locs, cells, slots⟩ { g with stack := rest } (.invokevirtual index) mk (Value.ref b :: argsL).toArray X₁ hg hsize hdg hW (X₁.named hnamed) (hpre vm₁ X₁.warmed) with ⟨v, B, X', hpost, hsteps⟩ | ⟨q, B, X', hpost, hsteps⟩
  · exact Or.inl ⟨v, vm₁, B, X₁.warmed, X', hpost, fun target h => hstep₁ _ fun acts => by rw [doInvoke_state]; exact hsteps.trans h⟩
  · exact Or.inr ⟨q, vm₁, B, X₁.warmed, X', hpost, hstep₁ _ fun acts => by rw [doInvoke_state]; exact hsteps⟩
theorem vx_callSX (X : Stand p l e R s m args below meth c T locs cells slots) (hexec : p.tables.exec = Jvm.exec) {own : String} {index : Nat} {y : MethodName} {bytes : ByteArray} {maxL : Nat} {ret : Option FieldType} {hh : List (Nat × Nat × Nat × Nat)}
    (hown : s.vm.findClass own = some m.cls) (hlink : (Cond.methodLink own index y).before args s = true) (hstat : (Cond.static y).before args s = true) (hinit : (Cond.initialized y.cls).before args s = true)
    (hcode : (Cond.codeWith y bytes maxL ret hh).before args s = true) (hy : y.cls ≠ "java/lang/invoke/MethodHandle" ∧ y.cls ≠ "java/lang/invoke/VarHandle")
    {W9 : Nat} {Pre : Pt → Array Value → Prop} {Post : Pt → Array Value → Option Value → Pt → Prop} {PostX : Pt → Array Value → Addr → Pt → Prop} (hK : vx_Back l R p e below s args y 3 W9 Pre Post PostX)
    {g : JFrame} (hg : g.method = m) (hsize : g.locals.size = c.maxLocals) {argsL rest : List Value} (hlen : ∀ sig, parseMethodDescriptor y.desc = some sig → argsL.length = sig.parameters.length)
    (hstack : g.stack = argsL.reverse ++ rest) (hW : 2 * g.monitorRoom + (rest.map fun v => v.category).sum ≤ W9) (hdg : decode c.code g.pc = .ok (.invokestatic index, 3))
    (hpre : ∀ vm₁, s.WarmedH vm₁ → Pre ⟨T.setVm vm₁, locs, cells, slots⟩ argsL.toArray) :
    (∃ (v : Option Value) (vm₁ : Vm) (B : Pt), s.WarmedH vm₁ ∧ Stand p l e R s m args below meth c B.U B.locs B.cells B.slots ∧ Post ⟨T.setVm vm₁, locs, cells, slots⟩ argsL.toArray v B ∧
      ∀ target, Steps p.tables e below (B.U.setTop { g with pc := g.pc + 3, stack := v.toList ++ rest }) target → Steps p.tables e below (T.setTop g) target) ∨
    (∃ (q : Addr) (vm₁ : Vm) (B : Pt), s.WarmedH vm₁ ∧ Stand p l e R s m args below meth c B.U B.locs B.cells B.slots ∧ PostX ⟨T.setVm vm₁, locs, cells, slots⟩ argsL.toArray q B ∧
      Steps p.tables e below (T.setTop g) ((B.U.setTop { g with stack := rest }).pushFrame (.throwing q))) := by
  obtain ⟨mk, methM, cM, hnamed, hmethM, -, -, -, -, -, -, hsigM⟩ := Cond.codeWith_spec hcode
  have hstatic : methM.isStatic = true := Cond.static_spec hnamed hmethM hstat
  obtain ⟨kP, hkP, -⟩ := className_of_methodNamed hnamed
  have hinitP : kP.init = .initialized := Cond.initialized_spec (findClass_of_methodNamed hnamed) hkP hinit
  obtain ⟨vm₁, X₁, hstep₁⟩ := X.invokestatic hexec hown hlink hnamed hmethM hstatic hkP hinitP hy (g := g) hg (argsL := argsL) (rest := rest) (hlen _ hsigM) hstack hdg
  rcases hK m meth c ⟨T.setVm vm₁, locs, cells, slots⟩ { g with stack := rest } (.invokestatic index) mk argsL.toArray X₁ hg hsize hdg hW (X₁.named hnamed) (hpre vm₁ X₁.warmed) with ⟨v, B, X', hpost, hsteps⟩ | ⟨q, B, X', hpost, hsteps⟩
  · exact Or.inl ⟨v, vm₁, B, X₁.warmed, X', hpost, fun target h => hstep₁ _ fun acts => by rw [doInvoke_state]; exact hsteps.trans h⟩
  · exact Or.inr ⟨q, vm₁, B, X₁.warmed, X', hpost, hstep₁ _ fun acts => by rw [doInvoke_state]; exact hsteps⟩
theorem vx_callVW (X : Stand p l e R s m args below meth c T locs cells slots) (hexec : p.tables.exec = Jvm.exec) {own C : String} {index : Nat} {y : MethodName} {bytes : ByteArray} {maxL : Nat} {ret : Option FieldType} {hh : List (Nat × Nat × Nat × Nat)}
    (hown : s.vm.findClass own = some m.cls) (hlink : (Cond.methodLink own index y).before args s = true) (hinst : (Cond.instanceMethod y).before args s = true) (hsel : (Cond.selects C y y).before args s = true)
    (hcode : (Cond.codeWith y bytes maxL ret hh).before args s = true) (hy : y.cls ≠ "java/lang/invoke/MethodHandle" ∧ y.cls ≠ "java/lang/invoke/VarHandle")
    {W9 : Nat} {Pre : Pt → Array Value → Prop} {Post : Pt → Array Value → Option Value → Pt → Prop} (hK : Back l R p e below s args y 3 W9 Pre Post)
    {b : Addr} {cellB : Cell} (hcell : T.heap[b]? = some cellB) (hobj : cellB.vm.isStatics = false) (hcls : s.vm.findClass C = some cellB.cls)
    {g : JFrame} (hg : g.method = m) (hsize : g.locals.size = c.maxLocals) {argsL rest : List Value} (hlen : ∀ sig, parseMethodDescriptor y.desc = some sig → argsL.length = sig.parameters.length)
    (hstack : g.stack = argsL.reverse ++ .ref b :: rest) (hW : 2 * g.monitorRoom + (rest.map fun v => v.category).sum ≤ W9) (hdg : decode c.code g.pc = .ok (.invokevirtual index, 3))
    (hpre : ∀ vm₁, s.WarmedH vm₁ → Pre ⟨T.setVm vm₁, locs, cells, slots⟩ (Value.ref b :: argsL).toArray) :
    ∃ (v : Option Value) (vm₁ : Vm) (B : Pt), s.WarmedH vm₁ ∧ Stand p l e R s m args below meth c B.U B.locs B.cells B.slots ∧ Post ⟨T.setVm vm₁, locs, cells, slots⟩ (Value.ref b :: argsL).toArray v B ∧
      ∀ target, Steps p.tables e below (B.U.setTop { g with pc := g.pc + 3, stack := v.toList ++ rest }) target → Steps p.tables e below (T.setTop g) target := by
  obtain ⟨mk, methM, hnamed, hmethM, hstM, habM⟩ := Cond.instanceMethod_spec hinst
  obtain ⟨m8, methM', cM, hn8, hmethM', -, -, -, -, -, -, hsigM⟩ := Cond.codeWith_spec hcode
  cases Option.some.inj (hn8.symm.trans hnamed)
  cases hmethM.symm.trans hmethM'
  obtain ⟨c2, r2, m2, q1, q2, q3, q4, kP, hkP, hkPi⟩ := Cond.selects_spec hsel
  cases hcls.symm.trans q1
  cases (State.methodFound?_of_named hnamed hy).symm.trans q2
  cases hnamed.symm.trans q3
  have hselP : selectMethod e.platform s.vm cellB.cls mk = .method mk := by rw [Launch.admits_selectMethod X.admits]; exact q4
  obtain ⟨vm₁, X₁, hstep₁⟩ := X.invokevirtual hexec hown hlink hnamed hmethM hstM hkP hkPi hy (a := b) (cell := cellB) hcell
    (fun z h => by rw [h] at hobj; cases hobj) hselP hmethM habM hkP hkPi (g := g) hg (argsL := argsL) (rest := rest) (hlen _ hsigM) hstack hdg
  obtain ⟨v, B, X', hpost, hsteps⟩ := hK m meth c ⟨T.setVm vm₁, locs, cells, slots⟩ { g with stack := rest } (.invokevirtual index) mk (Value.ref b :: argsL).toArray X₁ hg hsize hdg hW (X₁.named hnamed) (hpre vm₁ X₁.warmed)
  exact ⟨v, vm₁, B, X₁.warmed, X', hpost, fun target h => hstep₁ _ fun acts => by rw [doInvoke_state]; exact hsteps.trans h⟩
abbrev vx_CVW (R : Room) (s : State) (args : Array Value) (own C : String) (index : Nat) (y : MethodName) (bytes : ByteArray) (maxL : Nat) (ret : Option FieldType) (hh : List (Nat × Nat × Nat × Nat)) (ws : List Cond) (rm : Room) (mc ms n : Nat) : Prop :=
  (rm.cells = mc ∧ rm.slots = ms ∧ rm.frames + 1 ≤ R.frames ∧ 8 + (maxL + 11) + rm.locals ≤ R.locals ∧ (∀ w ∈ ws, ∀ (a' : Array Value) (U : State), s.WarmedH U.vm → w.before a' U = true) ∧ Cond.codeWith y bytes maxL ret hh ∈ ws) ∧
  (Cond.codeWith y bytes maxL ret hh).before args s = true ∧ (Cond.initialized y.cls).before args s = true ∧ (y.cls ≠ "java/lang/invoke/MethodHandle" ∧ y.cls ≠ "java/lang/invoke/VarHandle") ∧
  (∀ sig, parseMethodDescriptor y.desc = some sig → n = sig.parameters.length) ∧ (Cond.methodLink own index y).before args s = true ∧ (Cond.instanceMethod y).before args s = true ∧ (Cond.selects C y y).before args s = true
theorem vx_cwVW {own C : String} {index maxL mc ms : Nat} {y : MethodName} {bytes : ByteArray} {ret : Option FieldType} {hh : List (Nat × Nat × Nat × Nat)} {Ts ws ws' : List Cond} {rm : Room} (n : Nat) (ht : ∀ w ∈ Ts, w.before args s = true) (hT : GoodIn Ts (wsV own index C y ws)) (hw : ws = Cond.codeWith y bytes maxL ret hh :: ws') (hrc : rm.cells = mc) (hrs : rm.slots = ms)
    (hd : y.cls = C ∧ y.cls ≠ "java/lang/invoke/MethodHandle" ∧ y.cls ≠ "java/lang/invoke/VarHandle" ∧ (parseMethodDescriptor y.desc).map (fun d => d.parameters.length) = some n) (hR : rm.frames + 1 ≤ R.frames ∧ 8 + (maxL + 11) + rm.locals ≤ R.locals) :
    vx_CVW R s args own C index y bytes maxL ret hh ws rm mc ms n := by
  obtain ⟨hC, hd⟩ := hd
  subst hC
  have ok : ∀ w ∈ wsV own index y.cls y ws, w.before args s = true := fun w h => ht w (hT w h).1
  have hG : GoodIn Ts ws := fun w h => hT w (by unfold wsV; exact List.mem_append_right _ h)
  have hc : Cond.codeWith y bytes maxL ret hh ∈ ws := by rw [hw]; exact List.mem_cons_self
  refine ⟨⟨hrc, hrs, hR.1, hR.2, pay_in ht hG, hc⟩, ht _ (hG _ hc).1, ok _ (by simp [wsV]), ⟨hd.1, hd.2.1⟩, fun sig h => ?_, ok _ (by simp [wsV]), ok _ (by simp [wsV]), ok _ (by simp [wsV])⟩
  have h2 := hd.2.2
  rw [h] at h2
  exact (Option.some.inj h2).symm
theorem vx_runVW {y : MethodName} {bytes cc : ByteArray} {maxL nL mc ms n index : Nat} {ret : Option FieldType} {hh : List (Nat × Nat × Nat × Nat)} {ws : List Cond} {rm : Room} {Pc : Array Value → State → Prop} {Qc : Array Value → State → Outcome → State → Prop} {free : Addr → Prop} {Ts : List Cond} {own C : String} {b : Addr} {As rest : List Value} {g : JFrame}
    (S : CallFix p m c cc nL s args Ts own) (hM : Met l y ws rm Pc Qc mc ms free) (cw : vx_CVW R s args own C index y bytes maxL ret hh ws rm mc ms n) (hp : PreV s H C b Pc As)
    (hg : g.method = m) (hn : As.length = n) (hsize : g.locals.size = nL) (hstack : g.stack = As.reverse ++ .ref b :: rest) (hW : 2 * g.monitorRoom + (rest.map fun v => v.category).sum ≤ 8) (hdg : decode cc g.pc = .ok (.invokevirtual index, 3)) (hf : cells + mc ≤ R.cells ∧ slots + ms ≤ R.slots) :
    va_Run p l e R s m args below meth c H locs cells slots mc ms g rest (Qc (Value.ref b :: As).toArray) free := by
  obtain ⟨⟨hrc, hrs, hfr, hlo, hws, hcw⟩, hcode, hini, hy, hlen, hl, hin, hse⟩ := cw
  have hK : Back l R p e below s args y 3 8 (PreOf R mc ms Pc) (PostOf Qc mc ms free) := va_backW (hh := hh) (bytes := bytes) (maxL := maxL) (ret := ret) hM hp.1 hrc hrs hfr hlo hws hcw (fun a' U hW => word_at hW (Or.inl (by first | rfl | simp [Cond.onTables, Cond.keeps, Cond.steady])) hini)
  obtain ⟨hx, hb, hml, ho, -⟩ := S
  obtain ⟨-, ⟨cellB, hcB, hoB, hclB⟩, hPc⟩ := hp
  intro T hT X
  obtain ⟨v, vm₁, ⟨U', l2, c2, s2⟩, hW₁, X', ⟨g', mk, t, L, e1, e2, hq, h1, hL, h2, h3⟩, st⟩ := vx_callVW X hx (C := C) (hh := hh) (bytes := bytes) (maxL := maxL) (ret := ret) ho hl hin hse hcode hy hK (by rw [hT]; exact hcB) hoB hclB hg (hsize.trans hml.symm) (argsL := As) (rest := rest) (fun sig h => hn.trans (hlen sig h)) hstack hW (by rw [hb]; exact hdg)
    (fun vm₁ hW₁ => ⟨hf.1, hf.2, hPc (T.setVm vm₁) hT hW₁⟩)
  dsimp only [Pt.U, Pt.locs, Pt.cells, Pt.slots] at X' e1 e2 h1 h2 h3 st
  subst h1; subst h2; subst h3
  exact ⟨v, (T.setVm vm₁).calling g' mk (Value.ref b :: As).toArray, t, U', L, hT, X', hL, e1, e2, hq, st⟩
section
variable {y : MethodName} {bytes cc : ByteArray} {maxL nL mc ms n index : Nat} {ret : Option FieldType} {ws : List Cond} {rm : Room} {Pc : Array Value → State → Prop} {Qc : Array Value → State → Outcome → State → Prop} {XC : String → State → State → Prop} {free : Addr → Prop} {Ts : List Cond} {own C : String} {b : Addr} {As rest : List Value} {g : JFrame}
theorem vx_runVX {hh : List (Nat × Nat × Nat × Nat)} (S : CallFix p m c cc nL s args Ts own) (hM : vx_Met l y ws rm Pc Qc XC mc ms free) (cw : vx_CVW R s args own C index y bytes maxL ret hh ws rm mc ms n) (hp : PreV s H C b Pc As)
    (hg : g.method = m) (hn : As.length = n) (hsize : g.locals.size = nL) (hstack : g.stack = As.reverse ++ .ref b :: rest) (hW : 2 * g.monitorRoom + (rest.map fun v => v.category).sum ≤ 8) (hdg : decode cc g.pc = .ok (.invokevirtual index, 3)) (hf : cells + mc ≤ R.cells ∧ slots + ms ≤ R.slots) :
    vx_Run p l e R s m args below meth c H locs cells slots mc ms g rest (Qc (Value.ref b :: As).toArray) XC free := by
  obtain ⟨⟨hrc, hrs, hfr, hlo, hws, hcw⟩, hcode, hini, hy, hlen, hl, hin, hse⟩ := cw
  have hK : vx_Back l R p e below s args y 3 8 (PreOf R mc ms Pc) (PostOf Qc mc ms free) (vx_Post XC mc ms free) := vx_backW (hh := hh) (bytes := bytes) (maxL := maxL) (ret := ret) hM hp.1 hrc hrs hfr hlo hws hcw (fun a' U hW => word_at hW (Or.inl (by first | rfl | simp [Cond.onTables, Cond.keeps, Cond.steady])) hini)
  obtain ⟨hx, hb, hml, ho, -⟩ := S
  obtain ⟨-, ⟨cellB, hcB, hoB, hclB⟩, hPc⟩ := hp
  intro T hT X
  rcases vx_callVX X hx (C := C) (hh := hh) (bytes := bytes) (maxL := maxL) (ret := ret) ho hl hin hse hcode hy hK (by rw [hT]; exact hcB) hoB hclB hg (hsize.trans hml.symm) (argsL := As) (rest := rest) (fun sig h => hn.trans (hlen sig h)) hstack hW (by rw [hb]; exact hdg)
    (fun vm₁ hW₁ => ⟨hf.1, hf.2, hPc (T.setVm vm₁) hT hW₁⟩) with ⟨v, vm₁, ⟨U', l2, c2, s2⟩, hW₁, X', ⟨g', mk, t, L, e1, e2, hq, h1, hL, h2, h3⟩, st⟩ | ⟨q, vm₁, ⟨U', l2, c2, s2⟩, hW₁, X', ⟨g', mk, t, L, E, ce, e1, e2, hq, hce, hcv, hcl, h1, hL, h2, h3⟩, st⟩
  · dsimp only [Pt.U, Pt.locs, Pt.cells, Pt.slots] at X' e1 e2 h1 h2 h3 st
    subst h1; subst h2; subst h3
    exact Or.inl ⟨v, (T.setVm vm₁).calling g' mk (Value.ref b :: As).toArray, t, U', L, hT, X', hL, e1, e2, hq, st⟩
  · dsimp only [Pt.U, Pt.locs, Pt.cells, Pt.slots] at X' e1 e2 h1 h2 h3 st hcl
    subst h1; subst h2; subst h3
    exact Or.inr ⟨q, (T.setVm vm₁).calling g' mk (Value.ref b :: As).toArray, t, U', L, E, ce, hT, X', hL, e1, e2, hq, hce, hcv, vx_cls hW₁ hcl, st⟩
theorem vx_runSX {hh : List (Nat × Nat × Nat × Nat)} (S : CallFix p m c cc nL s args Ts own) (hM : vx_Met l y ws rm Pc Qc XC mc ms free) (cw : vx_CSW R s args own index y bytes maxL ret hh ws rm mc ms n) (hp : PreS s H Pc As)
    (hg : g.method = m) (hn : As.length = n) (hsize : g.locals.size = nL) (hstack : g.stack = As.reverse ++ rest) (hW : 2 * g.monitorRoom + (rest.map fun v => v.category).sum ≤ 8) (hdg : decode cc g.pc = .ok (.invokestatic index, 3)) (hf : cells + mc ≤ R.cells ∧ slots + ms ≤ R.slots) :
    vx_Run p l e R s m args below meth c H locs cells slots mc ms g rest (Qc As.toArray) XC free := by
  obtain ⟨⟨hrc, hrs, hfr, hlo, hws, hcw⟩, hcode, hini, hy, hlen, hl, hstt⟩ := cw
  have hK : vx_Back l R p e below s args y 3 8 (PreOf R mc ms Pc) (PostOf Qc mc ms free) (vx_Post XC mc ms free) := vx_backW (hh := hh) (bytes := bytes) (maxL := maxL) (ret := ret) hM hp.1 hrc hrs hfr hlo hws hcw (fun a' U hW => word_at hW (Or.inl (by first | rfl | simp [Cond.onTables, Cond.keeps, Cond.steady])) hini)
  obtain ⟨hx, hb, hml, ho, -⟩ := S
  intro T hT X
  rcases vx_callSX X hx (hh := hh) (bytes := bytes) (maxL := maxL) (ret := ret) ho hl hstt hini hcode hy hK hg (hsize.trans hml.symm) (argsL := As) (rest := rest) (fun sig h => hn.trans (hlen sig h)) hstack hW (by rw [hb]; exact hdg)
    (fun vm₁ hW₁ => ⟨hf.1, hf.2, hp.2 (T.setVm vm₁) hT hW₁⟩) with ⟨v, vm₁, ⟨U', l2, c2, s2⟩, hW₁, X', ⟨g', mk, t, L, e1, e2, hq, h1, hL, h2, h3⟩, st⟩ | ⟨q, vm₁, ⟨U', l2, c2, s2⟩, hW₁, X', ⟨g', mk, t, L, E, ce, e1, e2, hq, hce, hcv, hcl, h1, hL, h2, h3⟩, st⟩
  · dsimp only [Pt.U, Pt.locs, Pt.cells, Pt.slots] at X' e1 e2 h1 h2 h3 st
    subst h1; subst h2; subst h3
    exact Or.inl ⟨v, (T.setVm vm₁).calling g' mk As.toArray, t, U', L, hT, X', hL, e1, e2, hq, st⟩
  · dsimp only [Pt.U, Pt.locs, Pt.cells, Pt.slots] at X' e1 e2 h1 h2 h3 st hcl
    subst h1; subst h2; subst h3
    exact Or.inr ⟨q, (T.setVm vm₁).calling g' mk As.toArray, t, U', L, E, ce, hT, X', hL, e1, e2, hq, hce, hcv, vx_cls hW₁ hcl, st⟩
end
end VXH
theorem vx_ofWH {l : Launch} {y : MethodName} {ws ws' : List Cond} {rm : Room} {Pc : Array Value → State → Prop} {Qc : Array Value → State → Outcome → State → Prop} {XC : String → State → State → Prop} {mc ms : Nat} {free : Addr → Prop} {cc : ByteArray} {maxL : Nat} {ret : Option FieldType} {hh : List (Nat × Nat × Nat × Nat)}
    (hy : plainName y.cls = true) (hw : ws = Cond.codeWith y cc maxL ret hh :: ws')
    (body : ∀ p e s m args below meth c s₁, BodyLoose p l y (headSpec ws rm) cc maxL ret e s m args below meth c s₁ → c.maxLocals = maxL → Pc args s →
      W p l e (headSpec ws rm).room s m args below meth c s.heap [] 0 0 (vx_MQ below Qc XC args s mc ms free) (entryFrame m args maxL)) : vx_Met l y ws rm Pc Qc XC mc ms free := by
  refine MetFree.of_bodyS (code := cc) (maxLocals := maxL) (ret := ret) hy ?_ ?_
  · intro args s m h hn
    obtain ⟨m9, meth, c, hn9, h1, h2, h3, h4, -, h5, h6, -⟩ := Cond.codeWith_spec (atoms_spec (ws := ws) h _ (by rw [hw]; exact List.mem_cons_self))
    cases hn.symm.trans hn9
    exact ⟨meth, c, h1, h2, h3, h4, h5, h6⟩
  · intro p e s m args below meth c s₁ B hml hP _
    have hh0 : s₁.heap = s.heap := by rw [B.state]; rfl
    obtain ⟨t, a1, o, b1, b2, b3⟩ := body p e s m args below meth c s₁ B hml hP s₁ hh0 (Stand.of_body B)
    exact ⟨t, o, a1, b1, b2, b3⟩
/-! ===== END ===== -/
end
section
def RX0 : String := "SilentLetters$Acts"
def TX0 : u_T := fun k => match k with
  | _ => ("", "", "", false)
def tyX0 : Nat → FieldType := fun k => match k with
  | _ => .int
abbrev wsX00 : List Cond := u_ws RX0 TX0 0
theorem nmX0 : ∀ a, a < 0 → ∀ b, b < 0 → a ≠ b → (TX0 a).2.1 ≠ (TX0 b).2.1 := by decide +kernel
theorem tyX0_ok : ∀ k, k < 0 → parseFieldDescriptor (TX0 k).2.2.1 = some (tyX0 k) := by decide +kernel
abbrev cX0_lengthOf : ByteArray := prog_2_method_2_code
def yX0_lengthOf : MethodName := ⟨RX0, "lengthOf", "(I)I"⟩
abbrev cX0_faultIn : ByteArray := prog_2_method_3_code
def yX0_faultIn : MethodName := ⟨RX0, "faultIn", "(LSilentLetters$Text;)I"⟩
abbrev cX0_canStand : ByteArray := prog_2_method_4_code
def yX0_canStand : MethodName := ⟨RX0, "canStand", "(CIC)Z"⟩
def RX1 : String := "SilentLetters$Book"
def TX1 : u_T := fun k => match k with
  | 0 => ("SilentLetters$Book", "letters", "[[I", true)
  | 1 => ("SilentLetters$Book", "sizes", "[I", true)
  | 2 => ("SilentLetters$Book", "wholeCodes", "[I", true)
  | _ => ("SilentLetters$Book", "size", "I", false)
def tyX1 : Nat → FieldType := fun k => match k with
  | 0 => .array (.array .int)
  | 1 => .array .int
  | 2 => .array .int
  | _ => .int
abbrev wsX10 : List Cond := u_ws RX1 TX1 4
theorem nmX1 : ∀ a, a < 4 → ∀ b, b < 4 → a ≠ b → (TX1 a).2.1 ≠ (TX1 b).2.1 := by decide +kernel
theorem tyX1_ok : ∀ k, k < 4 → parseFieldDescriptor (TX1 k).2.2.1 = some (tyX1 k) := by decide +kernel
abbrev cX1_init : ByteArray := prog_3_method_1_code
def yX1_init : MethodName := ⟨RX1, "<init>", "()V"⟩
abbrev cX1_has : ByteArray := prog_3_method_2_code
def yX1_has : MethodName := ⟨RX1, "has", "(I)Z"⟩
abbrev cX1_hasBoth : ByteArray := prog_3_method_3_code
def yX1_hasBoth : MethodName := ⟨RX1, "hasBoth", "(II)Z"⟩
abbrev cX1_hasSign : ByteArray := prog_3_method_4_code
def yX1_hasSign : MethodName := ⟨RX1, "hasSign", "(II)Z"⟩
abbrev cX1_faultIn : ByteArray := prog_3_method_5_code
def yX1_faultIn : MethodName := ⟨RX1, "faultIn", "(LSilentLetters$Text;)I"⟩
abbrev cX1_takeLines : ByteArray := prog_3_method_6_code
def yX1_takeLines : MethodName := ⟨RX1, "takeLines", "(LSilentLetters$Text;LSilentLetters$State;)I"⟩
abbrev cX1_closeLine : ByteArray := prog_3_method_7_code
def yX1_closeLine : MethodName := ⟨RX1, "closeLine", "()V"⟩
abbrev cX1_letterOf : ByteArray := prog_3_method_8_code
def yX1_letterOf : MethodName := ⟨RX1, "letterOf", "(C)I"⟩
abbrev cX1_isSaid : ByteArray := prog_3_method_9_code
def yX1_isSaid : MethodName := ⟨RX1, "isSaid", "(C)Z"⟩
abbrev cX1_mute : ByteArray := prog_3_method_10_code
def yX1_mute : MethodName := ⟨RX1, "mute", "(LSilentLetters$State;II)I"⟩
abbrev cX1_placesOf : ByteArray := prog_3_method_11_code
def yX1_placesOf : MethodName := ⟨RX1, "placesOf", "(II)I"⟩
abbrev cX1_lettersAt : ByteArray := prog_3_method_12_code
def yX1_lettersAt : MethodName := ⟨RX1, "lettersAt", "(II)I"⟩
abbrev cX1_unsaidLetters : ByteArray := prog_3_method_13_code
def yX1_unsaidLetters : MethodName := ⟨RX1, "unsaidLetters", "(LSilentLetters$State;)I"⟩
abbrev cX1_gone : ByteArray := prog_3_method_14_code
def yX1_gone : MethodName := ⟨RX1, "gone", "(LSilentLetters$State;II)I"⟩
abbrev cX1_bare : ByteArray := prog_3_method_15_code
def yX1_bare : MethodName := ⟨RX1, "bare", "(II)I"⟩
abbrev cX1_spell : ByteArray := prog_3_method_16_code
def yX1_spell : MethodName := ⟨RX1, "spell", "(LSilentLetters$State;II)I"⟩
abbrev cX1_spellAll : ByteArray := prog_3_method_17_code
def yX1_spellAll : MethodName := ⟨RX1, "spellAll", "(LSilentLetters$State;I[I)V"⟩
abbrev cX1_areOne : ByteArray := prog_3_method_18_code
def yX1_areOne : MethodName := ⟨RX1, "areOne", "(LSilentLetters$State;III)Z"⟩
abbrev cX1_areTwins : ByteArray := prog_3_method_19_code
def yX1_areTwins : MethodName := ⟨RX1, "areTwins", "(II)Z"⟩
def RX2 : String := "SilentLetters$Measure"
def TX2 : u_T := fun k => match k with
  | 0 => ("SilentLetters$Measure", "book", "LSilentLetters$Book;", true)
  | 1 => ("SilentLetters$Measure", "first", "[I", true)
  | 2 => ("SilentLetters$Measure", "second", "[I", true)
  | 3 => ("SilentLetters$Measure", "firstSize", "I", false)
  | 4 => ("SilentLetters$Measure", "secondSize", "I", false)
  | 5 => ("SilentLetters$Measure", "table", "[[I", true)
  | 6 => ("SilentLetters$Measure", "near", "[Z", true)
  | _ => ("SilentLetters$Measure", "steps", "[I", true)
def tyX2 : Nat → FieldType := fun k => match k with
  | 0 => .object "SilentLetters$Book"
  | 1 => .array .int
  | 2 => .array .int
  | 3 => .int
  | 4 => .int
  | 5 => .array (.array .int)
  | 6 => .array .boolean
  | _ => .array .int
abbrev wsX20 : List Cond := u_ws RX2 TX2 8
theorem nmX2 : ∀ a, a < 8 → ∀ b, b < 8 → a ≠ b → (TX2 a).2.1 ≠ (TX2 b).2.1 := by decide +kernel
theorem tyX2_ok : ∀ k, k < 8 → parseFieldDescriptor (TX2 k).2.2.1 = some (tyX2 k) := by decide +kernel
abbrev cX2_init : ByteArray := prog_4_method_1_code
def yX2_init : MethodName := ⟨RX2, "<init>", "(LSilentLetters$Book;)V"⟩
abbrev cX2_lay : ByteArray := prog_4_method_2_code
def yX2_lay : MethodName := ⟨RX2, "lay", "(LSilentLetters$State;II[I)I"⟩
abbrev cX2_layBoth : ByteArray := prog_4_method_3_code
def yX2_layBoth : MethodName := ⟨RX2, "layBoth", "(LSilentLetters$State;III)V"⟩
abbrev cX2_edits : ByteArray := prog_4_method_4_code
def yX2_edits : MethodName := ⟨RX2, "edits", "(LSilentLetters$State;III)I"⟩
abbrev cX2_editsAt : ByteArray := prog_4_method_5_code
def yX2_editsAt : MethodName := ⟨RX2, "editsAt", "(II)I"⟩
abbrev cX2_inCommon : ByteArray := prog_4_method_6_code
def yX2_inCommon : MethodName := ⟨RX2, "inCommon", "(LSilentLetters$State;III)I"⟩
abbrev cX2_inCommonAt : ByteArray := prog_4_method_7_code
def yX2_inCommonAt : MethodName := ⟨RX2, "inCommonAt", "(II)I"⟩
abbrev cX2_stepsTo : ByteArray := prog_4_method_8_code
def yX2_stepsTo : MethodName := ⟨RX2, "stepsTo", "(LSilentLetters$State;II)V"⟩
abbrev cX2_markNear : ByteArray := prog_4_method_9_code
def yX2_markNear : MethodName := ⟨RX2, "markNear", "(LSilentLetters$State;I)V"⟩
abbrev cX2_stepFrom : ByteArray := prog_4_method_10_code
def yX2_stepFrom : MethodName := ⟨RX2, "stepFrom", "(II)I"⟩
def RX3 : String := "SilentLetters$Notices"
def TX3 : u_T := fun k => match k with
  | 0 => ("SilentLetters$Notices", "ones", "[I", true)
  | 1 => ("SilentLetters$Notices", "others", "[I", true)
  | 2 => ("SilentLetters$Notices", "were", "[Z", true)
  | _ => ("SilentLetters$Notices", "size", "I", false)
def tyX3 : Nat → FieldType := fun k => match k with
  | 0 => .array .int
  | 1 => .array .int
  | 2 => .array .boolean
  | _ => .int
abbrev wsX30 : List Cond := u_ws RX3 TX3 4
theorem nmX3 : ∀ a, a < 4 → ∀ b, b < 4 → a ≠ b → (TX3 a).2.1 ≠ (TX3 b).2.1 := by decide +kernel
theorem tyX3_ok : ∀ k, k < 4 → parseFieldDescriptor (TX3 k).2.2.1 = some (tyX3 k) := by decide +kernel
abbrev cX3_init : ByteArray := prog_5_method_1_code
def yX3_init : MethodName := ⟨RX3, "<init>", "()V"⟩
abbrev cX3_hasRoom : ByteArray := prog_5_method_2_code
def yX3_hasRoom : MethodName := ⟨RX3, "hasRoom", "()Z"⟩
abbrev cX3_take : ByteArray := prog_5_method_3_code
def yX3_take : MethodName := ⟨RX3, "take", "(III)V"⟩
abbrev cX3_agreeWith : ByteArray := prog_5_method_4_code
def yX3_agreeWith : MethodName := ⟨RX3, "agreeWith", "([I)Z"⟩
def RX4 : String := "SilentLetters$Past"
def TX4 : u_T := fun k => match k with
  | 0 => ("SilentLetters$Past", "states", "[LSilentLetters$State;", true)
  | 1 => ("SilentLetters$Past", "kept", "[LSilentLetters$State;", true)
  | 2 => ("SilentLetters$Past", "isKept", "[Z", true)
  | 3 => ("SilentLetters$Past", "latest", "I", false)
  | _ => ("SilentLetters$Past", "size", "I", false)
def tyX4 : Nat → FieldType := fun k => match k with
  | 0 => .array (.object "SilentLetters$State")
  | 1 => .array (.object "SilentLetters$State")
  | 2 => .array .boolean
  | 3 => .int
  | _ => .int
abbrev wsX40 : List Cond := u_ws RX4 TX4 5
theorem nmX4 : ∀ a, a < 5 → ∀ b, b < 5 → a ≠ b → (TX4 a).2.1 ≠ (TX4 b).2.1 := by decide +kernel
theorem tyX4_ok : ∀ k, k < 5 → parseFieldDescriptor (TX4 k).2.2.1 = some (tyX4 k) := by decide +kernel
abbrev cX4_init : ByteArray := prog_6_method_1_code
def yX4_init : MethodName := ⟨RX4, "<init>", "()V"⟩
abbrev cX4_remember : ByteArray := prog_6_method_2_code
def yX4_remember : MethodName := ⟨RX4, "remember", "(LSilentLetters$State;)V"⟩
abbrev cX4_bringBack : ByteArray := prog_6_method_3_code
def yX4_bringBack : MethodName := ⟨RX4, "bringBack", "(LSilentLetters$State;)Z"⟩
abbrev cX4_keepUnder : ByteArray := prog_6_method_4_code
def yX4_keepUnder : MethodName := ⟨RX4, "keepUnder", "(ILSilentLetters$State;)Z"⟩
abbrev cX4_takeUp : ByteArray := prog_6_method_5_code
def yX4_takeUp : MethodName := ⟨RX4, "takeUp", "(ILSilentLetters$State;)Z"⟩
abbrev cX4_forgetAll : ByteArray := prog_6_method_6_code
def yX4_forgetAll : MethodName := ⟨RX4, "forgetAll", "()V"⟩
def RX5 : String := "SilentLetters$Row"
def TX5 : u_T := fun k => match k with
  | 0 => ("SilentLetters$Row", "numbers", "[J", true)
  | _ => ("SilentLetters$Row", "size", "I", false)
def tyX5 : Nat → FieldType := fun k => match k with
  | 0 => .array .long
  | _ => .int
abbrev wsX50 : List Cond := u_ws RX5 TX5 2
theorem nmX5 : ∀ a, a < 2 → ∀ b, b < 2 → a ≠ b → (TX5 a).2.1 ≠ (TX5 b).2.1 := by decide +kernel
theorem tyX5_ok : ∀ k, k < 2 → parseFieldDescriptor (TX5 k).2.2.1 = some (tyX5 k) := by decide +kernel
abbrev cX5_init : ByteArray := prog_7_method_1_code
def yX5_init : MethodName := ⟨RX5, "<init>", "()V"⟩
abbrev cX5_tell : ByteArray := prog_7_method_2_code
def yX5_tell : MethodName := ⟨RX5, "tell", "(J)V"⟩
abbrev cX5_tellTwo : ByteArray := prog_7_method_3_code
def yX5_tellTwo : MethodName := ⟨RX5, "tellTwo", "(JJ)V"⟩
abbrev cX5_tellFraction : ByteArray := prog_7_method_4_code
def yX5_tellFraction : MethodName := ⟨RX5, "tellFraction", "(JJ)V"⟩
def RX6 : String := "SilentLetters$Rule"
def TX6 : u_T := fun k => match k with
  | 0 => ("SilentLetters$Rule", "code", "[I", true)
  | 1 => ("SilentLetters$Rule", "size", "I", false)
  | 2 => ("SilentLetters$Rule", "stack", "[I", true)
  | 3 => ("SilentLetters$Rule", "top", "I", false)
  | 4 => ("SilentLetters$Rule", "compared", "[Z", true)
  | 5 => ("SilentLetters$Rule", "depth", "I", false)
  | 6 => ("SilentLetters$Rule", "digits", "I", false)
  | _ => ("SilentLetters$Rule", "wantsThing", "Z", false)
def tyX6 : Nat → FieldType := fun k => match k with
  | 0 => .array .int
  | 1 => .int
  | 2 => .array .int
  | 3 => .int
  | 4 => .array .boolean
  | 5 => .int
  | 6 => .int
  | _ => .boolean
abbrev wsX60 : List Cond := u_ws RX6 TX6 8
theorem nmX6 : ∀ a, a < 8 → ∀ b, b < 8 → a ≠ b → (TX6 a).2.1 ≠ (TX6 b).2.1 := by decide +kernel
theorem tyX6_ok : ∀ k, k < 8 → parseFieldDescriptor (TX6 k).2.2.1 = some (tyX6 k) := by decide +kernel
abbrev cX6_init : ByteArray := prog_8_method_1_code
def yX6_init : MethodName := ⟨RX6, "<init>", "()V"⟩
abbrev cX6_bePlain : ByteArray := prog_8_method_2_code
def yX6_bePlain : MethodName := ⟨RX6, "bePlain", "()V"⟩
abbrev cX6_copy : ByteArray := prog_8_method_3_code
def yX6_copy : MethodName := ⟨RX6, "copy", "(LSilentLetters$Rule;)V"⟩
abbrev cX6_read : ByteArray := prog_8_method_4_code
def yX6_read : MethodName := ⟨RX6, "read", "(LSilentLetters$Text;)I"⟩
abbrev cX6_begin : ByteArray := prog_8_method_5_code
def yX6_begin : MethodName := ⟨RX6, "begin", "()V"⟩
abbrev cX6_accepts : ByteArray := prog_8_method_6_code
def yX6_accepts : MethodName := ⟨RX6, "accepts", "(C)Z"⟩
abbrev cX6_acceptsDigit : ByteArray := prog_8_method_7_code
def yX6_acceptsDigit : MethodName := ⟨RX6, "acceptsDigit", "(I)Z"⟩
abbrev cX6_opens : ByteArray := prog_8_method_8_code
def yX6_opens : MethodName := ⟨RX6, "opens", "()Z"⟩
abbrev cX6_closes : ByteArray := prog_8_method_9_code
def yX6_closes : MethodName := ⟨RX6, "closes", "()Z"⟩
abbrev cX6_acceptsBetween : ByteArray := prog_8_method_10_code
def yX6_acceptsBetween : MethodName := ⟨RX6, "acceptsBetween", "(C)Z"⟩
abbrev cX6_moveDownTo : ByteArray := prog_8_method_11_code
def yX6_moveDownTo : MethodName := ⟨RX6, "moveDownTo", "(I)V"⟩
abbrev cX6_rankOf : ByteArray := prog_8_method_12_code
def yX6_rankOf : MethodName := ⟨RX6, "rankOf", "(I)I"⟩
abbrev cX6_emit : ByteArray := prog_8_method_13_code
def yX6_emit : MethodName := ⟨RX6, "emit", "(I)V"⟩
abbrev cX6_push : ByteArray := prog_8_method_14_code
def yX6_push : MethodName := ⟨RX6, "push", "(I)V"⟩
abbrev cX6_pop : ByteArray := prog_8_method_15_code
def yX6_pop : MethodName := ⟨RX6, "pop", "()I"⟩
abbrev cX6_workOut : ByteArray := prog_8_method_16_code
def yX6_workOut : MethodName := ⟨RX6, "workOut", "([I)I"⟩
abbrev cX6_between : ByteArray := prog_8_method_17_code
def yX6_between : MethodName := ⟨RX6, "between", "(III)I"⟩
def RX7 : String := "SilentLetters$State"
def TX7 : u_T := fun k => match k with
  | 0 => ("SilentLetters$State", "unsaid", "[I", true)
  | 1 => ("SilentLetters$State", "moods", "[I", true)
  | 2 => ("SilentLetters$State", "offers", "[I", true)
  | 3 => ("SilentLetters$State", "strike", "I", false)
  | 4 => ("SilentLetters$State", "day", "I", false)
  | _ => ("SilentLetters$State", "falls", "I", false)
def tyX7 : Nat → FieldType := fun k => match k with
  | 0 => .array .int
  | 1 => .array .int
  | 2 => .array .int
  | 3 => .int
  | 4 => .int
  | _ => .int
abbrev wsX70 : List Cond := u_ws RX7 TX7 6
theorem nmX7 : ∀ a, a < 6 → ∀ b, b < 6 → a ≠ b → (TX7 a).2.1 ≠ (TX7 b).2.1 := by decide +kernel
theorem tyX7_ok : ∀ k, k < 6 → parseFieldDescriptor (TX7 k).2.2.1 = some (tyX7 k) := by decide +kernel
abbrev cX7_init : ByteArray := prog_9_method_1_code
def yX7_init : MethodName := ⟨RX7, "<init>", "()V"⟩
abbrev cX7_copy : ByteArray := prog_9_method_2_code
def yX7_copy : MethodName := ⟨RX7, "copy", "(LSilentLetters$State;)V"⟩
abbrev cX7_moodsTogether : ByteArray := prog_9_method_3_code
def yX7_moodsTogether : MethodName := ⟨RX7, "moodsTogether", "()I"⟩
abbrev cX7_putOffer : ByteArray := prog_9_method_4_code
def yX7_putOffer : MethodName := ⟨RX7, "putOffer", "(II)I"⟩
abbrev cX7_stir : ByteArray := prog_9_method_5_code
def yX7_stir : MethodName := ⟨RX7, "stir", "(II)I"⟩
def RX8 : String := "SilentLetters$Text"
def TX8 : u_T := fun k => match k with
  | 0 => ("SilentLetters$Text", "signs", "[C", true)
  | _ => ("SilentLetters$Text", "size", "I", false)
def tyX8 : Nat → FieldType := fun k => match k with
  | 0 => .array .char
  | _ => .int
abbrev wsX80 : List Cond := u_ws RX8 TX8 2
theorem nmX8 : ∀ a, a < 2 → ∀ b, b < 2 → a ≠ b → (TX8 a).2.1 ≠ (TX8 b).2.1 := by decide +kernel
theorem tyX8_ok : ∀ k, k < 2 → parseFieldDescriptor (TX8 k).2.2.1 = some (tyX8 k) := by decide +kernel
abbrev cX8_init : ByteArray := prog_10_method_1_code
def yX8_init : MethodName := ⟨RX8, "<init>", "()V"⟩
abbrev cX8_signAt : ByteArray := prog_10_method_2_code
def yX8_signAt : MethodName := ⟨RX8, "signAt", "(I)C"⟩
abbrev cX8_takeFour : ByteArray := prog_10_method_3_code
def yX8_takeFour : MethodName := ⟨RX8, "takeFour", "(I)Z"⟩
def RX9 : String := "SilentLetters$Union"
def TX9 : u_T := fun k => match k with
  | 0 => ("SilentLetters$Union", "book", "LSilentLetters$Book;", true)
  | 1 => ("SilentLetters$Union", "codes", "[I", true)
  | 2 => ("SilentLetters$Union", "things", "[I", true)
  | 3 => ("SilentLetters$Union", "unsaid", "[I", true)
  | 4 => ("SilentLetters$Union", "said", "[I", true)
  | 5 => ("SilentLetters$Union", "fell", "I", false)
  | _ => ("SilentLetters$Union", "struckDays", "I", false)
def tyX9 : Nat → FieldType := fun k => match k with
  | 0 => .object "SilentLetters$Book"
  | 1 => .array .int
  | 2 => .array .int
  | 3 => .array .int
  | 4 => .array .int
  | 5 => .int
  | _ => .int
abbrev wsX90 : List Cond := u_ws RX9 TX9 7
theorem nmX9 : ∀ a, a < 7 → ∀ b, b < 7 → a ≠ b → (TX9 a).2.1 ≠ (TX9 b).2.1 := by decide +kernel
theorem tyX9_ok : ∀ k, k < 7 → parseFieldDescriptor (TX9 k).2.2.1 = some (tyX9 k) := by decide +kernel
abbrev cX9_init : ByteArray := prog_11_method_1_code
def yX9_init : MethodName := ⟨RX9, "<init>", "(LSilentLetters$Book;)V"⟩
abbrev cX9_tally : ByteArray := prog_11_method_2_code
def yX9_tally : MethodName := ⟨RX9, "tally", "(LSilentLetters$State;)V"⟩
abbrev cX9_grudge : ByteArray := prog_11_method_3_code
def yX9_grudge : MethodName := ⟨RX9, "grudge", "(LSilentLetters$Rule;LSilentLetters$State;II)I"⟩
abbrev cX9_priceOf : ByteArray := prog_11_method_4_code
def yX9_priceOf : MethodName := ⟨RX9, "priceOf", "(LSilentLetters$Rule;LSilentLetters$State;I)I"⟩
abbrev cX9_strikers : ByteArray := prog_11_method_5_code
def yX9_strikers : MethodName := ⟨RX9, "strikers", "(LSilentLetters$Rule;LSilentLetters$State;)I"⟩
abbrev cX9_passDays : ByteArray := prog_11_method_6_code
def yX9_passDays : MethodName := ⟨RX9, "passDays", "(LSilentLetters$Rule;LSilentLetters$State;I)V"⟩
abbrev cX9_passDay : ByteArray := prog_11_method_7_code
def yX9_passDay : MethodName := ⟨RX9, "passDay", "(LSilentLetters$Rule;LSilentLetters$State;)I"⟩
abbrev cX9_pairsThatFall : ByteArray := prog_11_method_8_code
def yX9_pairsThatFall : MethodName := ⟨RX9, "pairsThatFall", "()I"⟩
def RX10 : String := "SilentLetters"
def TX10 : u_T := fun k => match k with
  | 0 => ("SilentLetters", "text", "LSilentLetters$Text;", true)
  | 1 => ("SilentLetters", "told", "LSilentLetters$Row;", true)
  | 2 => ("SilentLetters", "book", "LSilentLetters$Book;", true)
  | 3 => ("SilentLetters", "now", "LSilentLetters$State;", true)
  | 4 => ("SilentLetters", "trial", "LSilentLetters$State;", true)
  | 5 => ("SilentLetters", "past", "LSilentLetters$Past;", true)
  | 6 => ("SilentLetters", "inForce", "LSilentLetters$Rule;", true)
  | 7 => ("SilentLetters", "proposed", "LSilentLetters$Rule;", true)
  | 8 => ("SilentLetters", "union", "LSilentLetters$Union;", true)
  | 9 => ("SilentLetters", "measure", "LSilentLetters$Measure;", true)
  | 10 => ("SilentLetters", "notices", "LSilentLetters$Notices;", true)
  | 11 => ("SilentLetters", "codes", "[I", true)
  | 12 => ("SilentLetters", "pairs", "[I", true)
  | 13 => ("SilentLetters", "perLetter", "[I", true)
  | 14 => ("SilentLetters", "places", "[I", true)
  | 15 => ("SilentLetters", "bareCodes", "[I", true)
  | 16 => ("SilentLetters", "otherCodes", "[I", true)
  | _ => ("SilentLetters", "drawn", "I", false)
def tyX10 : Nat → FieldType := fun k => match k with
  | 0 => .object "SilentLetters$Text"
  | 1 => .object "SilentLetters$Row"
  | 2 => .object "SilentLetters$Book"
  | 3 => .object "SilentLetters$State"
  | 4 => .object "SilentLetters$State"
  | 5 => .object "SilentLetters$Past"
  | 6 => .object "SilentLetters$Rule"
  | 7 => .object "SilentLetters$Rule"
  | 8 => .object "SilentLetters$Union"
  | 9 => .object "SilentLetters$Measure"
  | 10 => .object "SilentLetters$Notices"
  | 11 => .array .int
  | 12 => .array .int
  | 13 => .array .int
  | 14 => .array .int
  | 15 => .array .int
  | 16 => .array .int
  | _ => .int
abbrev wsX100 : List Cond := u_ws RX10 TX10 18
theorem nmX10 : ∀ a, a < 18 → ∀ b, b < 18 → a ≠ b → (TX10 a).2.1 ≠ (TX10 b).2.1 := by decide +kernel
theorem tyX10_ok : ∀ k, k < 18 → parseFieldDescriptor (TX10 k).2.2.1 = some (tyX10 k) := by decide +kernel
abbrev cX10_init : ByteArray := prog_1_method_1_code
def yX10_init : MethodName := ⟨RX10, "<init>", "()V"⟩
abbrev cX10_sign : ByteArray := prog_1_method_2_code
def yX10_sign : MethodName := ⟨RX10, "sign", "(I)I"⟩
abbrev cX10_end : ByteArray := prog_1_method_3_code
def yX10_end : MethodName := ⟨RX10, "end", "(I)Z"⟩
abbrev cX10_words : ByteArray := prog_1_method_4_code
def yX10_words : MethodName := ⟨RX10, "words", "()I"⟩
abbrev cX10_rule : ByteArray := prog_1_method_5_code
def yX10_rule : MethodName := ⟨RX10, "rule", "()I"⟩
abbrev cX10_word : ByteArray := prog_1_method_6_code
def yX10_word : MethodName := ⟨RX10, "word", "(II)I"⟩
abbrev cX10_at : ByteArray := prog_1_method_7_code
def yX10_at : MethodName := ⟨RX10, "at", "(II)I"⟩
abbrev cX10_letter : ByteArray := prog_1_method_8_code
def yX10_letter : MethodName := ⟨RX10, "letter", "(II)I"⟩
abbrev cX10_sheet : ByteArray := prog_1_method_9_code
def yX10_sheet : MethodName := ⟨RX10, "sheet", "(IIII)I"⟩
abbrev cX10_days : ByteArray := prog_1_method_10_code
def yX10_days : MethodName := ⟨RX10, "days", "(I)I"⟩
abbrev cX10_offer : ByteArray := prog_1_method_11_code
def yX10_offer : MethodName := ⟨RX10, "offer", "(II)I"⟩
abbrev cX10_stirs : ByteArray := prog_1_method_12_code
def yX10_stirs : MethodName := ⟨RX10, "stirs", "(II)I"⟩
abbrev cX10_mutes : ByteArray := prog_1_method_13_code
def yX10_mutes : MethodName := ⟨RX10, "mutes", "(II)I"⟩
abbrev cX10_year : ByteArray := prog_1_method_14_code
def yX10_year : MethodName := ⟨RX10, "year", "()I"⟩
abbrev cX10_undo : ByteArray := prog_1_method_15_code
def yX10_undo : MethodName := ⟨RX10, "undo", "()I"⟩
abbrev cX10_looks : ByteArray := prog_1_method_16_code
def yX10_looks : MethodName := ⟨RX10, "looks", "(II)I"⟩
abbrev cX10_kinds : ByteArray := prog_1_method_17_code
def yX10_kinds : MethodName := ⟨RX10, "kinds", "(I)I"⟩
abbrev cX10_apart : ByteArray := prog_1_method_18_code
def yX10_apart : MethodName := ⟨RX10, "apart", "(II)I"⟩
abbrev cX10_chain : ByteArray := prog_1_method_19_code
def yX10_chain : MethodName := ⟨RX10, "chain", "(III)I"⟩
abbrev cX10_ahead : ByteArray := prog_1_method_20_code
def yX10_ahead : MethodName := ⟨RX10, "ahead", "(I)I"⟩
abbrev cX10_falls : ByteArray := prog_1_method_21_code
def yX10_falls : MethodName := ⟨RX10, "falls", "()I"⟩
abbrev cX10_when : ByteArray := prog_1_method_22_code
def yX10_when : MethodName := ⟨RX10, "when", "(I)I"⟩
abbrev cX10_shared : ByteArray := prog_1_method_23_code
def yX10_shared : MethodName := ⟨RX10, "shared", "(II)I"⟩
abbrev cX10_crossest : ByteArray := prog_1_method_24_code
def yX10_crossest : MethodName := ⟨RX10, "crossest", "()I"⟩
abbrev cX10_must : ByteArray := prog_1_method_25_code
def yX10_must : MethodName := ⟨RX10, "must", "(I)I"⟩
abbrev cX10_most : ByteArray := prog_1_method_26_code
def yX10_most : MethodName := ⟨RX10, "most", "()I"⟩
abbrev cX10_joins : ByteArray := prog_1_method_27_code
def yX10_joins : MethodName := ⟨RX10, "joins", "(II)I"⟩
abbrev cX10_safe : ByteArray := prog_1_method_28_code
def yX10_safe : MethodName := ⟨RX10, "safe", "()I"⟩
abbrev cX10_parts : ByteArray := prog_1_method_29_code
def yX10_parts : MethodName := ⟨RX10, "parts", "(II)I"⟩
abbrev cX10_noticed : ByteArray := prog_1_method_30_code
def yX10_noticed : MethodName := ⟨RX10, "noticed", "(III)I"⟩
abbrev cX10_forget : ByteArray := prog_1_method_31_code
def yX10_forget : MethodName := ⟨RX10, "forget", "()I"⟩
abbrev cX10_fits : ByteArray := prog_1_method_32_code
def yX10_fits : MethodName := ⟨RX10, "fits", "()I"⟩
abbrev cX10_next : ByteArray := prog_1_method_33_code
def yX10_next : MethodName := ⟨RX10, "next", "()I"⟩
abbrev cX10_calms : ByteArray := prog_1_method_34_code
def yX10_calms : MethodName := ⟨RX10, "calms", "()I"⟩
abbrev cX10_buys : ByteArray := prog_1_method_35_code
def yX10_buys : MethodName := ⟨RX10, "buys", "(I)I"⟩
abbrev cX10_power : ByteArray := prog_1_method_36_code
def yX10_power : MethodName := ⟨RX10, "power", "(I)I"⟩
abbrev cX10_misread : ByteArray := prog_1_method_37_code
def yX10_misread : MethodName := ⟨RX10, "misread", "(III)I"⟩
abbrev cX10_game : ByteArray := prog_1_method_38_code
def yX10_game : MethodName := ⟨RX10, "game", "(III)I"⟩
abbrev cX10_law : ByteArray := prog_1_method_39_code
def yX10_law : MethodName := ⟨RX10, "law", "()I"⟩
abbrev cX10_rests : ByteArray := prog_1_method_40_code
def yX10_rests : MethodName := ⟨RX10, "rests", "(I)I"⟩
abbrev cX10_years : ByteArray := prog_1_method_41_code
def yX10_years : MethodName := ⟨RX10, "years", "(II)I"⟩
abbrev cX10_keep : ByteArray := prog_1_method_42_code
def yX10_keep : MethodName := ⟨RX10, "keep", "(I)Z"⟩
abbrev cX10_again : ByteArray := prog_1_method_43_code
def yX10_again : MethodName := ⟨RX10, "again", "(I)Z"⟩
abbrev cX10_count : ByteArray := prog_1_method_44_code
def yX10_count : MethodName := ⟨RX10, "count", "(I)I"⟩
abbrev cX10_row : ByteArray := prog_1_method_45_code
def yX10_row : MethodName := ⟨RX10, "row", "(I)J"⟩
abbrev cX10_isLetter : ByteArray := prog_1_method_46_code
def yX10_isLetter : MethodName := ⟨RX10, "isLetter", "(I)Z"⟩
abbrev cX10_isSet : ByteArray := prog_1_method_47_code
def yX10_isSet : MethodName := ⟨RX10, "isSet", "(I)Z"⟩
abbrev cX10_cutTo : ByteArray := prog_1_method_48_code
def yX10_cutTo : MethodName := ⟨RX10, "cutTo", "(II)I"⟩
abbrev cX10_sum : ByteArray := prog_1_method_49_code
def yX10_sum : MethodName := ⟨RX10, "sum", "([I)I"⟩
abbrev cX10_rememberIfDone : ByteArray := prog_1_method_50_code
def yX10_rememberIfDone : MethodName := ⟨RX10, "rememberIfDone", "(I)I"⟩
abbrev cX10_doAct : ByteArray := prog_1_method_51_code
def yX10_doAct : MethodName := ⟨RX10, "doAct", "(I)I"⟩
abbrev cX10_draw : ByteArray := prog_1_method_52_code
def yX10_draw : MethodName := ⟨RX10, "draw", "(I)I"⟩
abbrev cX10_oneWith : ByteArray := prog_1_method_53_code
def yX10_oneWith : MethodName := ⟨RX10, "oneWith", "(I)I"⟩
abbrev cX10_firstLike : ByteArray := prog_1_method_54_code
def yX10_firstLike : MethodName := ⟨RX10, "firstLike", "(I)I"⟩
abbrev cX10_tellFirstFallen : ByteArray := prog_1_method_55_code
def yX10_tellFirstFallen : MethodName := ⟨RX10, "tellFirstFallen", "()V"⟩
abbrev cX10_tellSet : ByteArray := prog_1_method_56_code
def yX10_tellSet : MethodName := ⟨RX10, "tellSet", "(I)I"⟩
abbrev cX10_tellsApart : ByteArray := prog_1_method_57_code
def yX10_tellsApart : MethodName := ⟨RX10, "tellsApart", "(II)Z"⟩
abbrev cX10_countPairsThatAreOne : ByteArray := prog_1_method_58_code
def yX10_countPairsThatAreOne : MethodName := ⟨RX10, "countPairsThatAreOne", "(I)V"⟩
abbrev cX10_neverMeet : ByteArray := prog_1_method_59_code
def yX10_neverMeet : MethodName := ⟨RX10, "neverMeet", "(I)Z"⟩
abbrev cX10_neverTaken : ByteArray := prog_1_method_60_code
def yX10_neverTaken : MethodName := ⟨RX10, "neverTaken", "(I)Z"⟩
abbrev cX10_agrees : ByteArray := prog_1_method_61_code
def yX10_agrees : MethodName := ⟨RX10, "agrees", "(I)Z"⟩
abbrev cX10_tellBestLook : ByteArray := prog_1_method_62_code
def yX10_tellBestLook : MethodName := ⟨RX10, "tellBestLook", "(I)I"⟩
abbrev cX10_priceStrikers : ByteArray := prog_1_method_63_code
def yX10_priceStrikers : MethodName := ⟨RX10, "priceStrikers", "()I"⟩
abbrev cX10_sumOver : ByteArray := prog_1_method_64_code
def yX10_sumOver : MethodName := ⟨RX10, "sumOver", "(I)I"⟩
abbrev cX10_setsTurnedBy : ByteArray := prog_1_method_65_code
def yX10_setsTurnedBy : MethodName := ⟨RX10, "setsTurnedBy", "(I)I"⟩
abbrev cX10_raised : ByteArray := prog_1_method_66_code
def yX10_raised : MethodName := ⟨RX10, "raised", "(JI)J"⟩
abbrev cX10_chanceOf : ByteArray := prog_1_method_67_code
def yX10_chanceOf : MethodName := ⟨RX10, "chanceOf", "(II)J"⟩
abbrev cX10_winningTake : ByteArray := prog_1_method_68_code
def yX10_winningTake : MethodName := ⟨RX10, "winningTake", "(IIJ)I"⟩
abbrev cX10_gainOf : ByteArray := prog_1_method_69_code
def yX10_gainOf : MethodName := ⟨RX10, "gainOf", "(III)I"⟩
abbrev cX10_isBest : ByteArray := prog_1_method_70_code
def yX10_isBest : MethodName := ⟨RX10, "isBest", "(III)Z"⟩
def RX11 : String := "SilentLettersModel"
def TX11 : u_T := fun k => match k with
  | 0 => ("SilentLettersModel", "thrown", "I", false)
  | 1 => ("SilentLettersModel", "told", "I", false)
  | 2 => ("SilentLettersModel", "row", "[J", true)
  | 3 => ("SilentLettersModel", "words", "I", false)
  | 4 => ("SilentLettersModel", "changes", "I", false)
  | 5 => ("SilentLettersModel", "letterOf", "[I", true)
  | 6 => ("SilentLettersModel", "longOf", "[I", true)
  | 7 => ("SilentLettersModel", "now", "[I", true)
  | 8 => ("SilentLettersModel", "then", "[I", true)
  | 9 => ("SilentLettersModel", "tape", "[I", true)
  | 10 => ("SilentLettersModel", "taped", "I", false)
  | 11 => ("SilentLettersModel", "spot", "I", false)
  | 12 => ("SilentLettersModel", "to", "I", false)
  | 13 => ("SilentLettersModel", "nest", "I", false)
  | 14 => ("SilentLettersModel", "readLetter", "[I", true)
  | 15 => ("SilentLettersModel", "readLong", "[I", true)
  | 16 => ("SilentLettersModel", "readUnsaid", "[I", true)
  | 17 => ("SilentLettersModel", "readMany", "I", false)
  | 18 => ("SilentLettersModel", "code", "[I", true)
  | 19 => ("SilentLettersModel", "readCode", "[I", true)
  | 20 => ("SilentLettersModel", "codeLong", "I", false)
  | 21 => ("SilentLettersModel", "codesRead", "I", false)
  | 22 => ("SilentLettersModel", "stack", "[I", true)
  | 23 => ("SilentLettersModel", "asked", "[I", true)
  | 24 => ("SilentLettersModel", "one", "[I", true)
  | 25 => ("SilentLettersModel", "other", "[I", true)
  | 26 => ("SilentLettersModel", "undos", "I", false)
  | 27 => ("SilentLettersModel", "undone", "[I", true)
  | 28 => ("SilentLettersModel", "actSign", "[I", true)
  | 29 => ("SilentLettersModel", "actOne", "[I", true)
  | 30 => ("SilentLettersModel", "actTwo", "[I", true)
  | 31 => ("SilentLettersModel", "acts", "I", false)
  | 32 => ("SilentLettersModel", "grid", "[I", true)
  | 33 => ("SilentLettersModel", "steps", "[I", true)
  | 34 => ("SilentLettersModel", ("uns" ++ "afe"), "[I", true)
  | 35 => ("SilentLettersModel", "noticeMany", "I", false)
  | 36 => ("SilentLettersModel", "noticeOne", "[I", true)
  | 37 => ("SilentLettersModel", "noticeOther", "[I", true)
  | 38 => ("SilentLettersModel", "noticeIs", "[I", true)
  | 39 => ("SilentLettersModel", "isOpen", "[Z", true)
  | 40 => ("SilentLettersModel", "costs", "[I", true)
  | 41 => ("SilentLettersModel", "votes", "[I", true)
  | 42 => ("SilentLettersModel", "officeWins", "[Z", true)
  | 43 => ("SilentLettersModel", "unionWins", "[Z", true)
  | 44 => ("SilentLettersModel", "wasCode", "[I", true)
  | 45 => ("SilentLettersModel", "random", "I", false)
  | 46 => ("SilentLettersModel", "isKept", "[Z", true)
  | 47 => ("SilentLettersModel", "keptChanges", "[I", true)
  | _ => ("SilentLettersModel", "kept", "[I", true)
def tyX11 : Nat → FieldType := fun k => match k with
  | 0 => .int
  | 1 => .int
  | 2 => .array .long
  | 3 => .int
  | 4 => .int
  | 5 => .array .int
  | 6 => .array .int
  | 7 => .array .int
  | 8 => .array .int
  | 9 => .array .int
  | 10 => .int
  | 11 => .int
  | 12 => .int
  | 13 => .int
  | 14 => .array .int
  | 15 => .array .int
  | 16 => .array .int
  | 17 => .int
  | 18 => .array .int
  | 19 => .array .int
  | 20 => .int
  | 21 => .int
  | 22 => .array .int
  | 23 => .array .int
  | 24 => .array .int
  | 25 => .array .int
  | 26 => .int
  | 27 => .array .int
  | 28 => .array .int
  | 29 => .array .int
  | 30 => .array .int
  | 31 => .int
  | 32 => .array .int
  | 33 => .array .int
  | 34 => .array .int
  | 35 => .int
  | 36 => .array .int
  | 37 => .array .int
  | 38 => .array .int
  | 39 => .array .boolean
  | 40 => .array .int
  | 41 => .array .int
  | 42 => .array .boolean
  | 43 => .array .boolean
  | 44 => .array .int
  | 45 => .int
  | 46 => .array .boolean
  | 47 => .array .int
  | _ => .array .int
abbrev wsX110 : List Cond := u_ws RX11 TX11 49
theorem nmX11 : ∀ a, a < 49 → ∀ b, b < 49 → a ≠ b → (TX11 a).2.1 ≠ (TX11 b).2.1 := by decide +kernel
theorem tyX11_ok : ∀ k, k < 49 → parseFieldDescriptor (TX11 k).2.2.1 = some (tyX11 k) := by decide +kernel
abbrev cX11_thrown : ByteArray := prog_13_method_1_code
def yX11_thrown : MethodName := ⟨RX11, "thrown", "()I"⟩
abbrev cX11_refuse : ByteArray := prog_13_method_2_code
def yX11_refuse : MethodName := ⟨RX11, "refuse", "()I"⟩
abbrev cX11_in : ByteArray := prog_13_method_3_code
def yX11_in : MethodName := ⟨RX11, "in", "(JJJ)Z"⟩
abbrev cX11_has : ByteArray := prog_13_method_4_code
def yX11_has : MethodName := ⟨RX11, "has", "(II)Z"⟩
abbrev cX11_flag : ByteArray := prog_13_method_5_code
def yX11_flag : MethodName := ⟨RX11, "flag", "(Z)I"⟩
abbrev cX11_common : ByteArray := prog_13_method_6_code
def yX11_common : MethodName := ⟨RX11, "common", "(JJ)J"⟩
abbrev cX11_enters : ByteArray := prog_13_method_7_code
def yX11_enters : MethodName := ⟨RX11, "enters", "(J)V"⟩
abbrev cX11_tellsFraction : ByteArray := prog_13_method_8_code
def yX11_tellsFraction : MethodName := ⟨RX11, "tellsFraction", "(JJ)V"⟩
abbrev cX11_init : ByteArray := prog_13_method_9_code
def yX11_init : MethodName := ⟨RX11, "<init>", "()V"⟩
abbrev cX11_isWord : ByteArray := prog_13_method_10_code
def yX11_isWord : MethodName := ⟨RX11, "isWord", "(I)Z"⟩
abbrev cX11_arePair : ByteArray := prog_13_method_11_code
def yX11_arePair : MethodName := ⟨RX11, "arePair", "(II)Z"⟩
abbrev cX11_isLetter : ByteArray := prog_13_method_12_code
def yX11_isLetter : MethodName := ⟨RX11, "isLetter", "(I)Z"⟩
abbrev cX11_signsOf : ByteArray := prog_13_method_13_code
def yX11_signsOf : MethodName := ⟨RX11, "signsOf", "([IIZ)I"⟩
abbrev cX11_unsaid : ByteArray := prog_13_method_14_code
def yX11_unsaid : MethodName := ⟨RX11, "unsaid", "([I)I"⟩
abbrev cX11_sumOf : ByteArray := prog_13_method_15_code
def yX11_sumOf : MethodName := ⟨RX11, "sumOf", "([II)I"⟩
abbrev cX11_sign : ByteArray := prog_13_method_16_code
def yX11_sign : MethodName := ⟨RX11, "sign", "(I)I"⟩
abbrev cX11_end : ByteArray := prog_13_method_17_code
def yX11_end : MethodName := ⟨RX11, "end", "(I)Z"⟩
abbrev cX11_begins : ByteArray := prog_13_method_18_code
def yX11_begins : MethodName := ⟨RX11, "begins", "(I)I"⟩
abbrev cX11_takes : ByteArray := prog_13_method_19_code
def yX11_takes : MethodName := ⟨RX11, "takes", "(I)Z"⟩
abbrev cX11_isDigit : ByteArray := prog_13_method_20_code
def yX11_isDigit : MethodName := ⟨RX11, "isDigit", "()Z"⟩
abbrev cX11_takesOf : ByteArray := prog_13_method_21_code
def yX11_takesOf : MethodName := ⟨RX11, "takesOf", "(Ljava/lang/String;)I"⟩
abbrev cX11_number : ByteArray := prog_13_method_22_code
def yX11_number : MethodName := ⟨RX11, "number", "(I)I"⟩
abbrev cX11_digitIn : ByteArray := prog_13_method_23_code
def yX11_digitIn : MethodName := ⟨RX11, "digitIn", "(II)I"⟩
abbrev cX11_faultOf : ByteArray := prog_13_method_24_code
def yX11_faultOf : MethodName := ⟨RX11, "faultOf", "(IIZ)I"⟩
abbrev cX11_readsWord : ByteArray := prog_13_method_25_code
def yX11_readsWord : MethodName := ⟨RX11, "readsWord", "()Z"⟩
abbrev cX11_words : ByteArray := prog_13_method_26_code
def yX11_words : MethodName := ⟨RX11, "words", "()I"⟩
abbrev cX11_codes : ByteArray := prog_13_method_27_code
def yX11_codes : MethodName := ⟨RX11, "codes", "(I)V"⟩
abbrev cX11_readsThing : ByteArray := prog_13_method_28_code
def yX11_readsThing : MethodName := ⟨RX11, "readsThing", "()Z"⟩
abbrev cX11_readsRank : ByteArray := prog_13_method_29_code
def yX11_readsRank : MethodName := ⟨RX11, "readsRank", "(I)Z"⟩
abbrev cX11_readsRule : ByteArray := prog_13_method_30_code
def yX11_readsRule : MethodName := ⟨RX11, "readsRule", "()I"⟩
abbrev cX11_laysCode : ByteArray := prog_13_method_31_code
def yX11_laysCode : MethodName := ⟨RX11, "laysCode", "([II)V"⟩
abbrev cX11_rule : ByteArray := prog_13_method_32_code
def yX11_rule : MethodName := ⟨RX11, "rule", "()I"⟩
abbrev cX11_worked : ByteArray := prog_13_method_33_code
def yX11_worked : MethodName := ⟨RX11, "worked", "(III)I"⟩
abbrev cX11_ruled : ByteArray := prog_13_method_34_code
def yX11_ruled : MethodName := ⟨RX11, "ruled", "()I"⟩
abbrev cX11_grudgeAt : ByteArray := prog_13_method_35_code
def yX11_grudgeAt : MethodName := ⟨RX11, "grudgeAt", "([III)I"⟩
abbrev cX11_grudge : ByteArray := prog_13_method_36_code
def yX11_grudge : MethodName := ⟨RX11, "grudge", "([II)I"⟩
abbrev cX11_lays : ByteArray := prog_13_method_37_code
def yX11_lays : MethodName := ⟨RX11, "lays", "([IIII)I"⟩
abbrev cX11_isOneBy : ByteArray := prog_13_method_38_code
def yX11_isOneBy : MethodName := ⟨RX11, "isOneBy", "([IIII)Z"⟩
abbrev cX11_fallen : ByteArray := prog_13_method_39_code
def yX11_fallen : MethodName := ⟨RX11, "fallen", "([II)I"⟩
abbrev cX11_word : ByteArray := prog_13_method_40_code
def yX11_word : MethodName := ⟨RX11, "word", "(II)I"⟩
abbrev cX11_at : ByteArray := prog_13_method_41_code
def yX11_at : MethodName := ⟨RX11, "at", "(II)I"⟩
abbrev cX11_letter : ByteArray := prog_13_method_42_code
def yX11_letter : MethodName := ⟨RX11, "letter", "(II)I"⟩
abbrev cX11_sheet : ByteArray := prog_13_method_43_code
def yX11_sheet : MethodName := ⟨RX11, "sheet", "(IIII)I"⟩
abbrev cX11_putsBy : ByteArray := prog_13_method_44_code
def yX11_putsBy : MethodName := ⟨RX11, "putsBy", "()V"⟩
abbrev cX11_adds : ByteArray := prog_13_method_45_code
def yX11_adds : MethodName := ⟨RX11, "adds", "(I)I"⟩
abbrev cX11_counted : ByteArray := prog_13_method_46_code
def yX11_counted : MethodName := ⟨RX11, "counted", "(I)I"⟩
abbrev cX11_undo : ByteArray := prog_13_method_47_code
def yX11_undo : MethodName := ⟨RX11, "undo", "()I"⟩
abbrev cX11_strikeNext : ByteArray := prog_13_method_48_code
def yX11_strikeNext : MethodName := ⟨RX11, "strikeNext", "([I)I"⟩
abbrev cX11_dayGoes : ByteArray := prog_13_method_49_code
def yX11_dayGoes : MethodName := ⟨RX11, "dayGoes", "([I)I"⟩
abbrev cX11_offers : ByteArray := prog_13_method_50_code
def yX11_offers : MethodName := ⟨RX11, "offers", "([III)I"⟩
abbrev cX11_stirsOne : ByteArray := prog_13_method_51_code
def yX11_stirsOne : MethodName := ⟨RX11, "stirsOne", "(II)I"⟩
abbrev cX11_mutesOne : ByteArray := prog_13_method_52_code
def yX11_mutesOne : MethodName := ⟨RX11, "mutesOne", "([III)I"⟩
abbrev cX11_days : ByteArray := prog_13_method_53_code
def yX11_days : MethodName := ⟨RX11, "days", "(I)I"⟩
abbrev cX11_offer : ByteArray := prog_13_method_54_code
def yX11_offer : MethodName := ⟨RX11, "offer", "(II)I"⟩
abbrev cX11_stirs : ByteArray := prog_13_method_55_code
def yX11_stirs : MethodName := ⟨RX11, "stirs", "(II)I"⟩
abbrev cX11_mutes : ByteArray := prog_13_method_56_code
def yX11_mutes : MethodName := ⟨RX11, "mutes", "(II)I"⟩
abbrev cX11_readsAct : ByteArray := prog_13_method_57_code
def yX11_readsAct : MethodName := ⟨RX11, "readsAct", "()Z"⟩
abbrev cX11_does : ByteArray := prog_13_method_58_code
def yX11_does : MethodName := ⟨RX11, "does", "(I)Z"⟩
abbrev cX11_year : ByteArray := prog_13_method_59_code
def yX11_year : MethodName := ⟨RX11, "year", "()I"⟩
abbrev cX11_copies : ByteArray := prog_13_method_60_code
def yX11_copies : MethodName := ⟨RX11, "copies", "()V"⟩
abbrev cX11_looks : ByteArray := prog_13_method_61_code
def yX11_looks : MethodName := ⟨RX11, "looks", "(II)I"⟩
abbrev cX11_kinds : ByteArray := prog_13_method_62_code
def yX11_kinds : MethodName := ⟨RX11, "kinds", "(I)I"⟩
abbrev cX11_square : ByteArray := prog_13_method_63_code
def yX11_square : MethodName := ⟨RX11, "square", "(II)I"⟩
abbrev cX11_apartBy : ByteArray := prog_13_method_64_code
def yX11_apartBy : MethodName := ⟨RX11, "apartBy", "(III)I"⟩
abbrev cX11_sharedBy : ByteArray := prog_13_method_65_code
def yX11_sharedBy : MethodName := ⟨RX11, "sharedBy", "(III)I"⟩
abbrev cX11_apart : ByteArray := prog_13_method_66_code
def yX11_apart : MethodName := ⟨RX11, "apart", "(II)I"⟩
abbrev cX11_shared : ByteArray := prog_13_method_67_code
def yX11_shared : MethodName := ⟨RX11, "shared", "(II)I"⟩
abbrev cX11_chain : ByteArray := prog_13_method_68_code
def yX11_chain : MethodName := ⟨RX11, "chain", "(III)I"⟩
abbrev cX11_ahead : ByteArray := prog_13_method_69_code
def yX11_ahead : MethodName := ⟨RX11, "ahead", "(I)I"⟩
abbrev cX11_falls : ByteArray := prog_13_method_70_code
def yX11_falls : MethodName := ⟨RX11, "falls", "()I"⟩
abbrev cX11_when : ByteArray := prog_13_method_71_code
def yX11_when : MethodName := ⟨RX11, "when", "(I)I"⟩
abbrev cX11_crossest : ByteArray := prog_13_method_72_code
def yX11_crossest : MethodName := ⟨RX11, "crossest", "()I"⟩
abbrev cX11_areApart : ByteArray := prog_13_method_73_code
def yX11_areApart : MethodName := ⟨RX11, "areApart", "(II)Z"⟩
abbrev cX11_isFewer : ByteArray := prog_13_method_74_code
def yX11_isFewer : MethodName := ⟨RX11, "isFewer", "(II)Z"⟩
abbrev cX11_tellsSet : ByteArray := prog_13_method_75_code
def yX11_tellsSet : MethodName := ⟨RX11, "tellsSet", "(I)I"⟩
abbrev cX11_must : ByteArray := prog_13_method_76_code
def yX11_must : MethodName := ⟨RX11, "must", "(I)I"⟩
abbrev cX11_most : ByteArray := prog_13_method_77_code
def yX11_most : MethodName := ⟨RX11, "most", "()I"⟩
abbrev cX11_joins : ByteArray := prog_13_method_78_code
def yX11_joins : MethodName := ⟨RX11, "joins", "(II)I"⟩
abbrev cX11_canBeOne : ByteArray := prog_13_method_79_code
def yX11_canBeOne : MethodName := ⟨RX11, "canBeOne", "([III)Z"⟩
abbrev cX11_safe : ByteArray := prog_13_method_80_code
def yX11_safe : MethodName := ⟨RX11, "safe", "()I"⟩
abbrev cX11_parts : ByteArray := prog_13_method_81_code
def yX11_parts : MethodName := ⟨RX11, "parts", "(II)I"⟩
abbrev cX11_noticed : ByteArray := prog_13_method_82_code
def yX11_noticed : MethodName := ⟨RX11, "noticed", "(III)I"⟩
abbrev cX11_forget : ByteArray := prog_13_method_83_code
def yX11_forget : MethodName := ⟨RX11, "forget", "()I"⟩
abbrev cX11_isAsNoticed : ByteArray := prog_13_method_84_code
def yX11_isAsNoticed : MethodName := ⟨RX11, "isAsNoticed", "(I)Z"⟩
abbrev cX11_fits : ByteArray := prog_13_method_85_code
def yX11_fits : MethodName := ⟨RX11, "fits", "()I"⟩
abbrev cX11_next : ByteArray := prog_13_method_86_code
def yX11_next : MethodName := ⟨RX11, "next", "()I"⟩
abbrev cX11_cost : ByteArray := prog_13_method_87_code
def yX11_cost : MethodName := ⟨RX11, "cost", "(I)I"⟩
abbrev cX11_calms : ByteArray := prog_13_method_88_code
def yX11_calms : MethodName := ⟨RX11, "calms", "()I"⟩
abbrev cX11_buys : ByteArray := prog_13_method_89_code
def yX11_buys : MethodName := ⟨RX11, "buys", "(I)I"⟩
abbrev cX11_tips : ByteArray := prog_13_method_90_code
def yX11_tips : MethodName := ⟨RX11, "tips", "(I)I"⟩
abbrev cX11_power : ByteArray := prog_13_method_91_code
def yX11_power : MethodName := ⟨RX11, "power", "(I)I"⟩
abbrev cX11_misread : ByteArray := prog_13_method_92_code
def yX11_misread : MethodName := ⟨RX11, "misread", "(III)I"⟩
abbrev cX11_game : ByteArray := prog_13_method_93_code
def yX11_game : MethodName := ⟨RX11, "game", "(III)I"⟩
abbrev cX11_law : ByteArray := prog_13_method_94_code
def yX11_law : MethodName := ⟨RX11, "law", "()I"⟩
abbrev cX11_gets : ByteArray := prog_13_method_95_code
def yX11_gets : MethodName := ⟨RX11, "gets", "(III)I"⟩
abbrev cX11_isRest : ByteArray := prog_13_method_96_code
def yX11_isRest : MethodName := ⟨RX11, "isRest", "(III)Z"⟩
abbrev cX11_rests : ByteArray := prog_13_method_97_code
def yX11_rests : MethodName := ⟨RX11, "rests", "(I)I"⟩
abbrev cX11_draws : ByteArray := prog_13_method_98_code
def yX11_draws : MethodName := ⟨RX11, "draws", "(I)I"⟩
abbrev cX11_years : ByteArray := prog_13_method_99_code
def yX11_years : MethodName := ⟨RX11, "years", "(II)I"⟩
abbrev cX11_keep : ByteArray := prog_13_method_100_code
def yX11_keep : MethodName := ⟨RX11, "keep", "(I)Z"⟩
abbrev cX11_again : ByteArray := prog_13_method_101_code
def yX11_again : MethodName := ⟨RX11, "again", "(I)Z"⟩
abbrev cX11_allSigns : ByteArray := prog_13_method_102_code
def yX11_allSigns : MethodName := ⟨RX11, "allSigns", "(Z)I"⟩
abbrev cX11_count : ByteArray := prog_13_method_103_code
def yX11_count : MethodName := ⟨RX11, "count", "(I)I"⟩
abbrev cX11_row : ByteArray := prog_13_method_104_code
def yX11_row : MethodName := ⟨RX11, "row", "(I)J"⟩
def RJx145de : String := "java/io/Serializable"
def TJx145de : u_T := fun k => match k with
  | _ => ("", "", "", false)
def tyJx145de : Nat → FieldType := fun k => match k with
  | _ => .int
abbrev wsJx145de0 : List Cond := u_ws RJx145de TJx145de 0
theorem nmJx145de : ∀ a, a < 0 → ∀ b, b < 0 → a ≠ b → (TJx145de a).2.1 ≠ (TJx145de b).2.1 := by decide +kernel
theorem tyJx145de_ok : ∀ k, k < 0 → parseFieldDescriptor (TJx145de k).2.2.1 = some (tyJx145de k) := by decide +kernel
def RJx9f9b0 : String := "java/lang/CharSequence"
def TJx9f9b0 : u_T := fun k => match k with
  | _ => ("", "", "", false)
def tyJx9f9b0 : Nat → FieldType := fun k => match k with
  | _ => .int
abbrev wsJx9f9b00 : List Cond := u_ws RJx9f9b0 TJx9f9b0 0
theorem nmJx9f9b0 : ∀ a, a < 0 → ∀ b, b < 0 → a ≠ b → (TJx9f9b0 a).2.1 ≠ (TJx9f9b0 b).2.1 := by decide +kernel
theorem tyJx9f9b0_ok : ∀ k, k < 0 → parseFieldDescriptor (TJx9f9b0 k).2.2.1 = some (tyJx9f9b0 k) := by decide +kernel
def RJ11 : String := "java/lang/Character"
def TJ11 : u_T := fun k => match k with
  | _ => ("", "", "", false)
def tyJ11 : Nat → FieldType := fun k => match k with
  | _ => .int
abbrev wsJ110 : List Cond := u_ws RJ11 TJ11 0
theorem nmJ11 : ∀ a, a < 0 → ∀ b, b < 0 → a ≠ b → (TJ11 a).2.1 ≠ (TJ11 b).2.1 := by decide +kernel
theorem tyJ11_ok : ∀ k, k < 0 → parseFieldDescriptor (TJ11 k).2.2.1 = some (tyJ11 k) := by decide +kernel
abbrev cJ11_isValidCodePoint_9a6ad : ByteArray := prog_16_method_11_code
def yJ11_isValidCodePoint_9a6ad : MethodName := ⟨RJ11, "isValidCodePoint", "(I)Z"⟩
abbrev cJ11_highSurrogate_5068e : ByteArray := prog_16_method_28_code
def yJ11_highSurrogate_5068e : MethodName := ⟨RJ11, "highSurrogate", "(I)C"⟩
abbrev cJ11_lowSurrogate_5068e : ByteArray := prog_16_method_29_code
def yJ11_lowSurrogate_5068e : MethodName := ⟨RJ11, "lowSurrogate", "(I)C"⟩
def RJxb160c : String := "java/lang/Comparable"
def TJxb160c : u_T := fun k => match k with
  | _ => ("", "", "", false)
def tyJxb160c : Nat → FieldType := fun k => match k with
  | _ => .int
abbrev wsJxb160c0 : List Cond := u_ws RJxb160c TJxb160c 0
theorem nmJxb160c : ∀ a, a < 0 → ∀ b, b < 0 → a ≠ b → (TJxb160c a).2.1 ≠ (TJxb160c b).2.1 := by decide +kernel
theorem tyJxb160c_ok : ∀ k, k < 0 → parseFieldDescriptor (TJxb160c k).2.2.1 = some (tyJxb160c k) := by decide +kernel
def RJ6 : String := "java/lang/Integer"
def TJ6 : u_T := fun k => match k with
  | _ => ("", "", "", false)
def tyJ6 : Nat → FieldType := fun k => match k with
  | _ => .int
abbrev wsJ60 : List Cond := u_ws RJ6 TJ6 0
theorem nmJ6 : ∀ a, a < 0 → ∀ b, b < 0 → a ≠ b → (TJ6 a).2.1 ≠ (TJ6 b).2.1 := by decide +kernel
theorem tyJ6_ok : ∀ k, k < 0 → parseFieldDescriptor (TJ6 k).2.2.1 = some (tyJ6 k) := by decide +kernel
abbrev cJ6_compare_7cf53 : ByteArray := prog_19_method_40_code
def yJ6_compare_7cf53 : MethodName := ⟨RJ6, "compare", "(II)I"⟩
abbrev cJ6_bitCount_0f7a4 : ByteArray := prog_19_method_49_code
def yJ6_bitCount_0f7a4 : MethodName := ⟨RJ6, "bitCount", "(I)I"⟩
def RJ9 : String := "java/lang/Math"
def TJ9 : u_T := fun k => match k with
  | _ => ("", "", "", false)
def tyJ9 : Nat → FieldType := fun k => match k with
  | _ => .int
abbrev wsJ90 : List Cond := u_ws RJ9 TJ9 0
theorem nmJ9 : ∀ a, a < 0 → ∀ b, b < 0 → a ≠ b → (TJ9 a).2.1 ≠ (TJ9 b).2.1 := by decide +kernel
theorem tyJ9_ok : ∀ k, k < 0 → parseFieldDescriptor (TJ9 k).2.2.1 = some (tyJ9 k) := by decide +kernel
abbrev cJ9_max_7cf53 : ByteArray := prog_20_method_65_code
def yJ9_max_7cf53 : MethodName := ⟨RJ9, "max", "(II)I"⟩
abbrev cJ9_min_7cf53 : ByteArray := prog_20_method_69_code
def yJ9_min_7cf53 : MethodName := ⟨RJ9, "min", "(II)I"⟩
def RJ0 : String := "java/lang/String"
def TJ0 : u_T := fun k => match k with
  | _ => ("", "", "", false)
def tyJ0 : Nat → FieldType := fun k => match k with
  | _ => .int
abbrev wsJ00 : List Cond := u_ws RJ0 TJ0 0
theorem nmJ0 : ∀ a, a < 0 → ∀ b, b < 0 → a ≠ b → (TJ0 a).2.1 ≠ (TJ0 b).2.1 := by decide +kernel
theorem tyJ0_ok : ∀ k, k < 0 → parseFieldDescriptor (TJ0 k).2.2.1 = some (tyJ0 k) := by decide +kernel
abbrev cJ0_length_8abf5 : ByteArray := prog_22_method_54_code
def yJ0_length_8abf5 : MethodName := ⟨RJ0, "length", "()I"⟩
abbrev cJ0_charAt_5068e : ByteArray := prog_22_method_56_code
def yJ0_charAt_5068e : MethodName := ⟨RJ0, "charAt", "(I)C"⟩
abbrev cJ0_indexOf_0f7a4 : ByteArray := prog_22_method_79_code
def yJ0_indexOf_0f7a4 : MethodName := ⟨RJ0, "indexOf", "(I)I"⟩
abbrev cJ0_indexOf_7cf53 : ByteArray := prog_22_method_80_code
def yJ0_indexOf_7cf53 : MethodName := ⟨RJ0, "indexOf", "(II)I"⟩
abbrev cJ0_coder_7d493 : ByteArray := prog_22_method_152_code
def yJ0_coder_7d493 : MethodName := ⟨RJ0, "coder", "()B"⟩
abbrev cJ0_isLatin1_aae02 : ByteArray := prog_22_method_154_code
def yJ0_isLatin1_aae02 : MethodName := ⟨RJ0, "isLatin1", "()Z"⟩
abbrev cJ0_checkIndex_df160 : ByteArray := prog_22_method_155_code
def yJ0_checkIndex_df160 : MethodName := ⟨RJ0, "checkIndex", "(II)V"⟩
abbrev cJ0_checkBoundsBeginEnd_23922 : ByteArray := prog_22_method_158_code
def yJ0_checkBoundsBeginEnd_23922 : MethodName := ⟨RJ0, "checkBoundsBeginEnd", "(III)V"⟩
def RJ1 : String := "java/lang/StringLatin1"
def TJ1 : u_T := fun k => match k with
  | _ => ("", "", "", false)
def tyJ1 : Nat → FieldType := fun k => match k with
  | _ => .int
abbrev wsJ10 : List Cond := u_ws RJ1 TJ1 0
theorem nmJ1 : ∀ a, a < 0 → ∀ b, b < 0 → a ≠ b → (TJ1 a).2.1 ≠ (TJ1 b).2.1 := by decide +kernel
theorem tyJ1_ok : ∀ k, k < 0 → parseFieldDescriptor (TJ1 k).2.2.1 = some (tyJ1 k) := by decide +kernel
abbrev cJ1_charAt_3b067 : ByteArray := prog_23_method_2_code
def yJ1_charAt_3b067 : MethodName := ⟨RJ1, "charAt", "([BI)C"⟩
abbrev cJ1_canEncode_9a6ad : ByteArray := prog_23_method_4_code
def yJ1_canEncode_9a6ad : MethodName := ⟨RJ1, "canEncode", "(I)Z"⟩
abbrev cJ1_indexOf_4cfef : ByteArray := prog_23_method_22_code
def yJ1_indexOf_4cfef : MethodName := ⟨RJ1, "indexOf", "([BIII)I"⟩
abbrev cJ1_indexOfChar_4cfef : ByteArray := prog_23_method_23_code
def yJ1_indexOfChar_4cfef : MethodName := ⟨RJ1, "indexOfChar", "([BIII)I"⟩
def RJ2 : String := "java/lang/StringUTF16"
def TJ2 : u_T := fun k => match k with
  | _ => ("", "", "", false)
def tyJ2 : Nat → FieldType := fun k => match k with
  | _ => .int
abbrev wsJ20 : List Cond := u_ws RJ2 TJ2 0
theorem nmJ2 : ∀ a, a < 0 → ∀ b, b < 0 → a ≠ b → (TJ2 a).2.1 ≠ (TJ2 b).2.1 := by decide +kernel
theorem tyJ2_ok : ∀ k, k < 0 → parseFieldDescriptor (TJ2 k).2.2.1 = some (tyJ2 k) := by decide +kernel
abbrev cJ2_getChar_3b067 : ByteArray := prog_24_method_5_code
def yJ2_getChar_3b067 : MethodName := ⟨RJ2, "getChar", "([BI)C"⟩
abbrev cJ2_length_9d52b : ByteArray := prog_24_method_6_code
def yJ2_length_9d52b : MethodName := ⟨RJ2, "length", "([B)I"⟩
abbrev cJ2_indexOf_4cfef : ByteArray := prog_24_method_40_code
def yJ2_indexOf_4cfef : MethodName := ⟨RJ2, "indexOf", "([BIII)I"⟩
abbrev cJ2_indexOfChar_4cfef : ByteArray := prog_24_method_47_code
def yJ2_indexOfChar_4cfef : MethodName := ⟨RJ2, "indexOfChar", "([BIII)I"⟩
abbrev cJ2_indexOfCharUnsafe_4cfef : ByteArray := prog_24_method_48_code
def yJ2_indexOfCharUnsafe_4cfef : MethodName := ⟨RJ2, "indexOfCharUnsafe", "([BIII)I"⟩
abbrev cJ2_indexOfSupplementary_4cfef : ByteArray := prog_24_method_49_code
def yJ2_indexOfSupplementary_4cfef : MethodName := ⟨RJ2, "indexOfSupplementary", "([BIII)I"⟩
abbrev cJ2_charAt_3b067 : ByteArray := prog_24_method_83_code
def yJ2_charAt_3b067 : MethodName := ⟨RJ2, "charAt", "([BI)C"⟩
abbrev cJ2_checkIndex_2214a : ByteArray := prog_24_method_91_code
def yJ2_checkIndex_2214a : MethodName := ⟨RJ2, "checkIndex", "(I[B)V"⟩
abbrev cJ2_checkBoundsBeginEnd_d044e : ByteArray := prog_24_method_93_code
def yJ2_checkBoundsBeginEnd_d044e : MethodName := ⟨RJ2, "checkBoundsBeginEnd", "(II[B)V"⟩
def RJ10 : String := "java/lang/System"
def TJ10 : u_T := fun k => match k with
  | _ => ("", "", "", false)
def tyJ10 : Nat → FieldType := fun k => match k with
  | _ => .int
abbrev wsJ100 : List Cond := u_ws RJ10 TJ10 0
theorem nmJ10 : ∀ a, a < 0 → ∀ b, b < 0 → a ≠ b → (TJ10 a).2.1 ≠ (TJ10 b).2.1 := by decide +kernel
theorem tyJ10_ok : ∀ k, k < 0 → parseFieldDescriptor (TJ10 k).2.2.1 = some (tyJ10 k) := by decide +kernel
def RJxfd54e : String := "java/lang/constant/Constable"
def TJxfd54e : u_T := fun k => match k with
  | _ => ("", "", "", false)
def tyJxfd54e : Nat → FieldType := fun k => match k with
  | _ => .int
abbrev wsJxfd54e0 : List Cond := u_ws RJxfd54e TJxfd54e 0
theorem nmJxfd54e : ∀ a, a < 0 → ∀ b, b < 0 → a ≠ b → (TJxfd54e a).2.1 ≠ (TJxfd54e b).2.1 := by decide +kernel
theorem tyJxfd54e_ok : ∀ k, k < 0 → parseFieldDescriptor (TJxfd54e k).2.2.1 = some (tyJxfd54e k) := by decide +kernel
def RJx3cf43 : String := "java/lang/constant/ConstantDesc"
def TJx3cf43 : u_T := fun k => match k with
  | _ => ("", "", "", false)
def tyJx3cf43 : Nat → FieldType := fun k => match k with
  | _ => .int
abbrev wsJx3cf430 : List Cond := u_ws RJx3cf43 TJx3cf43 0
theorem nmJx3cf43 : ∀ a, a < 0 → ∀ b, b < 0 → a ≠ b → (TJx3cf43 a).2.1 ≠ (TJx3cf43 b).2.1 := by decide +kernel
theorem tyJx3cf43_ok : ∀ k, k < 0 → parseFieldDescriptor (TJx3cf43 k).2.2.1 = some (tyJx3cf43 k) := by decide +kernel
def RJ7 : String := "java/util/Arrays"
def TJ7 : u_T := fun k => match k with
  | _ => ("", "", "", false)
def tyJ7 : Nat → FieldType := fun k => match k with
  | _ => .int
abbrev wsJ70 : List Cond := u_ws RJ7 TJ7 0
theorem nmJ7 : ∀ a, a < 0 → ∀ b, b < 0 → a ≠ b → (TJ7 a).2.1 ≠ (TJ7 b).2.1 := by decide +kernel
theorem tyJ7_ok : ∀ k, k < 0 → parseFieldDescriptor (TJ7 k).2.2.1 = some (tyJ7 k) := by decide +kernel
abbrev cJ7_fill_53178 : ByteArray := prog_29_method_103_code
def yJ7_fill_53178 : MethodName := ⟨RJ7, "fill", "([II)V"⟩
def RJ3 : String := "jdk/internal/util/Preconditions"
def TJ3 : u_T := fun k => match k with
  | _ => ("", "", "", false)
def tyJ3 : Nat → FieldType := fun k => match k with
  | _ => .int
abbrev wsJ30 : List Cond := u_ws RJ3 TJ3 0
theorem nmJ3 : ∀ a, a < 0 → ∀ b, b < 0 → a ≠ b → (TJ3 a).2.1 ≠ (TJ3 b).2.1 := by decide +kernel
theorem tyJ3_ok : ∀ k, k < 0 → parseFieldDescriptor (TJ3 k).2.2.1 = some (tyJ3 k) := by decide +kernel
abbrev cJ3_checkIndex_8e157 : ByteArray := prog_31_method_11_code
def yJ3_checkIndex_8e157 : MethodName := ⟨RJ3, "checkIndex", "(IILjava/util/function/BiFunction;)I"⟩
abbrev cJ3_checkFromToIndex_8c36e : ByteArray := prog_31_method_12_code
def yJ3_checkFromToIndex_8c36e : MethodName := ⟨RJ3, "checkFromToIndex", "(IIILjava/util/function/BiFunction;)I"⟩
def RL : String := "SilentLettersLaw"
abbrev cL_word : ByteArray := method_3_code
def yL_word : MethodName := ⟨RL, "word", "(LSilentLetters;II[J)I"⟩
abbrev cL_at : ByteArray := method_4_code
def yL_at : MethodName := ⟨RL, "at", "(LSilentLetters;II[J)I"⟩
abbrev cL_letter : ByteArray := method_5_code
def yL_letter : MethodName := ⟨RL, "letter", "(LSilentLetters;II[J)I"⟩
abbrev cL_row : ByteArray := method_6_code
def yL_row : MethodName := ⟨RL, "row", "(LSilentLetters;I[J)I"⟩
abbrev cL_law : ByteArray := code
def yL_law : MethodName := ⟨RL, "law", "([I)Z"⟩
abbrev vwCl : List vw_C := [(RX1, TX1, 4), (RX2, TX2, 8), (RX3, TX3, 4), (RX4, TX4, 5), (RX5, TX5, 2), (RX6, TX6, 8), (RX7, TX7, 6), (RX8, TX8, 2), (RX9, TX9, 7), (RX10, TX10, 18), (RX11, TX11, 49)]
end
section
/-- a method: name, bytes, locals, return type, number of its class, its instructions, the places where an equation ends -/
abbrev ev_Me : Type := MethodName × ByteArray × Nat × Option FieldType × Nat × List (Nat × Instr × Nat) × List (Nat × List Nat)
def M_Acts_lengthOf : ev_Me := (yX0_lengthOf, cX0_lengthOf, 1, (some .int), 0, [(0, .iload_n 0, 1), (1, .tableswitch 63 110 120 #[59, 61, 63, 61, 61, 63, 63, 63, 63, 63, 61], 59), (60, .iconst 2, 1), (61, .ireturn, 1), (62, .iconst 3, 1), (63, .ireturn, 1), (64, .iconst 0, 1), (65, .ireturn, 1)], [])
def M_Acts_faultIn : ev_Me := (yX0_faultIn, cX0_faultIn, 6, (some .int), 0, [(0, .aload_n 0, 1), (1, .getfield 9, 3), (4, .bipush 60, 2), (6, .invokestatic 17, 3), (9, .istore_n 1, 1), (10, .bipush 110, 2), (12, .istore_n 2, 1), (13, .iconst 0, 1), (14, .istore_n 3, 1), (15, .iconst 0, 1), (16, .istore 4, 2), (18, .iload 4, 2), (20, .iload_n 1, 1), (21, .if_icmp .ge 59, 3), (24, .aload_n 0, 1), (25, .iload 4, 2), (27, .invokevirtual 23, 3), (30, .istore 5, 2), (32, .iload_n 3, 1), (33, .ifCond .ne 8, 3), (36, .iload 5, 2), (38, .goto 4, 3), (41, .iload_n 2, 1), (42, .istore_n 2, 1), (43, .iload_n 2, 1), (44, .iload_n 3, 1), (45, .iload 5, 2), (47, .invokestatic 27, 3), (50, .ifCond .ne 6, 3), (53, .iload 4, 2), (55, .ireturn, 1), (56, .iload_n 3, 1), (57, .iconst 1, 1), (58, .iadd, 1), (59, .iload_n 2, 1), (60, .invokestatic 31, 3), (63, .if_icmp .ne 7, 3), (66, .iconst 0, 1), (67, .goto 6, 3), (70, .iload_n 3, 1), (71, .iconst 1, 1), (72, .iadd, 1), (73, .istore_n 3, 1), (74, .iinc 4 1, 3), (77, .goto (-59), 3), (80, .aload_n 0, 1), (81, .getfield 9, 3), (84, .bipush 60, 2), (86, .if_icmp .gt 7, 3), (89, .iload_n 3, 1), (90, .ifCond .le 7, 3), (93, .iload_n 1, 1), (94, .goto 4, 3), (97, .iconst (-1), 1), (98, .ireturn, 1)], [(18, [5]), (42, [2])])
def M_Acts_canStand : ev_Me := (yX0_canStand, cX0_canStand, 4, (some .boolean), 0, [(0, .iload_n 1, 1), (1, .ifCond .ne 16, 3), (4, .iload_n 2, 1), (5, .invokestatic 31, 3), (8, .ifCond .le 7, 3), (11, .iconst 1, 1), (12, .goto 4, 3), (15, .iconst 0, 1), (16, .ireturn, 1), (17, .iload_n 1, 1), (18, .iconst 1, 1), (19, .if_icmp .ne 33, 3), (22, .iload_n 0, 1), (23, .bipush 110, 2), (25, .if_icmp .eq 27, 3), (28, .iload_n 0, 1), (29, .bipush 120, 2), (31, .if_icmp .eq 21, 3), (34, .iload_n 2, 1), (35, .bipush 97, 2), (37, .if_icmp .lt 13, 3), (40, .iload_n 2, 1), (41, .bipush 104, 2), (43, .if_icmp .gt 7, 3), (46, .iconst 1, 1), (47, .goto 4, 3), (50, .iconst 0, 1), (51, .ireturn, 1), (52, .iload_n 0, 1), (53, .bipush 114, 2), (55, .if_icmp .eq 9, 3), (58, .iload_n 0, 1), (59, .bipush 113, 2), (61, .if_icmp .ne 8, 3), (64, .bipush 49, 2), (66, .goto 5, 3), (69, .bipush 48, 2), (71, .istore_n 3, 1), (72, .iload_n 2, 1), (73, .iload_n 3, 1), (74, .if_icmp .lt 13, 3), (77, .iload_n 2, 1), (78, .bipush 57, 2), (80, .if_icmp .gt 7, 3), (83, .iconst 1, 1), (84, .goto 4, 3), (87, .iconst 0, 1), (88, .ireturn, 1)], [(52, [1, 3]), (71, [0, 1, 3])])
def M_Book_init : ev_Me := (yX1_init, cX1_init, 1, none, 1, [(0, .aload_n 0, 1), (1, .invokespecial 3, 3), (4, .aload_n 0, 1), (5, .bipush 8, 2), (7, .bipush 8, 2), (9, .multianewarray 9 2, 4), (13, .putfield 11, 3), (16, .aload_n 0, 1), (17, .bipush 8, 2), (19, .newarray .int, 2), (21, .putfield 16, 3), (24, .aload_n 0, 1), (25, .bipush 8, 2), (27, .newarray .int, 2), (29, .putfield 20, 3), (32, .return_, 1)], [])
def M_Book_has : ev_Me := (yX1_has, cX1_has, 2, (some .boolean), 1, [(0, .iload_n 1, 1), (1, .ifCond .lt 15, 3), (4, .iload_n 1, 1), (5, .aload_n 0, 1), (6, .getfield 23, 3), (9, .if_icmp .ge 7, 3), (12, .iconst 1, 1), (13, .goto 4, 3), (16, .iconst 0, 1), (17, .ireturn, 1)], [])
def M_Book_hasBoth : ev_Me := (yX1_hasBoth, cX1_hasBoth, 3, (some .boolean), 1, [(0, .aload_n 0, 1), (1, .iload_n 1, 1), (2, .invokevirtual 27, 3), (5, .ifCond .eq 20, 3), (8, .aload_n 0, 1), (9, .iload_n 2, 1), (10, .invokevirtual 27, 3), (13, .ifCond .eq 12, 3), (16, .iload_n 1, 1), (17, .iload_n 2, 1), (18, .if_icmp .eq 7, 3), (21, .iconst 1, 1), (22, .goto 4, 3), (25, .iconst 0, 1), (26, .ireturn, 1)], [])
def M_Book_hasSign : ev_Me := (yX1_hasSign, cX1_hasSign, 3, (some .boolean), 1, [(0, .aload_n 0, 1), (1, .iload_n 1, 1), (2, .invokevirtual 27, 3), (5, .ifCond .eq 21, 3), (8, .iload_n 2, 1), (9, .ifCond .lt 17, 3), (12, .iload_n 2, 1), (13, .aload_n 0, 1), (14, .getfield 16, 3), (17, .iload_n 1, 1), (18, .iaload, 1), (19, .if_icmp .ge 7, 3), (22, .iconst 1, 1), (23, .goto 4, 3), (26, .iconst 0, 1), (27, .ireturn, 1)], [])
def M_Book_faultIn : ev_Me := (yX1_faultIn, cX1_faultIn, 8, (some .int), 1, [(0, .iconst 0, 1), (1, .istore_n 2, 1), (2, .iconst 0, 1), (3, .istore_n 3, 1), (4, .iconst 0, 1), (5, .istore 4, 2), (7, .aload_n 1, 1), (8, .getfield 31, 3), (11, .bipush 79, 2), (13, .invokestatic 34, 3), (16, .istore 5, 2), (18, .iconst 0, 1), (19, .istore 6, 2), (21, .iload 6, 2), (23, .iload 5, 2), (25, .if_icmp .ge 92, 3), (28, .aload_n 1, 1), (29, .iload 6, 2), (31, .invokevirtual 40, 3), (34, .istore 7, 2), (36, .iload 7, 2), (38, .bipush 59, 2), (40, .if_icmp .ne 19, 3), (43, .iload 4, 2), (45, .ifCond .eq 14, 3), (48, .iinc 2 1, 3), (51, .iconst 0, 1), (52, .istore_n 3, 1), (53, .iconst 0, 1), (54, .istore 4, 2), (56, .goto 55, 3), (59, .iload 7, 2), (61, .invokestatic 44, 3), (64, .iconst (-1), 1), (65, .if_icmp .eq 20, 3), (68, .iload_n 3, 1), (69, .bipush 8, 2), (71, .if_icmp .eq 14, 3), (74, .aload_n 0, 1), (75, .getfield 23, 3), (78, .iload_n 2, 1), (79, .iadd, 1), (80, .bipush 8, 2), (82, .if_icmp .lt 6, 3), (85, .iload 6, 2), (87, .ireturn, 1), (88, .iinc 3 1, 3), (91, .iload 4, 2), (93, .ifCond .ne 11, 3), (96, .iload 7, 2), (98, .invokestatic 48, 3), (101, .ifCond .eq 7, 3), (104, .iconst 1, 1), (105, .goto 4, 3), (108, .iconst 0, 1), (109, .istore 4, 2), (111, .iinc 6 1, 3), (114, .goto (-93), 3), (117, .aload_n 1, 1), (118, .getfield 31, 3), (121, .bipush 79, 2), (123, .if_icmp .gt 8, 3), (126, .iload 4, 2), (128, .ifCond .ne 8, 3), (131, .iload 5, 2), (133, .goto 4, 3), (136, .iconst (-1), 1), (137, .ireturn, 1)], [(21, [7]), (59, [])])
def M_Book_takeLines : ev_Me := (yX1_takeLines, cX1_takeLines, 7, (some .int), 1, [(0, .aload_n 0, 1), (1, .getfield 23, 3), (4, .istore_n 3, 1), (5, .iconst 0, 1), (6, .istore 4, 2), (8, .iload 4, 2), (10, .aload_n 1, 1), (11, .getfield 31, 3), (14, .if_icmp .ge 123, 3), (17, .aload_n 1, 1), (18, .iload 4, 2), (20, .invokevirtual 40, 3), (23, .istore 5, 2), (25, .iload 5, 2), (27, .bipush 59, 2), (29, .if_icmp .ne 10, 3), (32, .aload_n 0, 1), (33, .invokevirtual 52, 3), (36, .goto 95, 3), (39, .aload_n 0, 1), (40, .getfield 23, 3), (43, .bipush 8, 2), (45, .if_icmp .ge 86, 3), (48, .aload_n 0, 1), (49, .getfield 16, 3), (52, .aload_n 0, 1), (53, .getfield 23, 3), (56, .iaload, 1), (57, .bipush 8, 2), (59, .if_icmp .ge 72, 3), (62, .aload_n 0, 1), (63, .getfield 16, 3), (66, .aload_n 0, 1), (67, .getfield 23, 3), (70, .iaload, 1), (71, .istore 6, 2), (73, .aload_n 0, 1), (74, .getfield 11, 3), (77, .aload_n 0, 1), (78, .getfield 23, 3), (81, .aaload, 1), (82, .iload 6, 2), (84, .iload 5, 2), (86, .invokestatic 44, 3), (89, .iastore, 1), (90, .aload_n 2, 1), (91, .getfield 55, 3), (94, .aload_n 0, 1), (95, .getfield 23, 3), (98, .dup2, 1), (99, .iaload, 1), (100, .iload 5, 2), (102, .invokestatic 48, 3), (105, .ifCond .eq 7, 3), (108, .iconst 0, 1), (109, .goto 7, 3), (112, .iconst 1, 1), (113, .iload 6, 2), (115, .ishl, 1), (116, .ior, 1), (117, .iastore, 1), (118, .aload_n 0, 1), (119, .getfield 16, 3), (122, .aload_n 0, 1), (123, .getfield 23, 3), (126, .dup2, 1), (127, .iaload, 1), (128, .iconst 1, 1), (129, .iadd, 1), (130, .iastore, 1), (131, .iinc 4 1, 3), (134, .goto (-126), 3), (137, .aload_n 0, 1), (138, .invokevirtual 52, 3), (141, .aload_n 0, 1), (142, .getfield 23, 3), (145, .iload_n 3, 1), (146, .isub, 1), (147, .ireturn, 1)], [(8, [5, 6]), (116, [5, 6])])
def M_Book_closeLine : ev_Me := (yX1_closeLine, cX1_closeLine, 1, none, 1, [(0, .aload_n 0, 1), (1, .getfield 23, 3), (4, .bipush 8, 2), (6, .if_icmp .ge 31, 3), (9, .aload_n 0, 1), (10, .getfield 20, 3), (13, .aload_n 0, 1), (14, .getfield 23, 3), (17, .aload_n 0, 1), (18, .aload_n 0, 1), (19, .getfield 23, 3), (22, .iconst 0, 1), (23, .invokevirtual 60, 3), (26, .iastore, 1), (27, .aload_n 0, 1), (28, .dup, 1), (29, .getfield 23, 3), (32, .iconst 1, 1), (33, .iadd, 1), (34, .putfield 23, 3), (37, .return_, 1)], [])
def M_Book_letterOf : ev_Me := (yX1_letterOf, cX1_letterOf, 1, (some .int), 1, [(0, .iload_n 0, 1), (1, .bipush 97, 2), (3, .if_icmp .lt 14, 3), (6, .iload_n 0, 1), (7, .bipush 104, 2), (9, .if_icmp .gt 8, 3), (12, .iload_n 0, 1), (13, .bipush 97, 2), (15, .isub, 1), (16, .ireturn, 1), (17, .iload_n 0, 1), (18, .bipush 65, 2), (20, .if_icmp .lt 16, 3), (23, .iload_n 0, 1), (24, .bipush 72, 2), (26, .if_icmp .gt 10, 3), (29, .iload_n 0, 1), (30, .bipush 65, 2), (32, .isub, 1), (33, .goto 4, 3), (36, .iconst (-1), 1), (37, .ireturn, 1)], [(17, [])])
def M_Book_isSaid : ev_Me := (yX1_isSaid, cX1_isSaid, 1, (some .boolean), 1, [(0, .iload_n 0, 1), (1, .bipush 97, 2), (3, .if_icmp .lt 7, 3), (6, .iconst 1, 1), (7, .goto 4, 3), (10, .iconst 0, 1), (11, .ireturn, 1)], [])
def M_Book_mute : ev_Me := (yX1_mute, cX1_mute, 6, (some .int), 1, [(0, .aload_n 0, 1), (1, .iload_n 2, 1), (2, .iload_n 3, 1), (3, .invokevirtual 63, 3), (6, .ifCond .ne 5, 3), (9, .iconst (-1), 1), (10, .ireturn, 1), (11, .aload_n 1, 1), (12, .getfield 55, 3), (15, .iload_n 2, 1), (16, .iaload, 1), (17, .iconst 1, 1), (18, .iload_n 3, 1), (19, .ishl, 1), (20, .ixor, 1), (21, .istore 4, 2), (23, .aload_n 0, 1), (24, .getfield 16, 3), (27, .iload_n 2, 1), (28, .iaload, 1), (29, .iload 4, 2), (31, .invokestatic 67, 3), (34, .isub, 1), (35, .istore 5, 2), (37, .iload 5, 2), (39, .ifCond .ne 6, 3), (42, .bipush (-2), 2), (44, .ireturn, 1), (45, .aload_n 1, 1), (46, .getfield 55, 3), (49, .iload_n 2, 1), (50, .iload 4, 2), (52, .iastore, 1), (53, .iload 5, 2), (55, .ireturn, 1)], [])
def M_Book_placesOf : ev_Me := (yX1_placesOf, cX1_placesOf, 5, (some .int), 1, [(0, .iconst 0, 1), (1, .istore_n 3, 1), (2, .iconst 0, 1), (3, .istore 4, 2), (5, .iload 4, 2), (7, .aload_n 0, 1), (8, .getfield 16, 3), (11, .iload_n 1, 1), (12, .iaload, 1), (13, .if_icmp .ge 28, 3), (16, .iload_n 3, 1), (17, .iload_n 2, 1), (18, .aload_n 0, 1), (19, .getfield 11, 3), (22, .iload_n 1, 1), (23, .aaload, 1), (24, .iload 4, 2), (26, .iaload, 1), (27, .ishr, 1), (28, .iconst 1, 1), (29, .iand, 1), (30, .iload 4, 2), (32, .ishl, 1), (33, .ior, 1), (34, .istore_n 3, 1), (35, .iinc 4 1, 3), (38, .goto (-33), 3), (41, .iload_n 3, 1), (42, .ireturn, 1)], [(5, [])])
def M_Book_lettersAt : ev_Me := (yX1_lettersAt, cX1_lettersAt, 5, (some .int), 1, [(0, .iconst 0, 1), (1, .istore_n 3, 1), (2, .iconst 0, 1), (3, .istore 4, 2), (5, .iload 4, 2), (7, .aload_n 0, 1), (8, .getfield 16, 3), (11, .iload_n 1, 1), (12, .iaload, 1), (13, .if_icmp .ge 28, 3), (16, .iload_n 3, 1), (17, .iload_n 2, 1), (18, .iload 4, 2), (20, .ishr, 1), (21, .iconst 1, 1), (22, .iand, 1), (23, .aload_n 0, 1), (24, .getfield 11, 3), (27, .iload_n 1, 1), (28, .aaload, 1), (29, .iload 4, 2), (31, .iaload, 1), (32, .ishl, 1), (33, .ior, 1), (34, .istore_n 3, 1), (35, .iinc 4 1, 3), (38, .goto (-33), 3), (41, .iload_n 3, 1), (42, .ireturn, 1)], [(5, [])])
def M_Book_unsaidLetters : ev_Me := (yX1_unsaidLetters, cX1_unsaidLetters, 4, (some .int), 1, [(0, .iconst 0, 1), (1, .istore_n 2, 1), (2, .iconst 0, 1), (3, .istore_n 3, 1), (4, .iload_n 3, 1), (5, .aload_n 0, 1), (6, .getfield 23, 3), (9, .if_icmp .ge 23, 3), (12, .iload_n 2, 1), (13, .aload_n 0, 1), (14, .iload_n 3, 1), (15, .aload_n 1, 1), (16, .getfield 55, 3), (19, .iload_n 3, 1), (20, .iaload, 1), (21, .invokevirtual 73, 3), (24, .ior, 1), (25, .istore_n 2, 1), (26, .iinc 3 1, 3), (29, .goto (-25), 3), (32, .iload_n 2, 1), (33, .ireturn, 1)], [(4, [])])
def M_Book_gone : ev_Me := (yX1_gone, cX1_gone, 4, (some .int), 1, [(0, .aload_n 1, 1), (1, .getfield 55, 3), (4, .iload_n 2, 1), (5, .iaload, 1), (6, .aload_n 0, 1), (7, .iload_n 2, 1), (8, .iload_n 3, 1), (9, .invokevirtual 76, 3), (12, .iand, 1), (13, .ireturn, 1)], [])
def M_Book_bare : ev_Me := (yX1_bare, cX1_bare, 5, (some .int), 1, [(0, .iconst 0, 1), (1, .istore_n 3, 1), (2, .iconst 0, 1), (3, .istore 4, 2), (5, .iload 4, 2), (7, .aload_n 0, 1), (8, .getfield 16, 3), (11, .iload_n 1, 1), (12, .iaload, 1), (13, .if_icmp .ge 34, 3), (16, .iload_n 2, 1), (17, .iload 4, 2), (19, .ishr, 1), (20, .iconst 1, 1), (21, .iand, 1), (22, .ifCond .ne 19, 3), (25, .iload_n 3, 1), (26, .iconst 4, 1), (27, .ishl, 1), (28, .aload_n 0, 1), (29, .getfield 11, 3), (32, .iload_n 1, 1), (33, .aaload, 1), (34, .iload 4, 2), (36, .iaload, 1), (37, .iconst 1, 1), (38, .iadd, 1), (39, .ior, 1), (40, .istore_n 3, 1), (41, .iinc 4 1, 3), (44, .goto (-39), 3), (47, .iload_n 3, 1), (48, .ireturn, 1)], [(5, [])])
def M_Book_spell : ev_Me := (yX1_spell, cX1_spell, 4, (some .int), 1, [(0, .aload_n 0, 1), (1, .iload_n 2, 1), (2, .aload_n 0, 1), (3, .aload_n 1, 1), (4, .iload_n 2, 1), (5, .iload_n 3, 1), (6, .invokevirtual 79, 3), (9, .invokevirtual 60, 3), (12, .ireturn, 1)], [])
def M_Book_spellAll : ev_Me := (yX1_spellAll, cX1_spellAll, 5, none, 1, [(0, .iconst 0, 1), (1, .istore 4, 2), (3, .iload 4, 2), (5, .aload_n 0, 1), (6, .getfield 23, 3), (9, .if_icmp .ge 21, 3), (12, .aload_n 3, 1), (13, .iload 4, 2), (15, .aload_n 0, 1), (16, .aload_n 1, 1), (17, .iload 4, 2), (19, .iload_n 2, 1), (20, .invokevirtual 83, 3), (23, .iastore, 1), (24, .iinc 4 1, 3), (27, .goto (-24), 3), (30, .return_, 1)], [(3, [])])
def M_Book_areOne : ev_Me := (yX1_areOne, cX1_areOne, 5, (some .boolean), 1, [(0, .aload_n 0, 1), (1, .aload_n 1, 1), (2, .iload_n 2, 1), (3, .iload 4, 2), (5, .invokevirtual 83, 3), (8, .aload_n 0, 1), (9, .aload_n 1, 1), (10, .iload_n 3, 1), (11, .iload 4, 2), (13, .invokevirtual 83, 3), (16, .if_icmp .ne 7, 3), (19, .iconst 1, 1), (20, .goto 4, 3), (23, .iconst 0, 1), (24, .ireturn, 1)], [])
def M_Book_areTwins : ev_Me := (yX1_areTwins, cX1_areTwins, 3, (some .boolean), 1, [(0, .aload_n 0, 1), (1, .getfield 20, 3), (4, .iload_n 1, 1), (5, .iaload, 1), (6, .aload_n 0, 1), (7, .getfield 20, 3), (10, .iload_n 2, 1), (11, .iaload, 1), (12, .if_icmp .ne 7, 3), (15, .iconst 1, 1), (16, .goto 4, 3), (19, .iconst 0, 1), (20, .ireturn, 1)], [])
def M_Measure_init : ev_Me := (yX2_init, cX2_init, 2, none, 2, [(0, .aload_n 0, 1), (1, .invokespecial 3, 3), (4, .aload_n 0, 1), (5, .bipush 8, 2), (7, .newarray .int, 2), (9, .putfield 9, 3), (12, .aload_n 0, 1), (13, .bipush 8, 2), (15, .newarray .int, 2), (17, .putfield 15, 3), (20, .aload_n 0, 1), (21, .bipush 9, 2), (23, .bipush 9, 2), (25, .multianewarray 18 2, 4), (29, .putfield 20, 3), (32, .aload_n 0, 1), (33, .bipush 64, 2), (35, .newarray .boolean, 2), (37, .putfield 23, 3), (40, .aload_n 0, 1), (41, .bipush 8, 2), (43, .newarray .int, 2), (45, .putfield 27, 3), (48, .aload_n 0, 1), (49, .aload_n 1, 1), (50, .putfield 30, 3), (53, .return_, 1)], [])
def M_Measure_lay : ev_Me := (yX2_lay, cX2_lay, 8, (some .int), 2, [(0, .aload_n 0, 1), (1, .getfield 30, 3), (4, .aload_n 1, 1), (5, .iload_n 2, 1), (6, .iload_n 3, 1), (7, .invokevirtual 34, 3), (10, .istore 5, 2), (12, .iconst 0, 1), (13, .istore 6, 2), (15, .iconst 0, 1), (16, .istore 7, 2), (18, .iload 7, 2), (20, .aload_n 0, 1), (21, .getfield 30, 3), (24, .getfield 40, 3), (27, .iload_n 2, 1), (28, .iaload, 1), (29, .if_icmp .ge 39, 3), (32, .iload 5, 2), (34, .iload 7, 2), (36, .ishr, 1), (37, .iconst 1, 1), (38, .iand, 1), (39, .ifCond .ne 23, 3), (42, .aload 4, 2), (44, .iload 6, 2), (46, .aload_n 0, 1), (47, .getfield 30, 3), (50, .getfield 43, 3), (53, .iload_n 2, 1), (54, .aaload, 1), (55, .iload 7, 2), (57, .iaload, 1), (58, .iastore, 1), (59, .iinc 6 1, 3), (62, .iinc 7 1, 3), (65, .goto (-47), 3), (68, .iload 6, 2), (70, .ireturn, 1)], [(18, [1, 3])])
def M_Measure_layBoth : ev_Me := (yX2_layBoth, cX2_layBoth, 5, none, 2, [(0, .aload_n 0, 1), (1, .aload_n 0, 1), (2, .aload_n 1, 1), (3, .iload_n 2, 1), (4, .iload 4, 2), (6, .aload_n 0, 1), (7, .getfield 9, 3), (10, .invokevirtual 46, 3), (13, .putfield 50, 3), (16, .aload_n 0, 1), (17, .aload_n 0, 1), (18, .aload_n 1, 1), (19, .iload_n 3, 1), (20, .iload 4, 2), (22, .aload_n 0, 1), (23, .getfield 15, 3), (26, .invokevirtual 46, 3), (29, .putfield 54, 3), (32, .return_, 1)], [])
def M_Measure_edits : ev_Me := (yX2_edits, cX2_edits, 7, (some .int), 2, [(0, .aload_n 0, 1), (1, .aload_n 1, 1), (2, .iload_n 2, 1), (3, .iload_n 3, 1), (4, .iload 4, 2), (6, .invokevirtual 57, 3), (9, .iconst 0, 1), (10, .istore 5, 2), (12, .iload 5, 2), (14, .aload_n 0, 1), (15, .getfield 50, 3), (18, .if_icmp .gt 63, 3), (21, .iconst 0, 1), (22, .istore 6, 2), (24, .iload 6, 2), (26, .aload_n 0, 1), (27, .getfield 54, 3), (30, .if_icmp .gt 45, 3), (33, .aload_n 0, 1), (34, .getfield 20, 3), (37, .iload 5, 2), (39, .aaload, 1), (40, .iload 6, 2), (42, .iload 5, 2), (44, .ifCond .eq 8, 3), (47, .iload 6, 2), (49, .ifCond .ne 11, 3), (52, .iload 5, 2), (54, .iload 6, 2), (56, .iadd, 1), (57, .goto 11, 3), (60, .aload_n 0, 1), (61, .iload 5, 2), (63, .iload 6, 2), (65, .invokevirtual 61, 3), (68, .iastore, 1), (69, .iinc 6 1, 3), (72, .goto (-48), 3), (75, .iinc 5 1, 3), (78, .goto (-66), 3), (81, .aload_n 0, 1), (82, .getfield 20, 3), (85, .aload_n 0, 1), (86, .getfield 50, 3), (89, .aaload, 1), (90, .aload_n 0, 1), (91, .getfield 54, 3), (94, .iaload, 1), (95, .ireturn, 1)], [(12, [1, 2, 3, 4, 6]), (24, [1, 2, 3, 4]), (52, [1, 2, 3, 4])])
def M_Measure_editsAt : ev_Me := (yX2_editsAt, cX2_editsAt, 4, (some .int), 2, [(0, .aload_n 0, 1), (1, .getfield 20, 3), (4, .iload_n 1, 1), (5, .iconst 1, 1), (6, .isub, 1), (7, .aaload, 1), (8, .iload_n 2, 1), (9, .iconst 1, 1), (10, .isub, 1), (11, .iaload, 1), (12, .aload_n 0, 1), (13, .getfield 9, 3), (16, .iload_n 1, 1), (17, .iconst 1, 1), (18, .isub, 1), (19, .iaload, 1), (20, .aload_n 0, 1), (21, .getfield 15, 3), (24, .iload_n 2, 1), (25, .iconst 1, 1), (26, .isub, 1), (27, .iaload, 1), (28, .if_icmp .ne 7, 3), (31, .iconst 0, 1), (32, .goto 4, 3), (35, .iconst 1, 1), (36, .iadd, 1), (37, .istore_n 3, 1), (38, .iload_n 3, 1), (39, .aload_n 0, 1), (40, .getfield 20, 3), (43, .iload_n 1, 1), (44, .iconst 1, 1), (45, .isub, 1), (46, .aaload, 1), (47, .iload_n 2, 1), (48, .iaload, 1), (49, .aload_n 0, 1), (50, .getfield 20, 3), (53, .iload_n 1, 1), (54, .aaload, 1), (55, .iload_n 2, 1), (56, .iconst 1, 1), (57, .isub, 1), (58, .iaload, 1), (59, .invokestatic 65, 3), (62, .iconst 1, 1), (63, .iadd, 1), (64, .invokestatic 65, 3), (67, .ireturn, 1)], [(36, [3])])
def M_Measure_inCommon : ev_Me := (yX2_inCommon, cX2_inCommon, 7, (some .int), 2, [(0, .aload_n 0, 1), (1, .aload_n 1, 1), (2, .iload_n 2, 1), (3, .iload_n 3, 1), (4, .iload 4, 2), (6, .invokevirtual 57, 3), (9, .iconst 0, 1), (10, .istore 5, 2), (12, .iload 5, 2), (14, .aload_n 0, 1), (15, .getfield 50, 3), (18, .if_icmp .gt 59, 3), (21, .iconst 0, 1), (22, .istore 6, 2), (24, .iload 6, 2), (26, .aload_n 0, 1), (27, .getfield 54, 3), (30, .if_icmp .gt 41, 3), (33, .aload_n 0, 1), (34, .getfield 20, 3), (37, .iload 5, 2), (39, .aaload, 1), (40, .iload 6, 2), (42, .iload 5, 2), (44, .ifCond .eq 8, 3), (47, .iload 6, 2), (49, .ifCond .ne 7, 3), (52, .iconst 0, 1), (53, .goto 11, 3), (56, .aload_n 0, 1), (57, .iload 5, 2), (59, .iload 6, 2), (61, .invokevirtual 70, 3), (64, .iastore, 1), (65, .iinc 6 1, 3), (68, .goto (-44), 3), (71, .iinc 5 1, 3), (74, .goto (-62), 3), (77, .aload_n 0, 1), (78, .getfield 20, 3), (81, .aload_n 0, 1), (82, .getfield 50, 3), (85, .aaload, 1), (86, .aload_n 0, 1), (87, .getfield 54, 3), (90, .iaload, 1), (91, .ireturn, 1)], [(12, [1, 2, 3, 4, 6]), (24, [1, 2, 3, 4])])
def M_Measure_inCommonAt : ev_Me := (yX2_inCommonAt, cX2_inCommonAt, 3, (some .int), 2, [(0, .aload_n 0, 1), (1, .getfield 9, 3), (4, .iload_n 1, 1), (5, .iconst 1, 1), (6, .isub, 1), (7, .iaload, 1), (8, .aload_n 0, 1), (9, .getfield 15, 3), (12, .iload_n 2, 1), (13, .iconst 1, 1), (14, .isub, 1), (15, .iaload, 1), (16, .if_icmp .ne 18, 3), (19, .aload_n 0, 1), (20, .getfield 20, 3), (23, .iload_n 1, 1), (24, .iconst 1, 1), (25, .isub, 1), (26, .aaload, 1), (27, .iload_n 2, 1), (28, .iconst 1, 1), (29, .isub, 1), (30, .iaload, 1), (31, .iconst 1, 1), (32, .iadd, 1), (33, .ireturn, 1), (34, .aload_n 0, 1), (35, .getfield 20, 3), (38, .iload_n 1, 1), (39, .iconst 1, 1), (40, .isub, 1), (41, .aaload, 1), (42, .iload_n 2, 1), (43, .iaload, 1), (44, .aload_n 0, 1), (45, .getfield 20, 3), (48, .iload_n 1, 1), (49, .aaload, 1), (50, .iload_n 2, 1), (51, .iconst 1, 1), (52, .isub, 1), (53, .iaload, 1), (54, .invokestatic 73, 3), (57, .ireturn, 1)], [])
def M_Measure_stepsTo : ev_Me := (yX2_stepsTo, cX2_stepsTo, 6, none, 2, [(0, .aload_n 0, 1), (1, .aload_n 1, 1), (2, .iload_n 3, 1), (3, .invokevirtual 76, 3), (6, .aload_n 0, 1), (7, .getfield 27, 3), (10, .iconst (-1), 1), (11, .invokestatic 80, 3), (14, .aload_n 0, 1), (15, .getfield 27, 3), (18, .iload_n 2, 1), (19, .iconst 0, 1), (20, .iastore, 1), (21, .iconst 0, 1), (22, .istore 4, 2), (24, .iload 4, 2), (26, .bipush 8, 2), (28, .if_icmp .ge 64, 3), (31, .iconst 0, 1), (32, .istore 5, 2), (34, .iload 5, 2), (36, .aload_n 0, 1), (37, .getfield 30, 3), (40, .getfield 86, 3), (43, .if_icmp .ge 43, 3), (46, .aload_n 0, 1), (47, .getfield 27, 3), (50, .iload 5, 2), (52, .iaload, 1), (53, .iconst (-1), 1), (54, .if_icmp .ne 26, 3), (57, .aload_n 0, 1), (58, .iload 5, 2), (60, .iload 4, 2), (62, .invokevirtual 89, 3), (65, .iconst (-1), 1), (66, .if_icmp .eq 14, 3), (69, .aload_n 0, 1), (70, .getfield 27, 3), (73, .iload 5, 2), (75, .iload 4, 2), (77, .iconst 1, 1), (78, .iadd, 1), (79, .iastore, 1), (80, .iinc 5 1, 3), (83, .goto (-49), 3), (86, .iinc 4 1, 3), (89, .goto (-65), 3), (92, .return_, 1)], [(24, [1, 2, 3, 5]), (34, [1, 2, 3])])
def M_Measure_markNear : ev_Me := (yX2_markNear, cX2_markNear, 6, none, 2, [(0, .iconst 0, 1), (1, .istore_n 3, 1), (2, .iload_n 3, 1), (3, .aload_n 0, 1), (4, .getfield 30, 3), (7, .getfield 86, 3), (10, .if_icmp .ge 75, 3), (13, .iconst 0, 1), (14, .istore 4, 2), (16, .iload 4, 2), (18, .iload_n 3, 1), (19, .if_icmp .ge 60, 3), (22, .aload_n 0, 1), (23, .aload_n 1, 1), (24, .iload_n 3, 1), (25, .iload 4, 2), (27, .aload_n 1, 1), (28, .getfield 92, 3), (31, .invokevirtual 97, 3), (34, .iload_n 2, 1), (35, .if_icmp .gt 7, 3), (38, .iconst 1, 1), (39, .goto 4, 3), (42, .iconst 0, 1), (43, .istore 5, 2), (45, .aload_n 0, 1), (46, .getfield 23, 3), (49, .iload_n 3, 1), (50, .bipush 8, 2), (52, .imul, 1), (53, .iload 4, 2), (55, .iadd, 1), (56, .iload 5, 2), (58, .bastore, 1), (59, .aload_n 0, 1), (60, .getfield 23, 3), (63, .iload 4, 2), (65, .bipush 8, 2), (67, .imul, 1), (68, .iload_n 3, 1), (69, .iadd, 1), (70, .iload 5, 2), (72, .bastore, 1), (73, .iinc 4 1, 3), (76, .goto (-60), 3), (79, .iinc 3 1, 3), (82, .goto (-80), 3), (85, .return_, 1)], [(2, [4, 5]), (16, [5]), (43, [5])])
def M_Measure_stepFrom : ev_Me := (yX2_stepFrom, cX2_stepFrom, 4, (some .int), 2, [(0, .iconst 0, 1), (1, .istore_n 3, 1), (2, .iload_n 3, 1), (3, .aload_n 0, 1), (4, .getfield 30, 3), (7, .getfield 86, 3), (10, .if_icmp .ge 35, 3), (13, .aload_n 0, 1), (14, .getfield 27, 3), (17, .iload_n 3, 1), (18, .iaload, 1), (19, .iload_n 2, 1), (20, .if_icmp .ne 19, 3), (23, .aload_n 0, 1), (24, .getfield 23, 3), (27, .iload_n 1, 1), (28, .bipush 8, 2), (30, .imul, 1), (31, .iload_n 3, 1), (32, .iadd, 1), (33, .baload, 1), (34, .ifCond .eq 5, 3), (37, .iload_n 3, 1), (38, .ireturn, 1), (39, .iinc 3 1, 3), (42, .goto (-40), 3), (45, .iconst (-1), 1), (46, .ireturn, 1)], [(2, [])])
def M_Notices_init : ev_Me := (yX3_init, cX3_init, 1, none, 3, [(0, .aload_n 0, 1), (1, .invokespecial 1, 3), (4, .aload_n 0, 1), (5, .bipush 12, 2), (7, .newarray .int, 2), (9, .putfield 9, 3), (12, .aload_n 0, 1), (13, .bipush 12, 2), (15, .newarray .int, 2), (17, .putfield 13, 3), (20, .aload_n 0, 1), (21, .bipush 12, 2), (23, .newarray .boolean, 2), (25, .putfield 16, 3), (28, .return_, 1)], [])
def M_Notices_hasRoom : ev_Me := (yX3_hasRoom, cX3_hasRoom, 1, (some .boolean), 3, [(0, .aload_n 0, 1), (1, .getfield 20, 3), (4, .bipush 12, 2), (6, .if_icmp .ge 7, 3), (9, .iconst 1, 1), (10, .goto 4, 3), (13, .iconst 0, 1), (14, .ireturn, 1)], [])
def M_Notices_take : ev_Me := (yX3_take, cX3_take, 4, none, 3, [(0, .aload_n 0, 1), (1, .getfield 20, 3), (4, .bipush 12, 2), (6, .if_icmp .ge 52, 3), (9, .aload_n 0, 1), (10, .getfield 9, 3), (13, .aload_n 0, 1), (14, .getfield 20, 3), (17, .iload_n 1, 1), (18, .iastore, 1), (19, .aload_n 0, 1), (20, .getfield 13, 3), (23, .aload_n 0, 1), (24, .getfield 20, 3), (27, .iload_n 2, 1), (28, .iastore, 1), (29, .aload_n 0, 1), (30, .getfield 16, 3), (33, .aload_n 0, 1), (34, .getfield 20, 3), (37, .iload_n 3, 1), (38, .iconst 1, 1), (39, .if_icmp .ne 7, 3), (42, .iconst 1, 1), (43, .goto 4, 3), (46, .iconst 0, 1), (47, .bastore, 1), (48, .aload_n 0, 1), (49, .dup, 1), (50, .getfield 20, 3), (53, .iconst 1, 1), (54, .iadd, 1), (55, .putfield 20, 3), (58, .return_, 1)], [(47, [1, 2, 3])])
def M_Notices_agreeWith : ev_Me := (yX3_agreeWith, cX3_agreeWith, 3, (some .boolean), 3, [(0, .iconst 0, 1), (1, .istore_n 2, 1), (2, .iload_n 2, 1), (3, .aload_n 0, 1), (4, .getfield 20, 3), (7, .if_icmp .ge 44, 3), (10, .aload_n 1, 1), (11, .aload_n 0, 1), (12, .getfield 9, 3), (15, .iload_n 2, 1), (16, .iaload, 1), (17, .iaload, 1), (18, .aload_n 1, 1), (19, .aload_n 0, 1), (20, .getfield 13, 3), (23, .iload_n 2, 1), (24, .iaload, 1), (25, .iaload, 1), (26, .if_icmp .ne 7, 3), (29, .iconst 1, 1), (30, .goto 4, 3), (33, .iconst 0, 1), (34, .aload_n 0, 1), (35, .getfield 16, 3), (38, .iload_n 2, 1), (39, .baload, 1), (40, .if_icmp .eq 5, 3), (43, .iconst 0, 1), (44, .ireturn, 1), (45, .iinc 2 1, 3), (48, .goto (-46), 3), (51, .iconst 1, 1), (52, .ireturn, 1)], [(2, []), (34, [])])
def M_Past_init : ev_Me := (yX4_init, cX4_init, 2, none, 4, [(0, .aload_n 0, 1), (1, .invokespecial 1, 3), (4, .aload_n 0, 1), (5, .bipush 15, 2), (7, .anewarray 9, 3), (10, .putfield 11, 3), (13, .aload_n 0, 1), (14, .iconst 3, 1), (15, .anewarray 9, 3), (18, .putfield 15, 3), (21, .aload_n 0, 1), (22, .iconst 3, 1), (23, .newarray .boolean, 2), (25, .putfield 18, 3), (28, .iconst 0, 1), (29, .istore_n 1, 1), (30, .iload_n 1, 1), (31, .bipush 15, 2), (33, .if_icmp .ge 22, 3), (36, .aload_n 0, 1), (37, .getfield 11, 3), (40, .iload_n 1, 1), (41, .new 9, 3), (44, .dup, 1), (45, .invokespecial 22, 3), (48, .aastore, 1), (49, .iinc 1 1, 3), (52, .goto (-22), 3), (55, .iconst 0, 1), (56, .istore_n 1, 1), (57, .iload_n 1, 1), (58, .iconst 3, 1), (59, .if_icmp .ge 22, 3), (62, .aload_n 0, 1), (63, .getfield 15, 3), (66, .iload_n 1, 1), (67, .new 9, 3), (70, .dup, 1), (71, .invokespecial 22, 3), (74, .aastore, 1), (75, .iinc 1 1, 3), (78, .goto (-21), 3), (81, .return_, 1)], [(30, []), (57, [])])
def M_Past_remember : ev_Me := (yX4_remember, cX4_remember, 2, none, 4, [(0, .aload_n 0, 1), (1, .aload_n 0, 1), (2, .getfield 23, 3), (5, .iconst 1, 1), (6, .iadd, 1), (7, .bipush 15, 2), (9, .irem, 1), (10, .putfield 23, 3), (13, .aload_n 0, 1), (14, .getfield 11, 3), (17, .aload_n 0, 1), (18, .getfield 23, 3), (21, .aaload, 1), (22, .aload_n 1, 1), (23, .invokevirtual 27, 3), (26, .aload_n 0, 1), (27, .aload_n 0, 1), (28, .getfield 31, 3), (31, .iconst 1, 1), (32, .iadd, 1), (33, .bipush 15, 2), (35, .invokestatic 34, 3), (38, .putfield 31, 3), (41, .return_, 1)], [])
def M_Past_bringBack : ev_Me := (yX4_bringBack, cX4_bringBack, 2, (some .boolean), 4, [(0, .aload_n 0, 1), (1, .getfield 31, 3), (4, .ifCond .ne 5, 3), (7, .iconst 0, 1), (8, .ireturn, 1), (9, .aload_n 1, 1), (10, .aload_n 0, 1), (11, .getfield 11, 3), (14, .aload_n 0, 1), (15, .getfield 23, 3), (18, .aaload, 1), (19, .invokevirtual 27, 3), (22, .aload_n 0, 1), (23, .aload_n 0, 1), (24, .getfield 23, 3), (27, .bipush 15, 2), (29, .iadd, 1), (30, .iconst 1, 1), (31, .isub, 1), (32, .bipush 15, 2), (34, .irem, 1), (35, .putfield 23, 3), (38, .aload_n 0, 1), (39, .dup, 1), (40, .getfield 31, 3), (43, .iconst 1, 1), (44, .isub, 1), (45, .putfield 31, 3), (48, .iconst 1, 1), (49, .ireturn, 1)], [])
def M_Past_keepUnder : ev_Me := (yX4_keepUnder, cX4_keepUnder, 3, (some .boolean), 4, [(0, .iload_n 1, 1), (1, .ifCond .lt 8, 3), (4, .iload_n 1, 1), (5, .iconst 3, 1), (6, .if_icmp .lt 5, 3), (9, .iconst 0, 1), (10, .ireturn, 1), (11, .aload_n 0, 1), (12, .getfield 15, 3), (15, .iload_n 1, 1), (16, .aaload, 1), (17, .aload_n 2, 1), (18, .invokevirtual 27, 3), (21, .aload_n 0, 1), (22, .getfield 18, 3), (25, .iload_n 1, 1), (26, .iconst 1, 1), (27, .bastore, 1), (28, .iconst 1, 1), (29, .ireturn, 1)], [])
def M_Past_takeUp : ev_Me := (yX4_takeUp, cX4_takeUp, 3, (some .boolean), 4, [(0, .iload_n 1, 1), (1, .ifCond .lt 17, 3), (4, .iload_n 1, 1), (5, .iconst 3, 1), (6, .if_icmp .ge 12, 3), (9, .aload_n 0, 1), (10, .getfield 18, 3), (13, .iload_n 1, 1), (14, .baload, 1), (15, .ifCond .ne 5, 3), (18, .iconst 0, 1), (19, .ireturn, 1), (20, .aload_n 2, 1), (21, .aload_n 0, 1), (22, .getfield 15, 3), (25, .iload_n 1, 1), (26, .aaload, 1), (27, .invokevirtual 27, 3), (30, .aload_n 0, 1), (31, .iconst 0, 1), (32, .putfield 31, 3), (35, .iconst 1, 1), (36, .ireturn, 1)], [])
def M_Past_forgetAll : ev_Me := (yX4_forgetAll, cX4_forgetAll, 2, none, 4, [(0, .aload_n 0, 1), (1, .iconst 0, 1), (2, .putfield 31, 3), (5, .iconst 0, 1), (6, .istore_n 1, 1), (7, .iload_n 1, 1), (8, .iconst 3, 1), (9, .if_icmp .ge 16, 3), (12, .aload_n 0, 1), (13, .getfield 18, 3), (16, .iload_n 1, 1), (17, .iconst 0, 1), (18, .bastore, 1), (19, .iinc 1 1, 3), (22, .goto (-15), 3), (25, .return_, 1)], [(7, [])])
def M_Row_init : ev_Me := (yX5_init, cX5_init, 1, none, 5, [(0, .aload_n 0, 1), (1, .invokespecial 3, 3), (4, .aload_n 0, 1), (5, .bipush 9, 2), (7, .newarray .long, 2), (9, .putfield 9, 3), (12, .return_, 1)], [])
def M_Row_tell : ev_Me := (yX5_tell, cX5_tell, 3, none, 5, [(0, .aload_n 0, 1), (1, .getfield 15, 3), (4, .aload_n 0, 1), (5, .getfield 9, 3), (8, .arraylength, 1), (9, .if_icmp .ge 23, 3), (12, .aload_n 0, 1), (13, .getfield 9, 3), (16, .aload_n 0, 1), (17, .getfield 15, 3), (20, .lload_n 1, 1), (21, .lastore, 1), (22, .aload_n 0, 1), (23, .dup, 1), (24, .getfield 15, 3), (27, .iconst 1, 1), (28, .iadd, 1), (29, .putfield 15, 3), (32, .return_, 1)], [])
def M_Row_tellTwo : ev_Me := (yX5_tellTwo, cX5_tellTwo, 5, none, 5, [(0, .aload_n 0, 1), (1, .iconst 0, 1), (2, .putfield 15, 3), (5, .aload_n 0, 1), (6, .lload_n 1, 1), (7, .invokevirtual 19, 3), (10, .aload_n 0, 1), (11, .lload_n 3, 1), (12, .invokevirtual 19, 3), (15, .return_, 1)], [])
def M_Row_tellFraction : ev_Me := (yX5_tellFraction, cX5_tellFraction, 12, none, 5, [(0, .lload_n 1, 1), (1, .lconst 0, 1), (2, .lcmp, 1), (3, .ifCond .eq 9, 3), (6, .lload_n 3, 1), (7, .lconst 0, 1), (8, .lcmp, 1), (9, .ifCond .ne 10, 3), (12, .aload_n 0, 1), (13, .lconst 0, 1), (14, .lconst 1, 1), (15, .invokevirtual 23, 3), (18, .return_, 1), (19, .lload_n 1, 1), (20, .lstore 5, 2), (22, .lload_n 3, 1), (23, .lstore 7, 2), (25, .iconst 0, 1), (26, .istore 9, 2), (28, .iload 9, 2), (30, .bipush 100, 2), (32, .if_icmp .ge 31, 3), (35, .lload 7, 2), (37, .lconst 0, 1), (38, .lcmp, 1), (39, .ifCond .eq 24, 3), (42, .lload 5, 2), (44, .lload 7, 2), (46, .lrem, 1), (47, .lstore 10, 2), (49, .lload 7, 2), (51, .lstore 5, 2), (53, .lload 10, 2), (55, .lstore 7, 2), (57, .iinc 9 1, 3), (60, .goto (-32), 3), (63, .lload 5, 2), (65, .lconst 0, 1), (66, .lcmp, 1), (67, .ifCond .eq 15, 3), (70, .aload_n 0, 1), (71, .lload_n 1, 1), (72, .lload 5, 2), (74, .ldiv, 1), (75, .lload_n 3, 1), (76, .lload 5, 2), (78, .ldiv, 1), (79, .invokevirtual 23, 3), (82, .return_, 1)], [(12, [1, 2, 3, 4, 5, 6, 7, 8, 9, 10, 11]), (28, [2, 4, 6, 8, 10, 11]), (63, [2, 4, 6, 7, 8, 9, 10, 11])])
def M_Rule_init : ev_Me := (yX6_init, cX6_init, 1, none, 6, [(0, .aload_n 0, 1), (1, .invokespecial 3, 3), (4, .aload_n 0, 1), (5, .bipush 40, 2), (7, .newarray .int, 2), (9, .putfield 11, 3), (12, .aload_n 0, 1), (13, .bipush 40, 2), (15, .newarray .int, 2), (17, .putfield 15, 3), (20, .aload_n 0, 1), (21, .iconst 5, 1), (22, .newarray .boolean, 2), (24, .putfield 18, 3), (27, .return_, 1)], [])
def M_Rule_bePlain : ev_Me := (yX6_bePlain, cX6_bePlain, 2, none, 6, [(0, .aload_n 0, 1), (1, .invokevirtual 22, 3), (4, .iconst 0, 1), (5, .istore_n 1, 1), (6, .iload_n 1, 1), (7, .ldc 25, 2), (9, .invokevirtual 27, 3), (12, .if_icmp .ge 20, 3), (15, .aload_n 0, 1), (16, .ldc 25, 2), (18, .iload_n 1, 1), (19, .invokevirtual 33, 3), (22, .invokevirtual 37, 3), (25, .pop, 1), (26, .iinc 1 1, 3), (29, .goto (-23), 3), (32, .aload_n 0, 1), (33, .iconst 1, 1), (34, .invokevirtual 41, 3), (37, .return_, 1)], [(6, [])])
def M_Rule_copy : ev_Me := (yX6_copy, cX6_copy, 2, none, 6, [(0, .aload_n 1, 1), (1, .getfield 11, 3), (4, .iconst 0, 1), (5, .aload_n 0, 1), (6, .getfield 11, 3), (9, .iconst 0, 1), (10, .bipush 40, 2), (12, .invokestatic 45, 3), (15, .aload_n 0, 1), (16, .aload_n 1, 1), (17, .getfield 51, 3), (20, .putfield 51, 3), (23, .return_, 1)], [])
def M_Rule_read : ev_Me := (yX6_read, cX6_read, 4, (some .int), 6, [(0, .aload_n 1, 1), (1, .getfield 55, 3), (4, .ifCond .ne 9, 3), (7, .aload_n 0, 1), (8, .invokevirtual 58, 3), (11, .iconst (-1), 1), (12, .ireturn, 1), (13, .aload_n 0, 1), (14, .invokevirtual 22, 3), (17, .aload_n 1, 1), (18, .getfield 55, 3), (21, .bipush 40, 2), (23, .invokestatic 61, 3), (26, .istore_n 2, 1), (27, .iconst 0, 1), (28, .istore_n 3, 1), (29, .iload_n 3, 1), (30, .iload_n 2, 1), (31, .if_icmp .ge 23, 3), (34, .aload_n 0, 1), (35, .aload_n 1, 1), (36, .iload_n 3, 1), (37, .invokevirtual 67, 3), (40, .invokevirtual 37, 3), (43, .ifCond .ne 5, 3), (46, .iload_n 3, 1), (47, .ireturn, 1), (48, .iinc 3 1, 3), (51, .goto (-22), 3), (54, .aload_n 1, 1), (55, .getfield 55, 3), (58, .bipush 40, 2), (60, .if_icmp .gt 17, 3), (63, .aload_n 0, 1), (64, .getfield 70, 3), (67, .ifCond .ne 10, 3), (70, .aload_n 0, 1), (71, .getfield 74, 3), (74, .ifCond .le 5, 3), (77, .iload_n 2, 1), (78, .ireturn, 1), (79, .aload_n 0, 1), (80, .iconst 1, 1), (81, .invokevirtual 41, 3), (84, .iconst (-1), 1), (85, .ireturn, 1)], [(29, [])])
def M_Rule_begin : ev_Me := (yX6_begin, cX6_begin, 1, none, 6, [(0, .aload_n 0, 1), (1, .iconst 0, 1), (2, .putfield 51, 3), (5, .aload_n 0, 1), (6, .iconst 0, 1), (7, .putfield 77, 3), (10, .aload_n 0, 1), (11, .iconst 0, 1), (12, .putfield 74, 3), (15, .aload_n 0, 1), (16, .iconst 0, 1), (17, .putfield 80, 3), (20, .aload_n 0, 1), (21, .iconst 1, 1), (22, .putfield 70, 3), (25, .aload_n 0, 1), (26, .getfield 18, 3), (29, .iconst 0, 1), (30, .iconst 0, 1), (31, .bastore, 1), (32, .return_, 1)], [])
def M_Rule_accepts : ev_Me := (yX6_accepts, cX6_accepts, 3, (some .boolean), 6, [(0, .iload_n 1, 1), (1, .bipush 48, 2), (3, .if_icmp .lt 18, 3), (6, .iload_n 1, 1), (7, .bipush 57, 2), (9, .if_icmp .gt 12, 3), (12, .aload_n 0, 1), (13, .iload_n 1, 1), (14, .bipush 48, 2), (16, .isub, 1), (17, .invokevirtual 83, 3), (20, .ireturn, 1), (21, .aload_n 0, 1), (22, .iconst 0, 1), (23, .putfield 80, 3), (26, .aload_n 0, 1), (27, .getfield 70, 3), (30, .ifCond .ne 22, 3), (33, .iload_n 1, 1), (34, .bipush 41, 2), (36, .if_icmp .ne 10, 3), (39, .aload_n 0, 1), (40, .invokevirtual 87, 3), (43, .goto 8, 3), (46, .aload_n 0, 1), (47, .iload_n 1, 1), (48, .invokevirtual 91, 3), (51, .ireturn, 1), (52, .iload_n 1, 1), (53, .bipush 45, 2), (55, .if_icmp .ne 12, 3), (58, .aload_n 0, 1), (59, .sipush 256, 3), (62, .invokevirtual 94, 3), (65, .iconst 1, 1), (66, .ireturn, 1), (67, .iload_n 1, 1), (68, .bipush 40, 2), (70, .if_icmp .ne 8, 3), (73, .aload_n 0, 1), (74, .invokevirtual 97, 3), (77, .ireturn, 1), (78, .ldc 100, 2), (80, .iload_n 1, 1), (81, .invokevirtual 102, 3), (84, .istore_n 2, 1), (85, .iload_n 2, 1), (86, .ifCond .ge 5, 3), (89, .iconst 0, 1), (90, .ireturn, 1), (91, .aload_n 0, 1), (92, .iconst (-1), 1), (93, .iload_n 2, 1), (94, .isub, 1), (95, .invokevirtual 106, 3), (98, .aload_n 0, 1), (99, .iconst 0, 1), (100, .putfield 70, 3), (103, .iconst 1, 1), (104, .ireturn, 1)], [(21, [2])])
def M_Rule_acceptsDigit : ev_Me := (yX6_acceptsDigit, cX6_acceptsDigit, 2, (some .boolean), 6, [(0, .aload_n 0, 1), (1, .getfield 70, 3), (4, .ifCond .eq 20, 3), (7, .aload_n 0, 1), (8, .iload_n 1, 1), (9, .invokevirtual 106, 3), (12, .aload_n 0, 1), (13, .iconst 1, 1), (14, .putfield 80, 3), (17, .aload_n 0, 1), (18, .iconst 0, 1), (19, .putfield 70, 3), (22, .iconst 1, 1), (23, .ireturn, 1), (24, .aload_n 0, 1), (25, .getfield 80, 3), (28, .ifCond .eq 18, 3), (31, .aload_n 0, 1), (32, .getfield 80, 3), (35, .iconst 3, 1), (36, .if_icmp .eq 10, 3), (39, .aload_n 0, 1), (40, .getfield 51, 3), (43, .ifCond .ne 5, 3), (46, .iconst 0, 1), (47, .ireturn, 1), (48, .aload_n 0, 1), (49, .getfield 11, 3), (52, .aload_n 0, 1), (53, .getfield 51, 3), (56, .iconst 1, 1), (57, .isub, 1), (58, .aload_n 0, 1), (59, .getfield 11, 3), (62, .aload_n 0, 1), (63, .getfield 51, 3), (66, .iconst 1, 1), (67, .isub, 1), (68, .iaload, 1), (69, .bipush 10, 2), (71, .imul, 1), (72, .iload_n 1, 1), (73, .iadd, 1), (74, .iastore, 1), (75, .aload_n 0, 1), (76, .dup, 1), (77, .getfield 80, 3), (80, .iconst 1, 1), (81, .iadd, 1), (82, .putfield 80, 3), (85, .iconst 1, 1), (86, .ireturn, 1)], [])
def M_Rule_opens : ev_Me := (yX6_opens, cX6_opens, 1, (some .boolean), 6, [(0, .aload_n 0, 1), (1, .getfield 74, 3), (4, .iconst 4, 1), (5, .if_icmp .ne 5, 3), (8, .iconst 0, 1), (9, .ireturn, 1), (10, .aload_n 0, 1), (11, .dup, 1), (12, .getfield 74, 3), (15, .iconst 1, 1), (16, .iadd, 1), (17, .putfield 74, 3), (20, .aload_n 0, 1), (21, .getfield 18, 3), (24, .aload_n 0, 1), (25, .getfield 74, 3), (28, .iconst 0, 1), (29, .bastore, 1), (30, .aload_n 0, 1), (31, .bipush 40, 2), (33, .invokevirtual 94, 3), (36, .iconst 1, 1), (37, .ireturn, 1)], [])
def M_Rule_closes : ev_Me := (yX6_closes, cX6_closes, 1, (some .boolean), 6, [(0, .aload_n 0, 1), (1, .getfield 74, 3), (4, .ifCond .ne 5, 3), (7, .iconst 0, 1), (8, .ireturn, 1), (9, .aload_n 0, 1), (10, .dup, 1), (11, .getfield 74, 3), (14, .iconst 1, 1), (15, .isub, 1), (16, .putfield 74, 3), (19, .aload_n 0, 1), (20, .iconst 1, 1), (21, .invokevirtual 41, 3), (24, .aload_n 0, 1), (25, .invokevirtual 109, 3), (28, .pop, 1), (29, .iconst 1, 1), (30, .ireturn, 1)], [])
def M_Rule_acceptsBetween : ev_Me := (yX6_acceptsBetween, cX6_acceptsBetween, 3, (some .boolean), 6, [(0, .iload_n 1, 1), (1, .invokestatic 112, 3), (4, .istore_n 2, 1), (5, .iload_n 2, 1), (6, .ifCond .eq 20, 3), (9, .iload_n 2, 1), (10, .iconst 1, 1), (11, .if_icmp .ne 17, 3), (14, .aload_n 0, 1), (15, .getfield 18, 3), (18, .aload_n 0, 1), (19, .getfield 74, 3), (22, .baload, 1), (23, .ifCond .eq 5, 3), (26, .iconst 0, 1), (27, .ireturn, 1), (28, .aload_n 0, 1), (29, .getfield 18, 3), (32, .aload_n 0, 1), (33, .getfield 74, 3), (36, .aload_n 0, 1), (37, .getfield 18, 3), (40, .aload_n 0, 1), (41, .getfield 74, 3), (44, .baload, 1), (45, .ifCond .ne 8, 3), (48, .iload_n 2, 1), (49, .iconst 1, 1), (50, .if_icmp .ne 7, 3), (53, .iconst 1, 1), (54, .goto 4, 3), (57, .iconst 0, 1), (58, .bastore, 1), (59, .aload_n 0, 1), (60, .iload_n 2, 1), (61, .invokevirtual 41, 3), (64, .aload_n 0, 1), (65, .iload_n 1, 1), (66, .invokevirtual 94, 3), (69, .aload_n 0, 1), (70, .iconst 1, 1), (71, .putfield 70, 3), (74, .iconst 1, 1), (75, .ireturn, 1)], [(28, []), (58, [])])
def M_Rule_moveDownTo : ev_Me := (yX6_moveDownTo, cX6_moveDownTo, 3, none, 6, [(0, .aload_n 0, 1), (1, .getfield 77, 3), (4, .istore_n 2, 1), (5, .iload_n 2, 1), (6, .ifCond .le 33, 3), (9, .aload_n 0, 1), (10, .getfield 15, 3), (13, .iload_n 2, 1), (14, .iconst 1, 1), (15, .isub, 1), (16, .iaload, 1), (17, .invokestatic 112, 3), (20, .iload_n 1, 1), (21, .if_icmp .lt 18, 3), (24, .aload_n 0, 1), (25, .aload_n 0, 1), (26, .invokevirtual 109, 3), (29, .ineg, 1), (30, .invokevirtual 106, 3), (33, .iinc 2 (-1), 3), (36, .goto (-31), 3), (39, .return_, 1)], [(5, [])])
def M_Rule_rankOf : ev_Me := (yX6_rankOf, cX6_rankOf, 1, (some .int), 6, [(0, .iload_n 0, 1), (1, .lookupswitch 83 #[(42, 79), (43, 77), (45, 77), (47, 79), (60, 75), (61, 75), (62, 75), (256, 81)], 75), (76, .iconst 1, 1), (77, .ireturn, 1), (78, .iconst 2, 1), (79, .ireturn, 1), (80, .iconst 3, 1), (81, .ireturn, 1), (82, .iconst 4, 1), (83, .ireturn, 1), (84, .iconst 0, 1), (85, .ireturn, 1)], [])
def M_Rule_emit : ev_Me := (yX6_emit, cX6_emit, 2, none, 6, [(0, .aload_n 0, 1), (1, .getfield 51, 3), (4, .bipush 40, 2), (6, .if_icmp .ge 23, 3), (9, .aload_n 0, 1), (10, .getfield 11, 3), (13, .aload_n 0, 1), (14, .getfield 51, 3), (17, .iload_n 1, 1), (18, .iastore, 1), (19, .aload_n 0, 1), (20, .dup, 1), (21, .getfield 51, 3), (24, .iconst 1, 1), (25, .iadd, 1), (26, .putfield 51, 3), (29, .return_, 1)], [])
def M_Rule_push : ev_Me := (yX6_push, cX6_push, 2, none, 6, [(0, .aload_n 0, 1), (1, .getfield 77, 3), (4, .bipush 40, 2), (6, .if_icmp .ge 23, 3), (9, .aload_n 0, 1), (10, .getfield 15, 3), (13, .aload_n 0, 1), (14, .getfield 77, 3), (17, .iload_n 1, 1), (18, .iastore, 1), (19, .aload_n 0, 1), (20, .dup, 1), (21, .getfield 77, 3), (24, .iconst 1, 1), (25, .iadd, 1), (26, .putfield 77, 3), (29, .return_, 1)], [])
def M_Rule_pop : ev_Me := (yX6_pop, cX6_pop, 1, (some .int), 6, [(0, .aload_n 0, 1), (1, .getfield 77, 3), (4, .ifCond .ne 5, 3), (7, .iconst 0, 1), (8, .ireturn, 1), (9, .aload_n 0, 1), (10, .dup, 1), (11, .getfield 77, 3), (14, .iconst 1, 1), (15, .isub, 1), (16, .putfield 77, 3), (19, .aload_n 0, 1), (20, .getfield 15, 3), (23, .aload_n 0, 1), (24, .getfield 77, 3), (27, .iaload, 1), (28, .ireturn, 1)], [])
def M_Rule_workOut : ev_Me := (yX6_workOut, cX6_workOut, 5, (some .int), 6, [(0, .aload_n 0, 1), (1, .iconst 0, 1), (2, .putfield 77, 3), (5, .iconst 0, 1), (6, .istore_n 2, 1), (7, .iload_n 2, 1), (8, .aload_n 0, 1), (9, .getfield 51, 3), (12, .if_icmp .ge 87, 3), (15, .aload_n 0, 1), (16, .getfield 11, 3), (19, .iload_n 2, 1), (20, .iaload, 1), (21, .istore_n 3, 1), (22, .iload_n 3, 1), (23, .ifCond .lt 11, 3), (26, .aload_n 0, 1), (27, .iload_n 3, 1), (28, .invokevirtual 94, 3), (31, .goto 62, 3), (34, .iload_n 3, 1), (35, .aload_n 1, 1), (36, .arraylength, 1), (37, .ineg, 1), (38, .if_icmp .lt 15, 3), (41, .aload_n 0, 1), (42, .aload_n 1, 1), (43, .iconst (-1), 1), (44, .iload_n 3, 1), (45, .isub, 1), (46, .iaload, 1), (47, .invokevirtual 94, 3), (50, .goto 43, 3), (53, .iload_n 3, 1), (54, .sipush (-256), 3), (57, .if_icmp .ne 15, 3), (60, .aload_n 0, 1), (61, .aload_n 0, 1), (62, .invokevirtual 109, 3), (65, .ineg, 1), (66, .invokevirtual 94, 3), (69, .goto 24, 3), (72, .aload_n 0, 1), (73, .invokevirtual 109, 3), (76, .istore 4, 2), (78, .aload_n 0, 1), (79, .iload_n 3, 1), (80, .ineg, 1), (81, .aload_n 0, 1), (82, .invokevirtual 109, 3), (85, .iload 4, 2), (87, .invokestatic 115, 3), (90, .invokevirtual 94, 3), (93, .iinc 2 1, 3), (96, .goto (-89), 3), (99, .aload_n 0, 1), (100, .invokevirtual 109, 3), (103, .ireturn, 1)], [(7, [3, 4]), (46, [3, 4])])
def M_Rule_between : ev_Me := (yX6_between, cX6_between, 3, (some .int), 6, [(0, .iload_n 0, 1), (1, .lookupswitch 104 #[(42, 100), (43, 92), (45, 96), (60, 59), (61, 81), (62, 70)], 59), (60, .iload_n 1, 1), (61, .iload_n 2, 1), (62, .if_icmp .ge 7, 3), (65, .iconst 1, 1), (66, .goto 4, 3), (69, .iconst 0, 1), (70, .ireturn, 1), (71, .iload_n 1, 1), (72, .iload_n 2, 1), (73, .if_icmp .le 7, 3), (76, .iconst 1, 1), (77, .goto 4, 3), (80, .iconst 0, 1), (81, .ireturn, 1), (82, .iload_n 1, 1), (83, .iload_n 2, 1), (84, .if_icmp .ne 7, 3), (87, .iconst 1, 1), (88, .goto 4, 3), (91, .iconst 0, 1), (92, .ireturn, 1), (93, .iload_n 1, 1), (94, .iload_n 2, 1), (95, .iadd, 1), (96, .ireturn, 1), (97, .iload_n 1, 1), (98, .iload_n 2, 1), (99, .isub, 1), (100, .ireturn, 1), (101, .iload_n 1, 1), (102, .iload_n 2, 1), (103, .imul, 1), (104, .ireturn, 1), (105, .iload_n 2, 1), (106, .ifCond .ne 7, 3), (109, .iconst 0, 1), (110, .goto 6, 3), (113, .iload_n 1, 1), (114, .iload_n 2, 1), (115, .idiv, 1), (116, .ireturn, 1)], [])
def M_State_init : ev_Me := (yX7_init, cX7_init, 1, none, 7, [(0, .aload_n 0, 1), (1, .invokespecial 3, 3), (4, .aload_n 0, 1), (5, .bipush 8, 2), (7, .newarray .int, 2), (9, .putfield 9, 3), (12, .aload_n 0, 1), (13, .bipush 8, 2), (15, .newarray .int, 2), (17, .putfield 15, 3), (20, .aload_n 0, 1), (21, .bipush 8, 2), (23, .newarray .int, 2), (25, .putfield 18, 3), (28, .aload_n 0, 1), (29, .getfield 15, 3), (32, .iconst 5, 1), (33, .invokestatic 21, 3), (36, .return_, 1)], [])
def M_State_copy : ev_Me := (yX7_copy, cX7_copy, 2, none, 7, [(0, .aload_n 1, 1), (1, .getfield 9, 3), (4, .iconst 0, 1), (5, .aload_n 0, 1), (6, .getfield 9, 3), (9, .iconst 0, 1), (10, .bipush 8, 2), (12, .invokestatic 27, 3), (15, .aload_n 1, 1), (16, .getfield 15, 3), (19, .iconst 0, 1), (20, .aload_n 0, 1), (21, .getfield 15, 3), (24, .iconst 0, 1), (25, .bipush 8, 2), (27, .invokestatic 27, 3), (30, .aload_n 1, 1), (31, .getfield 18, 3), (34, .iconst 0, 1), (35, .aload_n 0, 1), (36, .getfield 18, 3), (39, .iconst 0, 1), (40, .bipush 8, 2), (42, .invokestatic 27, 3), (45, .aload_n 0, 1), (46, .aload_n 1, 1), (47, .getfield 33, 3), (50, .putfield 33, 3), (53, .aload_n 0, 1), (54, .aload_n 1, 1), (55, .getfield 37, 3), (58, .putfield 37, 3), (61, .aload_n 0, 1), (62, .aload_n 1, 1), (63, .getfield 40, 3), (66, .putfield 40, 3), (69, .return_, 1)], [])
def M_State_moodsTogether : ev_Me := (yX7_moodsTogether, cX7_moodsTogether, 1, (some .int), 7, [(0, .aload_n 0, 1), (1, .getfield 15, 3), (4, .invokestatic 43, 3), (7, .ireturn, 1)], [])
def M_State_putOffer : ev_Me := (yX7_putOffer, cX7_putOffer, 4, (some .int), 7, [(0, .iload_n 1, 1), (1, .invokestatic 47, 3), (4, .ifCond .eq 13, 3), (7, .iload_n 2, 1), (8, .ifCond .lt 9, 3), (11, .iload_n 2, 1), (12, .bipush 9, 2), (14, .if_icmp .le 5, 3), (17, .iconst (-1), 1), (18, .ireturn, 1), (19, .aload_n 0, 1), (20, .getfield 18, 3), (23, .iload_n 1, 1), (24, .iaload, 1), (25, .istore_n 3, 1), (26, .aload_n 0, 1), (27, .getfield 18, 3), (30, .iload_n 1, 1), (31, .iload_n 2, 1), (32, .iastore, 1), (33, .iload_n 3, 1), (34, .ireturn, 1)], [])
def M_State_stir : ev_Me := (yX7_stir, cX7_stir, 4, (some .int), 7, [(0, .iload_n 1, 1), (1, .invokestatic 47, 3), (4, .ifCond .eq 19, 3), (7, .iload_n 2, 1), (8, .ifCond .eq 15, 3), (11, .iload_n 2, 1), (12, .bipush (-9), 2), (14, .if_icmp .lt 9, 3), (17, .iload_n 2, 1), (18, .bipush 9, 2), (20, .if_icmp .le 5, 3), (23, .iconst (-1), 1), (24, .ireturn, 1), (25, .aload_n 0, 1), (26, .getfield 15, 3), (29, .iload_n 1, 1), (30, .iaload, 1), (31, .iload_n 2, 1), (32, .iadd, 1), (33, .istore_n 3, 1), (34, .iload_n 3, 1), (35, .ifCond .ge 6, 3), (38, .bipush (-2), 2), (40, .ireturn, 1), (41, .iload_n 3, 1), (42, .bipush 9, 2), (44, .if_icmp .le 6, 3), (47, .bipush (-3), 2), (49, .ireturn, 1), (50, .aload_n 0, 1), (51, .getfield 15, 3), (54, .iload_n 1, 1), (55, .iload_n 3, 1), (56, .iastore, 1), (57, .iload_n 3, 1), (58, .ireturn, 1)], [])
def M_Text_init : ev_Me := (yX8_init, cX8_init, 1, none, 8, [(0, .aload_n 0, 1), (1, .invokespecial 1, 3), (4, .aload_n 0, 1), (5, .bipush 80, 2), (7, .newarray .char, 2), (9, .putfield 9, 3), (12, .return_, 1)], [])
def M_Text_signAt : ev_Me := (yX8_signAt, cX8_signAt, 2, (some .char), 8, [(0, .iload_n 1, 1), (1, .ifCond .lt 20, 3), (4, .iload_n 1, 1), (5, .aload_n 0, 1), (6, .getfield 13, 3), (9, .if_icmp .ge 12, 3), (12, .aload_n 0, 1), (13, .getfield 9, 3), (16, .iload_n 1, 1), (17, .caload, 1), (18, .goto 4, 3), (21, .iconst 0, 1), (22, .ireturn, 1)], [])
def M_Text_takeFour : ev_Me := (yX8_takeFour, cX8_takeFour, 3, (some .boolean), 8, [(0, .aload_n 0, 1), (1, .getfield 13, 3), (4, .bipush 76, 2), (6, .if_icmp .le 5, 3), (9, .iconst 0, 1), (10, .ireturn, 1), (11, .bipush 24, 2), (13, .istore_n 2, 1), (14, .iload_n 2, 1), (15, .ifCond .lt 36, 3), (18, .aload_n 0, 1), (19, .getfield 9, 3), (22, .aload_n 0, 1), (23, .getfield 13, 3), (26, .iload_n 1, 1), (27, .iload_n 2, 1), (28, .iushr, 1), (29, .sipush 255, 3), (32, .iand, 1), (33, .i2c, 1), (34, .castore, 1), (35, .aload_n 0, 1), (36, .dup, 1), (37, .getfield 13, 3), (40, .iconst 1, 1), (41, .iadd, 1), (42, .putfield 13, 3), (45, .iinc 2 (-8), 3), (48, .goto (-34), 3), (51, .iconst 1, 1), (52, .ireturn, 1)], [(14, [])])
def M_Union_init : ev_Me := (yX9_init, cX9_init, 2, none, 9, [(0, .aload_n 0, 1), (1, .invokespecial 3, 3), (4, .aload_n 0, 1), (5, .bipush 8, 2), (7, .newarray .int, 2), (9, .putfield 9, 3), (12, .aload_n 0, 1), (13, .bipush 7, 2), (15, .newarray .int, 2), (17, .putfield 15, 3), (20, .aload_n 0, 1), (21, .bipush 8, 2), (23, .newarray .int, 2), (25, .putfield 18, 3), (28, .aload_n 0, 1), (29, .bipush 8, 2), (31, .newarray .int, 2), (33, .putfield 21, 3), (36, .aload_n 0, 1), (37, .aload_n 1, 1), (38, .putfield 24, 3), (41, .return_, 1)], [])
def M_Union_tally : ev_Me := (yX9_tally, cX9_tally, 6, none, 9, [(0, .aload_n 0, 1), (1, .getfield 18, 3), (4, .iconst 0, 1), (5, .invokestatic 28, 3), (8, .aload_n 0, 1), (9, .getfield 21, 3), (12, .iconst 0, 1), (13, .invokestatic 28, 3), (16, .iconst 0, 1), (17, .istore_n 2, 1), (18, .iload_n 2, 1), (19, .aload_n 0, 1), (20, .getfield 24, 3), (23, .getfield 34, 3), (26, .if_icmp .ge 81, 3), (29, .iconst 0, 1), (30, .istore_n 3, 1), (31, .iload_n 3, 1), (32, .aload_n 0, 1), (33, .getfield 24, 3), (36, .getfield 40, 3), (39, .iload_n 2, 1), (40, .iaload, 1), (41, .if_icmp .ge 60, 3), (44, .aload_n 0, 1), (45, .getfield 24, 3), (48, .getfield 43, 3), (51, .iload_n 2, 1), (52, .aaload, 1), (53, .iload_n 3, 1), (54, .iaload, 1), (55, .istore 4, 2), (57, .aload_n 1, 1), (58, .getfield 47, 3), (61, .iload_n 2, 1), (62, .iaload, 1), (63, .iload_n 3, 1), (64, .ishr, 1), (65, .iconst 1, 1), (66, .iand, 1), (67, .istore 5, 2), (69, .aload_n 0, 1), (70, .getfield 18, 3), (73, .iload 4, 2), (75, .dup2, 1), (76, .iaload, 1), (77, .iload 5, 2), (79, .iadd, 1), (80, .iastore, 1), (81, .aload_n 0, 1), (82, .getfield 21, 3), (85, .iload 4, 2), (87, .dup2, 1), (88, .iaload, 1), (89, .iconst 1, 1), (90, .iload 5, 2), (92, .isub, 1), (93, .iadd, 1), (94, .iastore, 1), (95, .iinc 3 1, 3), (98, .goto (-67), 3), (101, .iinc 2 1, 3), (104, .goto (-86), 3), (107, .return_, 1)], [(18, [3, 4, 5]), (31, [4, 5])])
def M_Union_grudge : ev_Me := (yX9_grudge, cX9_grudge, 5, (some .int), 9, [(0, .aload_n 0, 1), (1, .getfield 15, 3), (4, .iconst 0, 1), (5, .aload_n 2, 1), (6, .getfield 50, 3), (9, .iload_n 3, 1), (10, .iaload, 1), (11, .iastore, 1), (12, .aload_n 0, 1), (13, .getfield 15, 3), (16, .iconst 1, 1), (17, .iload 4, 2), (19, .iastore, 1), (20, .aload_n 0, 1), (21, .getfield 15, 3), (24, .iconst 2, 1), (25, .aload_n 0, 1), (26, .getfield 18, 3), (29, .iload_n 3, 1), (30, .iaload, 1), (31, .iastore, 1), (32, .aload_n 0, 1), (33, .getfield 15, 3), (36, .iconst 3, 1), (37, .aload_n 0, 1), (38, .getfield 21, 3), (41, .iload_n 3, 1), (42, .iaload, 1), (43, .iastore, 1), (44, .aload_n 0, 1), (45, .getfield 15, 3), (48, .iconst 4, 1), (49, .aload_n 2, 1), (50, .getfield 53, 3), (53, .invokestatic 56, 3), (56, .iastore, 1), (57, .aload_n 0, 1), (58, .getfield 15, 3), (61, .iconst 5, 1), (62, .aload_n 2, 1), (63, .getfield 62, 3), (66, .bipush 7, 2), (68, .irem, 1), (69, .iastore, 1), (70, .aload_n 0, 1), (71, .getfield 15, 3), (74, .bipush 6, 2), (76, .iload_n 3, 1), (77, .iastore, 1), (78, .aload_n 1, 1), (79, .aload_n 0, 1), (80, .getfield 15, 3), (83, .invokevirtual 65, 3), (86, .ireturn, 1)], [])
def M_Union_priceOf : ev_Me := (yX9_priceOf, cX9_priceOf, 5, (some .int), 9, [(0, .aload_n 2, 1), (1, .getfield 71, 3), (4, .iload_n 3, 1), (5, .iaload, 1), (6, .istore 4, 2), (8, .iload 4, 2), (10, .bipush 9, 2), (12, .if_icmp .gt 31, 3), (15, .aload_n 0, 1), (16, .aload_n 1, 1), (17, .aload_n 2, 1), (18, .iload_n 3, 1), (19, .iload 4, 2), (21, .invokevirtual 74, 3), (24, .ifCond .gt 13, 3), (27, .iload 4, 2), (29, .aload_n 2, 1), (30, .getfield 71, 3), (33, .iload_n 3, 1), (34, .iaload, 1), (35, .isub, 1), (36, .ireturn, 1), (37, .iinc 4 1, 3), (40, .goto (-32), 3), (43, .iconst (-1), 1), (44, .ireturn, 1)], [(8, [])])
def M_Union_strikers : ev_Me := (yX9_strikers, cX9_strikers, 5, (some .int), 9, [(0, .aload_n 0, 1), (1, .aload_n 2, 1), (2, .invokevirtual 78, 3), (5, .iconst 0, 1), (6, .istore_n 3, 1), (7, .iconst 0, 1), (8, .istore 4, 2), (10, .iload 4, 2), (12, .bipush 8, 2), (14, .if_icmp .ge 44, 3), (17, .aload_n 0, 1), (18, .getfield 18, 3), (21, .iload 4, 2), (23, .iaload, 1), (24, .ifCond .le 28, 3), (27, .aload_n 0, 1), (28, .aload_n 1, 1), (29, .aload_n 2, 1), (30, .iload 4, 2), (32, .aload_n 2, 1), (33, .getfield 71, 3), (36, .iload 4, 2), (38, .iaload, 1), (39, .invokevirtual 74, 3), (42, .ifCond .le 10, 3), (45, .iload_n 3, 1), (46, .iconst 1, 1), (47, .iload 4, 2), (49, .ishl, 1), (50, .ior, 1), (51, .istore_n 3, 1), (52, .iinc 4 1, 3), (55, .goto (-45), 3), (58, .iload_n 3, 1), (59, .ireturn, 1)], [(10, [])])
def M_Union_passDays : ev_Me := (yX9_passDays, cX9_passDays, 5, none, 9, [(0, .aload_n 0, 1), (1, .iconst 0, 1), (2, .putfield 82, 3), (5, .aload_n 0, 1), (6, .iconst 0, 1), (7, .putfield 85, 3), (10, .iconst 0, 1), (11, .istore 4, 2), (13, .iload 4, 2), (15, .iload_n 3, 1), (16, .if_icmp .ge 45, 3), (19, .aload_n 0, 1), (20, .dup, 1), (21, .getfield 82, 3), (24, .aload_n 0, 1), (25, .aload_n 1, 1), (26, .aload_n 2, 1), (27, .invokevirtual 88, 3), (30, .iadd, 1), (31, .putfield 82, 3), (34, .aload_n 0, 1), (35, .dup, 1), (36, .getfield 85, 3), (39, .aload_n 2, 1), (40, .getfield 53, 3), (43, .ifCond .ne 7, 3), (46, .iconst 0, 1), (47, .goto 4, 3), (50, .iconst 1, 1), (51, .iadd, 1), (52, .putfield 85, 3), (55, .iinc 4 1, 3), (58, .goto (-45), 3), (61, .return_, 1)], [(13, [])])
def M_Union_passDay : ev_Me := (yX9_passDay, cX9_passDay, 5, (some .int), 9, [(0, .aload_n 2, 1), (1, .aload_n 0, 1), (2, .aload_n 1, 1), (3, .aload_n 2, 1), (4, .invokevirtual 92, 3), (7, .putfield 53, 3), (10, .aload_n 0, 1), (11, .getfield 24, 3), (14, .aload_n 2, 1), (15, .aload_n 2, 1), (16, .getfield 53, 3), (19, .aload_n 0, 1), (20, .getfield 9, 3), (23, .invokevirtual 95, 3), (26, .aload_n 0, 1), (27, .invokevirtual 99, 3), (30, .istore_n 3, 1), (31, .aload_n 2, 1), (32, .sipush 9999, 3), (35, .aload_n 2, 1), (36, .getfield 103, 3), (39, .iload_n 3, 1), (40, .iadd, 1), (41, .invokestatic 106, 3), (44, .putfield 103, 3), (47, .iconst 0, 1), (48, .istore 4, 2), (50, .iload 4, 2), (52, .bipush 8, 2), (54, .if_icmp .ge 76, 3), (57, .aload_n 2, 1), (58, .getfield 53, 3), (61, .iload 4, 2), (63, .ishr, 1), (64, .iconst 1, 1), (65, .iand, 1), (66, .iconst 1, 1), (67, .if_icmp .ne 26, 3), (70, .aload_n 2, 1), (71, .getfield 50, 3), (74, .iload 4, 2), (76, .iconst 0, 1), (77, .aload_n 2, 1), (78, .getfield 50, 3), (81, .iload 4, 2), (83, .iaload, 1), (84, .iconst 2, 1), (85, .isub, 1), (86, .invokestatic 112, 3), (89, .iastore, 1), (90, .goto 34, 3), (93, .aload_n 0, 1), (94, .getfield 18, 3), (97, .iload 4, 2), (99, .iaload, 1), (100, .ifCond .le 24, 3), (103, .aload_n 2, 1), (104, .getfield 50, 3), (107, .iload 4, 2), (109, .bipush 9, 2), (111, .aload_n 2, 1), (112, .getfield 50, 3), (115, .iload 4, 2), (117, .iaload, 1), (118, .iconst 1, 1), (119, .iadd, 1), (120, .invokestatic 106, 3), (123, .iastore, 1), (124, .iinc 4 1, 3), (127, .goto (-77), 3), (130, .aload_n 2, 1), (131, .dup, 1), (132, .getfield 62, 3), (135, .iconst 1, 1), (136, .iadd, 1), (137, .putfield 62, 3), (140, .iload_n 3, 1), (141, .ireturn, 1)], [(50, [1])])
def M_Union_pairsThatFall : ev_Me := (yX9_pairsThatFall, cX9_pairsThatFall, 4, (some .int), 9, [(0, .iconst 0, 1), (1, .istore_n 1, 1), (2, .iconst 0, 1), (3, .istore_n 2, 1), (4, .iload_n 2, 1), (5, .aload_n 0, 1), (6, .getfield 24, 3), (9, .getfield 34, 3), (12, .if_icmp .ge 65, 3), (15, .iload_n 2, 1), (16, .iconst 1, 1), (17, .iadd, 1), (18, .istore_n 3, 1), (19, .iload_n 3, 1), (20, .aload_n 0, 1), (21, .getfield 24, 3), (24, .getfield 34, 3), (27, .if_icmp .ge 44, 3), (30, .iload_n 1, 1), (31, .aload_n 0, 1), (32, .getfield 9, 3), (35, .iload_n 2, 1), (36, .iaload, 1), (37, .aload_n 0, 1), (38, .getfield 9, 3), (41, .iload_n 3, 1), (42, .iaload, 1), (43, .if_icmp .ne 19, 3), (46, .aload_n 0, 1), (47, .getfield 24, 3), (50, .iload_n 2, 1), (51, .iload_n 3, 1), (52, .invokevirtual 115, 3), (55, .ifCond .ne 7, 3), (58, .iconst 1, 1), (59, .goto 4, 3), (62, .iconst 0, 1), (63, .iadd, 1), (64, .istore_n 1, 1), (65, .iinc 3 1, 3), (68, .goto (-49), 3), (71, .iinc 2 1, 3), (74, .goto (-70), 3), (77, .iload_n 1, 1), (78, .ireturn, 1)], [(4, [3]), (19, [])])
def M_SL_init : ev_Me := (yX10_init, cX10_init, 1, none, 10, [(0, .aload_n 0, 1), (1, .invokespecial 1, 3), (4, .aload_n 0, 1), (5, .new 7, 3), (8, .dup, 1), (9, .invokespecial 9, 3), (12, .putfield 10, 3), (15, .aload_n 0, 1), (16, .new 16, 3), (19, .dup, 1), (20, .invokespecial 18, 3), (23, .putfield 19, 3), (26, .aload_n 0, 1), (27, .new 23, 3), (30, .dup, 1), (31, .invokespecial 25, 3), (34, .putfield 26, 3), (37, .aload_n 0, 1), (38, .new 30, 3), (41, .dup, 1), (42, .invokespecial 32, 3), (45, .putfield 33, 3), (48, .aload_n 0, 1), (49, .new 30, 3), (52, .dup, 1), (53, .invokespecial 32, 3), (56, .putfield 37, 3), (59, .aload_n 0, 1), (60, .new 40, 3), (63, .dup, 1), (64, .invokespecial 42, 3), (67, .putfield 43, 3), (70, .aload_n 0, 1), (71, .new 47, 3), (74, .dup, 1), (75, .invokespecial 49, 3), (78, .putfield 50, 3), (81, .aload_n 0, 1), (82, .new 47, 3), (85, .dup, 1), (86, .invokespecial 49, 3), (89, .putfield 54, 3), (92, .aload_n 0, 1), (93, .new 57, 3), (96, .dup, 1), (97, .aload_n 0, 1), (98, .getfield 26, 3), (101, .invokespecial 59, 3), (104, .putfield 62, 3), (107, .aload_n 0, 1), (108, .new 66, 3), (111, .dup, 1), (112, .aload_n 0, 1), (113, .getfield 26, 3), (116, .invokespecial 68, 3), (119, .putfield 69, 3), (122, .aload_n 0, 1), (123, .new 73, 3), (126, .dup, 1), (127, .invokespecial 75, 3), (130, .putfield 76, 3), (133, .aload_n 0, 1), (134, .bipush 8, 2), (136, .newarray .int, 2), (138, .putfield 80, 3), (141, .aload_n 0, 1), (142, .bipush 64, 2), (144, .newarray .int, 2), (146, .putfield 84, 3), (149, .aload_n 0, 1), (150, .bipush 8, 2), (152, .newarray .int, 2), (154, .putfield 87, 3), (157, .aload_n 0, 1), (158, .sipush 256, 3), (161, .newarray .int, 2), (163, .putfield 90, 3), (166, .aload_n 0, 1), (167, .sipush 256, 3), (170, .newarray .int, 2), (172, .putfield 93, 3), (175, .aload_n 0, 1), (176, .sipush 256, 3), (179, .newarray .int, 2), (181, .putfield 96, 3), (184, .aload_n 0, 1), (185, .getfield 50, 3), (188, .invokevirtual 99, 3), (191, .return_, 1)], [])
def M_SL_sign : ev_Me := (yX10_sign, cX10_sign, 2, (some .int), 10, [(0, .aload_n 0, 1), (1, .getfield 10, 3), (4, .iload_n 1, 1), (5, .invokevirtual 102, 3), (8, .ifCond .eq 13, 3), (11, .aload_n 0, 1), (12, .getfield 10, 3), (15, .getfield 106, 3), (18, .goto 4, 3), (21, .iconst (-1), 1), (22, .ireturn, 1)], [])
def M_SL_end : ev_Me := (yX10_end, cX10_end, 2, (some .boolean), 10, [(0, .iload_n 1, 1), (1, .ifCond .lt 14, 3), (4, .iload_n 1, 1), (5, .aload_n 0, 1), (6, .getfield 10, 3), (9, .getfield 106, 3), (12, .if_icmp .le 5, 3), (15, .iconst 0, 1), (16, .ireturn, 1), (17, .aload_n 0, 1), (18, .getfield 10, 3), (21, .iload_n 1, 1), (22, .putfield 106, 3), (25, .iconst 1, 1), (26, .ireturn, 1)], [])
def M_SL_words : ev_Me := (yX10_words, cX10_words, 3, (some .int), 10, [(0, .aload_n 0, 1), (1, .getfield 10, 3), (4, .getfield 106, 3), (7, .ifCond .ne 5, 3), (10, .iconst 0, 1), (11, .ireturn, 1), (12, .aload_n 0, 1), (13, .getfield 26, 3), (16, .aload_n 0, 1), (17, .getfield 10, 3), (20, .invokevirtual 110, 3), (23, .istore_n 1, 1), (24, .iconst 0, 1), (25, .istore_n 2, 1), (26, .iload_n 1, 1), (27, .iconst (-1), 1), (28, .if_icmp .ne 26, 3), (31, .aload_n 0, 1), (32, .getfield 26, 3), (35, .aload_n 0, 1), (36, .getfield 10, 3), (39, .aload_n 0, 1), (40, .getfield 33, 3), (43, .invokevirtual 114, 3), (46, .istore_n 2, 1), (47, .aload_n 0, 1), (48, .getfield 43, 3), (51, .invokevirtual 118, 3), (54, .aload_n 0, 1), (55, .getfield 10, 3), (58, .iconst 0, 1), (59, .putfield 106, 3), (62, .iload_n 1, 1), (63, .iconst (-1), 1), (64, .if_icmp .ne 7, 3), (67, .iload_n 2, 1), (68, .goto 6, 3), (71, .iconst (-1), 1), (72, .iload_n 1, 1), (73, .isub, 1), (74, .ireturn, 1)], [(54, [])])
def M_SL_rule : ev_Me := (yX10_rule, cX10_rule, 2, (some .int), 10, [(0, .aload_n 0, 1), (1, .getfield 54, 3), (4, .aload_n 0, 1), (5, .getfield 10, 3), (8, .invokevirtual 121, 3), (11, .istore_n 1, 1), (12, .aload_n 0, 1), (13, .getfield 10, 3), (16, .iconst 0, 1), (17, .putfield 106, 3), (20, .iload_n 1, 1), (21, .iconst (-1), 1), (22, .if_icmp .eq 7, 3), (25, .iconst (-1), 1), (26, .iload_n 1, 1), (27, .isub, 1), (28, .ireturn, 1), (29, .aload_n 0, 1), (30, .getfield 50, 3), (33, .aload_n 0, 1), (34, .getfield 54, 3), (37, .invokevirtual 124, 3), (40, .iconst 0, 1), (41, .ireturn, 1)], [])
def M_SL_word : ev_Me := (yX10_word, cX10_word, 3, (some .int), 10, [(0, .aload_n 0, 1), (1, .getfield 26, 3), (4, .iload_n 1, 1), (5, .invokevirtual 128, 3), (8, .ifCond .eq 12, 3), (11, .iload_n 2, 1), (12, .ifCond .lt 8, 3), (15, .iload_n 2, 1), (16, .iconst 4, 1), (17, .if_icmp .le 13, 3), (20, .new 131, 3), (23, .dup, 1), (24, .ldc 133, 2), (26, .invokespecial 135, 3), (29, .athrow, 1), (30, .iload_n 2, 1), (31, .tableswitch 102 0 3 #[29, 39, 72, 84], 29), (60, .aload_n 0, 1), (61, .getfield 26, 3), (64, .getfield 138, 3), (67, .iload_n 1, 1), (68, .iaload, 1), (69, .ireturn, 1), (70, .aload_n 0, 1), (71, .getfield 26, 3), (74, .getfield 138, 3), (77, .iload_n 1, 1), (78, .iaload, 1), (79, .aload_n 0, 1), (80, .getfield 26, 3), (83, .aload_n 0, 1), (84, .getfield 33, 3), (87, .iload_n 1, 1), (88, .aload_n 0, 1), (89, .getfield 33, 3), (92, .getfield 141, 3), (95, .invokevirtual 144, 3), (98, .invokestatic 148, 3), (101, .isub, 1), (102, .ireturn, 1), (103, .aload_n 0, 1), (104, .getfield 26, 3), (107, .iload_n 1, 1), (108, .sipush 255, 3), (111, .invokevirtual 154, 3), (114, .ireturn, 1), (115, .aload_n 0, 1), (116, .getfield 26, 3), (119, .iload_n 1, 1), (120, .aload_n 0, 1), (121, .getfield 33, 3), (124, .getfield 158, 3), (127, .iload_n 1, 1), (128, .iaload, 1), (129, .invokevirtual 154, 3), (132, .ireturn, 1), (133, .aload_n 0, 1), (134, .iload_n 1, 1), (135, .invokevirtual 161, 3), (138, .ireturn, 1)], [(20, [0, 1, 2])])
def M_SL_at : ev_Me := (yX10_at, cX10_at, 3, (some .int), 10, [(0, .aload_n 0, 1), (1, .getfield 26, 3), (4, .iload_n 1, 1), (5, .iload_n 2, 1), (6, .invokevirtual 164, 3), (9, .ifCond .ne 13, 3), (12, .new 131, 3), (15, .dup, 1), (16, .ldc 168, 2), (18, .invokespecial 135, 3), (21, .athrow, 1), (22, .aload_n 0, 1), (23, .getfield 26, 3), (26, .getfield 170, 3), (29, .iload_n 1, 1), (30, .aaload, 1), (31, .iload_n 2, 1), (32, .iaload, 1), (33, .aload_n 0, 1), (34, .getfield 33, 3), (37, .getfield 158, 3), (40, .iload_n 1, 1), (41, .iaload, 1), (42, .iload_n 2, 1), (43, .ishr, 1), (44, .iconst 1, 1), (45, .iand, 1), (46, .iconst 1, 1), (47, .if_icmp .ne 8, 3), (50, .bipush 8, 2), (52, .goto 4, 3), (55, .iconst 0, 1), (56, .iadd, 1), (57, .ireturn, 1)], [])
def M_SL_letter : ev_Me := (yX10_letter, cX10_letter, 3, (some .int), 10, [(0, .iload_n 1, 1), (1, .invokestatic 174, 3), (4, .ifCond .eq 12, 3), (7, .iload_n 2, 1), (8, .ifCond .lt 8, 3), (11, .iload_n 2, 1), (12, .iconst 5, 1), (13, .if_icmp .le 13, 3), (16, .new 131, 3), (19, .dup, 1), (20, .ldc 177, 2), (22, .invokespecial 135, 3), (25, .athrow, 1), (26, .aload_n 0, 1), (27, .getfield 62, 3), (30, .aload_n 0, 1), (31, .getfield 33, 3), (34, .invokevirtual 179, 3), (37, .iload_n 2, 1), (38, .tableswitch 86 0 4 #[34, 44, 54, 64, 74], 34), (72, .aload_n 0, 1), (73, .getfield 33, 3), (76, .getfield 183, 3), (79, .iload_n 1, 1), (80, .iaload, 1), (81, .ireturn, 1), (82, .aload_n 0, 1), (83, .getfield 33, 3), (86, .getfield 186, 3), (89, .iload_n 1, 1), (90, .iaload, 1), (91, .ireturn, 1), (92, .aload_n 0, 1), (93, .getfield 62, 3), (96, .getfield 189, 3), (99, .iload_n 1, 1), (100, .iaload, 1), (101, .ireturn, 1), (102, .aload_n 0, 1), (103, .getfield 62, 3), (106, .getfield 190, 3), (109, .iload_n 1, 1), (110, .iaload, 1), (111, .ireturn, 1), (112, .aload_n 0, 1), (113, .getfield 33, 3), (116, .getfield 141, 3), (119, .iload_n 1, 1), (120, .ishr, 1), (121, .iconst 1, 1), (122, .iand, 1), (123, .ireturn, 1), (124, .aload_n 0, 1), (125, .getfield 62, 3), (128, .aload_n 0, 1), (129, .getfield 50, 3), (132, .aload_n 0, 1), (133, .getfield 33, 3), (136, .iload_n 1, 1), (137, .aload_n 0, 1), (138, .getfield 33, 3), (141, .getfield 186, 3), (144, .iload_n 1, 1), (145, .iaload, 1), (146, .invokevirtual 193, 3), (149, .ireturn, 1)], [(16, [0, 1, 2])])
def M_SL_sheet : ev_Me := (yX10_sheet, cX10_sheet, 7, (some .int), 10, [(0, .iload_n 1, 1), (1, .ifCond .lt 14, 3), (4, .iload_n 1, 1), (5, .iconst 3, 1), (6, .if_icmp .gt 9, 3), (9, .iload_n 2, 1), (10, .bipush 8, 2), (12, .if_icmp .le 5, 3), (15, .iconst (-1), 1), (16, .ireturn, 1), (17, .iload_n 1, 1), (18, .iconst 3, 1), (19, .if_icmp .ne 17, 3), (22, .aload_n 0, 1), (23, .getfield 33, 3), (26, .getfield 183, 3), (29, .iconst 0, 1), (30, .invokestatic 197, 3), (33, .bipush (-3), 2), (35, .ireturn, 1), (36, .iload_n 2, 1), (37, .ifCond .ge 6, 3), (40, .bipush (-2), 2), (42, .ireturn, 1), (43, .iconst 0, 1), (44, .istore 5, 2), (46, .iload 5, 2), (48, .bipush 8, 2), (50, .if_icmp .ge 53, 3), (53, .iload 5, 2), (55, .iload_n 2, 1), (56, .if_icmp .ge 17, 3), (59, .iload_n 1, 1), (60, .iload_n 3, 1), (61, .iload 5, 2), (63, .iload 4, 2), (65, .imul, 1), (66, .iadd, 1), (67, .invokestatic 203, 3), (70, .goto 4, 3), (73, .iconst 0, 1), (74, .istore 6, 2), (76, .aload_n 0, 1), (77, .getfield 33, 3), (80, .getfield 183, 3), (83, .iload 5, 2), (85, .iconst 0, 1), (86, .bipush 9, 2), (88, .iload 6, 2), (90, .invokestatic 206, 3), (93, .invokestatic 211, 3), (96, .iastore, 1), (97, .iinc 5 1, 3), (100, .goto (-54), 3), (103, .aload_n 0, 1), (104, .getfield 33, 3), (107, .invokevirtual 214, 3), (110, .ireturn, 1)], [(46, [6]), (74, [6])])
def M_SL_days : ev_Me := (yX10_days, cX10_days, 2, (some .int), 10, [(0, .iload_n 1, 1), (1, .ifCond .lt 9, 3), (4, .iload_n 1, 1), (5, .bipush 60, 2), (7, .if_icmp .le 5, 3), (10, .iconst (-1), 1), (11, .ireturn, 1), (12, .aload_n 0, 1), (13, .getfield 43, 3), (16, .aload_n 0, 1), (17, .getfield 33, 3), (20, .invokevirtual 218, 3), (23, .aload_n 0, 1), (24, .getfield 62, 3), (27, .aload_n 0, 1), (28, .getfield 50, 3), (31, .aload_n 0, 1), (32, .getfield 33, 3), (35, .iload_n 1, 1), (36, .invokevirtual 221, 3), (39, .aload_n 0, 1), (40, .getfield 19, 3), (43, .aload_n 0, 1), (44, .getfield 62, 3), (47, .getfield 225, 3), (50, .i2l, 1), (51, .aload_n 0, 1), (52, .getfield 62, 3), (55, .getfield 228, 3), (58, .i2l, 1), (59, .invokevirtual 231, 3), (62, .aload_n 0, 1), (63, .getfield 33, 3), (66, .getfield 141, 3), (69, .ireturn, 1)], [])
def M_SL_offer : ev_Me := (yX10_offer, cX10_offer, 3, (some .int), 10, [(0, .aload_n 0, 1), (1, .getfield 37, 3), (4, .aload_n 0, 1), (5, .getfield 33, 3), (8, .invokevirtual 235, 3), (11, .aload_n 0, 1), (12, .aload_n 0, 1), (13, .getfield 33, 3), (16, .iload_n 1, 1), (17, .iload_n 2, 1), (18, .invokevirtual 237, 3), (21, .invokevirtual 240, 3), (24, .ireturn, 1)], [])
def M_SL_stirs : ev_Me := (yX10_stirs, cX10_stirs, 3, (some .int), 10, [(0, .aload_n 0, 1), (1, .getfield 37, 3), (4, .aload_n 0, 1), (5, .getfield 33, 3), (8, .invokevirtual 235, 3), (11, .aload_n 0, 1), (12, .aload_n 0, 1), (13, .getfield 33, 3), (16, .iload_n 1, 1), (17, .iload_n 2, 1), (18, .invokevirtual 243, 3), (21, .invokevirtual 240, 3), (24, .ireturn, 1)], [])
def M_SL_mutes : ev_Me := (yX10_mutes, cX10_mutes, 3, (some .int), 10, [(0, .aload_n 0, 1), (1, .getfield 37, 3), (4, .aload_n 0, 1), (5, .getfield 33, 3), (8, .invokevirtual 235, 3), (11, .aload_n 0, 1), (12, .aload_n 0, 1), (13, .getfield 26, 3), (16, .aload_n 0, 1), (17, .getfield 33, 3), (20, .iload_n 1, 1), (21, .iload_n 2, 1), (22, .invokevirtual 246, 3), (25, .invokevirtual 240, 3), (28, .ireturn, 1)], [])
def M_SL_year : ev_Me := (yX10_year, cX10_year, 5, (some .int), 10, [(0, .aload_n 0, 1), (1, .getfield 10, 3), (4, .invokestatic 249, 3), (7, .istore_n 1, 1), (8, .iload_n 1, 1), (9, .iconst (-1), 1), (10, .if_icmp .eq 15, 3), (13, .aload_n 0, 1), (14, .getfield 10, 3), (17, .iconst 0, 1), (18, .putfield 106, 3), (21, .iconst (-1), 1), (22, .iload_n 1, 1), (23, .isub, 1), (24, .ireturn, 1), (25, .aload_n 0, 1), (26, .getfield 37, 3), (29, .aload_n 0, 1), (30, .getfield 33, 3), (33, .invokevirtual 235, 3), (36, .iconst 0, 1), (37, .istore_n 2, 1), (38, .iconst 0, 1), (39, .istore_n 3, 1), (40, .iconst 0, 1), (41, .istore 4, 2), (43, .iload 4, 2), (45, .aload_n 0, 1), (46, .getfield 10, 3), (49, .getfield 106, 3), (52, .if_icmp .ge 58, 3), (55, .iload_n 3, 1), (56, .ifCond .ne 54, 3), (59, .aload_n 0, 1), (60, .iload 4, 2), (62, .invokevirtual 252, 3), (65, .ifCond .ge 7, 3), (68, .iconst 1, 1), (69, .goto 4, 3), (72, .iconst 0, 1), (73, .istore_n 3, 1), (74, .iload_n 2, 1), (75, .iload_n 3, 1), (76, .ifCond .eq 7, 3), (79, .iconst 0, 1), (80, .goto 4, 3), (83, .iconst 1, 1), (84, .iadd, 1), (85, .istore_n 2, 1), (86, .iload 4, 2), (88, .iconst 1, 1), (89, .aload_n 0, 1), (90, .getfield 10, 3), (93, .iload 4, 2), (95, .invokevirtual 255, 3), (98, .invokestatic 259, 3), (101, .invokestatic 211, 3), (104, .iadd, 1), (105, .istore 4, 2), (107, .goto (-64), 3), (110, .aload_n 0, 1), (111, .getfield 10, 3), (114, .iconst 0, 1), (115, .putfield 106, 3), (118, .iload_n 2, 1), (119, .ifCond .le 14, 3), (122, .aload_n 0, 1), (123, .getfield 43, 3), (126, .aload_n 0, 1), (127, .getfield 37, 3), (130, .invokevirtual 218, 3), (133, .aload_n 0, 1), (134, .getfield 19, 3), (137, .iload_n 3, 1), (138, .ifCond .eq 7, 3), (141, .lconst 1, 1), (142, .goto 4, 3), (145, .lconst 0, 1), (146, .aload_n 0, 1), (147, .getfield 33, 3), (150, .getfield 141, 3), (153, .i2l, 1), (154, .invokevirtual 231, 3), (157, .iload_n 2, 1), (158, .ireturn, 1)], [(43, [1]), (73, [1, 3]), (84, [1, 2]), (110, [1, 4]), (133, [1, 4]), (146, [1, 3, 4])])
def M_SL_undo : ev_Me := (yX10_undo, cX10_undo, 1, (some .int), 10, [(0, .aload_n 0, 1), (1, .getfield 43, 3), (4, .aload_n 0, 1), (5, .getfield 33, 3), (8, .invokevirtual 262, 3), (11, .ifCond .eq 13, 3), (14, .aload_n 0, 1), (15, .getfield 43, 3), (18, .getfield 266, 3), (21, .goto 4, 3), (24, .iconst (-1), 1), (25, .ireturn, 1)], [])
def M_SL_looks : ev_Me := (yX10_looks, cX10_looks, 5, (some .int), 10, [(0, .aload_n 0, 1), (1, .getfield 26, 3), (4, .iload_n 1, 1), (5, .invokevirtual 128, 3), (8, .ifCond .eq 10, 3), (11, .iload_n 2, 1), (12, .invokestatic 267, 3), (15, .ifCond .ne 5, 3), (18, .iconst (-1), 1), (19, .ireturn, 1), (20, .aload_n 0, 1), (21, .getfield 26, 3), (24, .aload_n 0, 1), (25, .getfield 33, 3), (28, .iload_n 1, 1), (29, .iload_n 2, 1), (30, .invokevirtual 144, 3), (33, .istore_n 3, 1), (34, .aload_n 0, 1), (35, .getfield 19, 3), (38, .iconst 0, 1), (39, .putfield 270, 3), (42, .iconst 0, 1), (43, .istore 4, 2), (45, .iload 4, 2), (47, .aload_n 0, 1), (48, .getfield 26, 3), (51, .getfield 138, 3), (54, .iload_n 1, 1), (55, .iaload, 1), (56, .if_icmp .ge 38, 3), (59, .iload_n 3, 1), (60, .iload 4, 2), (62, .ishr, 1), (63, .iconst 1, 1), (64, .iand, 1), (65, .ifCond .ne 23, 3), (68, .aload_n 0, 1), (69, .getfield 19, 3), (72, .aload_n 0, 1), (73, .getfield 26, 3), (76, .getfield 170, 3), (79, .iload_n 1, 1), (80, .aaload, 1), (81, .iload 4, 2), (83, .iaload, 1), (84, .i2l, 1), (85, .invokevirtual 271, 3), (88, .iinc 4 1, 3), (91, .goto (-46), 3), (94, .aload_n 0, 1), (95, .getfield 19, 3), (98, .getfield 270, 3), (101, .ireturn, 1)], [(45, [2])])
def M_SL_kinds : ev_Me := (yX10_kinds, cX10_kinds, 5, (some .int), 10, [(0, .iload_n 1, 1), (1, .invokestatic 267, 3), (4, .ifCond .ne 5, 3), (7, .iconst (-1), 1), (8, .ireturn, 1), (9, .aload_n 0, 1), (10, .getfield 26, 3), (13, .aload_n 0, 1), (14, .getfield 33, 3), (17, .iload_n 1, 1), (18, .aload_n 0, 1), (19, .getfield 80, 3), (22, .invokevirtual 275, 3), (25, .aload_n 0, 1), (26, .getfield 19, 3), (29, .iconst 0, 1), (30, .putfield 270, 3), (33, .iconst 0, 1), (34, .istore_n 2, 1), (35, .iconst 0, 1), (36, .istore_n 3, 1), (37, .iload_n 3, 1), (38, .aload_n 0, 1), (39, .getfield 26, 3), (42, .getfield 279, 3), (45, .if_icmp .ge 40, 3), (48, .aload_n 0, 1), (49, .iload_n 3, 1), (50, .invokevirtual 280, 3), (53, .istore 4, 2), (55, .iload_n 2, 1), (56, .iload 4, 2), (58, .iload_n 3, 1), (59, .if_icmp .ne 7, 3), (62, .iconst 1, 1), (63, .goto 4, 3), (66, .iconst 0, 1), (67, .iadd, 1), (68, .istore_n 2, 1), (69, .aload_n 0, 1), (70, .getfield 19, 3), (73, .iload 4, 2), (75, .i2l, 1), (76, .invokevirtual 271, 3), (79, .iinc 3 1, 3), (82, .goto (-45), 3), (85, .iload_n 2, 1), (86, .ireturn, 1)], [(37, [1, 4]), (67, [1, 2])])
def M_SL_apart : ev_Me := (yX10_apart, cX10_apart, 3, (some .int), 10, [(0, .aload_n 0, 1), (1, .getfield 26, 3), (4, .iload_n 1, 1), (5, .iload_n 2, 1), (6, .invokevirtual 283, 3), (9, .ifCond .ne 5, 3), (12, .iconst (-1), 1), (13, .ireturn, 1), (14, .aload_n 0, 1), (15, .getfield 19, 3), (18, .iconst 0, 1), (19, .putfield 270, 3), (22, .aload_n 0, 1), (23, .getfield 19, 3), (26, .aload_n 0, 1), (27, .getfield 69, 3), (30, .aload_n 0, 1), (31, .getfield 33, 3), (34, .iload_n 1, 1), (35, .iload_n 2, 1), (36, .iconst 0, 1), (37, .invokevirtual 286, 3), (40, .i2l, 1), (41, .invokevirtual 271, 3), (44, .aload_n 0, 1), (45, .getfield 69, 3), (48, .aload_n 0, 1), (49, .getfield 33, 3), (52, .iload_n 1, 1), (53, .iload_n 2, 1), (54, .aload_n 0, 1), (55, .getfield 33, 3), (58, .getfield 141, 3), (61, .invokevirtual 286, 3), (64, .ireturn, 1)], [])
def M_SL_chain : ev_Me := (yX10_chain, cX10_chain, 7, (some .int), 10, [(0, .aload_n 0, 1), (1, .getfield 26, 3), (4, .iload_n 1, 1), (5, .invokevirtual 128, 3), (8, .ifCond .eq 24, 3), (11, .aload_n 0, 1), (12, .getfield 26, 3), (15, .iload_n 2, 1), (16, .invokevirtual 128, 3), (19, .ifCond .eq 13, 3), (22, .iload_n 3, 1), (23, .ifCond .lt 9, 3), (26, .iload_n 3, 1), (27, .bipush 8, 2), (29, .if_icmp .le 5, 3), (32, .iconst (-1), 1), (33, .ireturn, 1), (34, .aload_n 0, 1), (35, .getfield 69, 3), (38, .aload_n 0, 1), (39, .getfield 33, 3), (42, .iload_n 2, 1), (43, .iload_n 3, 1), (44, .invokevirtual 290, 3), (47, .aload_n 0, 1), (48, .getfield 69, 3), (51, .getfield 294, 3), (54, .iload_n 1, 1), (55, .iaload, 1), (56, .istore 4, 2), (58, .iload 4, 2), (60, .iconst (-1), 1), (61, .if_icmp .ne 6, 3), (64, .bipush (-2), 2), (66, .ireturn, 1), (67, .aload_n 0, 1), (68, .getfield 19, 3), (71, .iconst 0, 1), (72, .putfield 270, 3), (75, .aload_n 0, 1), (76, .getfield 19, 3), (79, .iload_n 1, 1), (80, .i2l, 1), (81, .invokevirtual 271, 3), (84, .iload_n 1, 1), (85, .istore 5, 2), (87, .iload 4, 2), (89, .iconst 1, 1), (90, .isub, 1), (91, .istore 6, 2), (93, .iload 6, 2), (95, .ifCond .lt 32, 3), (98, .aload_n 0, 1), (99, .getfield 69, 3), (102, .iload 5, 2), (104, .iload 6, 2), (106, .invokevirtual 297, 3), (109, .istore 5, 2), (111, .aload_n 0, 1), (112, .getfield 19, 3), (115, .iload 5, 2), (117, .i2l, 1), (118, .invokevirtual 271, 3), (121, .iinc 6 (-1), 3), (124, .goto (-31), 3), (127, .aload_n 0, 1), (128, .getfield 19, 3), (131, .getfield 270, 3), (134, .ireturn, 1)], [(93, [1, 2, 3, 4])])
def M_SL_ahead : ev_Me := (yX10_ahead, cX10_ahead, 2, (some .int), 10, [(0, .iload_n 1, 1), (1, .ifCond .lt 9, 3), (4, .iload_n 1, 1), (5, .bipush 99, 2), (7, .if_icmp .le 5, 3), (10, .iconst (-1), 1), (11, .ireturn, 1), (12, .aload_n 0, 1), (13, .getfield 37, 3), (16, .aload_n 0, 1), (17, .getfield 33, 3), (20, .invokevirtual 235, 3), (23, .aload_n 0, 1), (24, .getfield 62, 3), (27, .aload_n 0, 1), (28, .getfield 50, 3), (31, .aload_n 0, 1), (32, .getfield 37, 3), (35, .iload_n 1, 1), (36, .invokevirtual 221, 3), (39, .aload_n 0, 1), (40, .getfield 19, 3), (43, .aload_n 0, 1), (44, .getfield 37, 3), (47, .getfield 300, 3), (50, .i2l, 1), (51, .aload_n 0, 1), (52, .getfield 37, 3), (55, .invokevirtual 214, 3), (58, .i2l, 1), (59, .invokevirtual 231, 3), (62, .aload_n 0, 1), (63, .getfield 37, 3), (66, .getfield 141, 3), (69, .ireturn, 1)], [])
def M_SL_falls : ev_Me := (yX10_falls, cX10_falls, 2, (some .int), 10, [(0, .aload_n 0, 1), (1, .getfield 37, 3), (4, .aload_n 0, 1), (5, .getfield 33, 3), (8, .invokevirtual 235, 3), (11, .iconst 1, 1), (12, .istore_n 1, 1), (13, .iload_n 1, 1), (14, .bipush 99, 2), (16, .if_icmp .gt 33, 3), (19, .aload_n 0, 1), (20, .getfield 62, 3), (23, .aload_n 0, 1), (24, .getfield 50, 3), (27, .aload_n 0, 1), (28, .getfield 37, 3), (31, .invokevirtual 303, 3), (34, .ifCond .le 9, 3), (37, .aload_n 0, 1), (38, .invokevirtual 307, 3), (41, .iload_n 1, 1), (42, .ireturn, 1), (43, .iinc 1 1, 3), (46, .goto (-33), 3), (49, .bipush (-2), 2), (51, .ireturn, 1)], [(13, [])])
def M_SL_when : ev_Me := (yX10_when, cX10_when, 5, (some .int), 10, [(0, .iload_n 1, 1), (1, .invokestatic 174, 3), (4, .ifCond .ne 5, 3), (7, .iconst (-1), 1), (8, .ireturn, 1), (9, .aload_n 0, 1), (10, .getfield 37, 3), (13, .aload_n 0, 1), (14, .getfield 33, 3), (17, .invokevirtual 235, 3), (20, .bipush (-2), 2), (22, .istore_n 2, 1), (23, .iconst 0, 1), (24, .istore_n 3, 1), (25, .iconst 1, 1), (26, .istore 4, 2), (28, .iload 4, 2), (30, .bipush 99, 2), (32, .if_icmp .gt 56, 3), (35, .aload_n 0, 1), (36, .getfield 62, 3), (39, .aload_n 0, 1), (40, .getfield 50, 3), (43, .aload_n 0, 1), (44, .getfield 37, 3), (47, .invokevirtual 303, 3), (50, .pop, 1), (51, .aload_n 0, 1), (52, .getfield 37, 3), (55, .getfield 141, 3), (58, .iload_n 1, 1), (59, .ishr, 1), (60, .iconst 1, 1), (61, .iand, 1), (62, .iconst 1, 1), (63, .if_icmp .ne 19, 3), (66, .iinc 3 1, 3), (69, .iload_n 2, 1), (70, .bipush (-2), 2), (72, .if_icmp .ne 8, 3), (75, .iload 4, 2), (77, .goto 4, 3), (80, .iload_n 2, 1), (81, .istore_n 2, 1), (82, .iinc 4 1, 3), (85, .goto (-57), 3), (88, .iload_n 2, 1), (89, .bipush (-2), 2), (91, .if_icmp .eq 20, 3), (94, .aload_n 0, 1), (95, .getfield 19, 3), (98, .iconst 0, 1), (99, .putfield 270, 3), (102, .aload_n 0, 1), (103, .getfield 19, 3), (106, .iload_n 3, 1), (107, .i2l, 1), (108, .invokevirtual 271, 3), (111, .iload_n 2, 1), (112, .ireturn, 1)], [(28, [])])
def M_SL_shared : ev_Me := (yX10_shared, cX10_shared, 3, (some .int), 10, [(0, .aload_n 0, 1), (1, .getfield 26, 3), (4, .iload_n 1, 1), (5, .iload_n 2, 1), (6, .invokevirtual 283, 3), (9, .ifCond .ne 5, 3), (12, .iconst (-1), 1), (13, .ireturn, 1), (14, .aload_n 0, 1), (15, .getfield 19, 3), (18, .iconst 0, 1), (19, .putfield 270, 3), (22, .aload_n 0, 1), (23, .getfield 19, 3), (26, .aload_n 0, 1), (27, .getfield 69, 3), (30, .aload_n 0, 1), (31, .getfield 33, 3), (34, .iload_n 1, 1), (35, .iload_n 2, 1), (36, .iconst 0, 1), (37, .invokevirtual 310, 3), (40, .i2l, 1), (41, .invokevirtual 271, 3), (44, .aload_n 0, 1), (45, .getfield 69, 3), (48, .aload_n 0, 1), (49, .getfield 33, 3), (52, .iload_n 1, 1), (53, .iload_n 2, 1), (54, .aload_n 0, 1), (55, .getfield 33, 3), (58, .getfield 141, 3), (61, .invokevirtual 310, 3), (64, .ireturn, 1)], [])
def M_SL_crossest : ev_Me := (yX10_crossest, cX10_crossest, 6, (some .int), 10, [(0, .aload_n 0, 1), (1, .getfield 62, 3), (4, .aload_n 0, 1), (5, .getfield 33, 3), (8, .invokevirtual 179, 3), (11, .bipush (-2), 2), (13, .istore_n 1, 1), (14, .iconst 0, 1), (15, .istore_n 2, 1), (16, .iconst 0, 1), (17, .istore_n 3, 1), (18, .iconst 0, 1), (19, .istore 4, 2), (21, .iload 4, 2), (23, .bipush 8, 2), (25, .if_icmp .ge 86, 3), (28, .aload_n 0, 1), (29, .getfield 62, 3), (32, .getfield 189, 3), (35, .iload 4, 2), (37, .iaload, 1), (38, .ifCond .ne 6, 3), (41, .goto 64, 3), (44, .aload_n 0, 1), (45, .getfield 62, 3), (48, .aload_n 0, 1), (49, .getfield 50, 3), (52, .aload_n 0, 1), (53, .getfield 33, 3), (56, .iload 4, 2), (58, .aload_n 0, 1), (59, .getfield 33, 3), (62, .getfield 186, 3), (65, .iload 4, 2), (67, .iaload, 1), (68, .invokevirtual 193, 3), (71, .istore 5, 2), (73, .iload_n 1, 1), (74, .bipush (-2), 2), (76, .if_icmp .eq 9, 3), (79, .iload 5, 2), (81, .iload_n 2, 1), (82, .if_icmp .le 14, 3), (85, .iload 4, 2), (87, .istore_n 1, 1), (88, .iload 5, 2), (90, .istore_n 2, 1), (91, .iconst 1, 1), (92, .istore_n 3, 1), (93, .goto 12, 3), (96, .iload 5, 2), (98, .iload_n 2, 1), (99, .if_icmp .ne 6, 3), (102, .iinc 3 1, 3), (105, .iinc 4 1, 3), (108, .goto (-87), 3), (111, .iload_n 1, 1), (112, .bipush (-2), 2), (114, .if_icmp .eq 14, 3), (117, .aload_n 0, 1), (118, .getfield 19, 3), (121, .iload_n 2, 1), (122, .i2l, 1), (123, .iload_n 3, 1), (124, .i2l, 1), (125, .invokevirtual 231, 3), (128, .iload_n 1, 1), (129, .ireturn, 1)], [(21, [5]), (85, [1, 2, 3])])
def M_SL_must : ev_Me := (yX10_must, cX10_must, 4, (some .int), 10, [(0, .iload_n 1, 1), (1, .ifCond .lt 16, 3), (4, .iload_n 1, 1), (5, .iconst 1, 1), (6, .aload_n 0, 1), (7, .getfield 26, 3), (10, .getfield 279, 3), (13, .ishl, 1), (14, .if_icmp .lt 5, 3), (17, .iconst (-1), 1), (18, .ireturn, 1), (19, .sipush 255, 3), (22, .istore_n 2, 1), (23, .iconst 0, 1), (24, .istore_n 3, 1), (25, .iload_n 3, 1), (26, .sipush 256, 3), (29, .if_icmp .ge 35, 3), (32, .iload_n 3, 1), (33, .invokestatic 148, 3), (36, .iload_n 2, 1), (37, .invokestatic 148, 3), (40, .if_icmp .ge 18, 3), (43, .aload_n 0, 1), (44, .sipush 255, 3), (47, .iload_n 3, 1), (48, .ixor, 1), (49, .iload_n 1, 1), (50, .invokevirtual 313, 3), (53, .ifCond .eq 5, 3), (56, .iload_n 3, 1), (57, .istore_n 2, 1), (58, .iinc 3 1, 3), (61, .goto (-36), 3), (64, .aload_n 0, 1), (65, .iload_n 2, 1), (66, .invokevirtual 316, 3), (69, .ireturn, 1)], [(25, [])])
def M_SL_most : ev_Me := (yX10_most, cX10_most, 4, (some .int), 10, [(0, .aload_n 0, 1), (1, .getfield 26, 3), (4, .aload_n 0, 1), (5, .getfield 33, 3), (8, .invokevirtual 319, 3), (11, .istore_n 1, 1), (12, .iconst 0, 1), (13, .istore_n 2, 1), (14, .iconst 0, 1), (15, .istore_n 3, 1), (16, .iload_n 3, 1), (17, .sipush 256, 3), (20, .if_icmp .ge 41, 3), (23, .iload_n 3, 1), (24, .iload_n 1, 1), (25, .iconst (-1), 1), (26, .ixor, 1), (27, .iand, 1), (28, .ifCond .ne 27, 3), (31, .iload_n 3, 1), (32, .invokestatic 148, 3), (35, .iload_n 2, 1), (36, .invokestatic 148, 3), (39, .if_icmp .le 16, 3), (42, .aload_n 0, 1), (43, .iload_n 3, 1), (44, .sipush 255, 3), (47, .invokevirtual 313, 3), (50, .ifCond .eq 5, 3), (53, .iload_n 3, 1), (54, .istore_n 2, 1), (55, .iinc 3 1, 3), (58, .goto (-42), 3), (61, .aload_n 0, 1), (62, .iload_n 2, 1), (63, .invokevirtual 316, 3), (66, .ireturn, 1)], [(16, [])])
def M_SL_joins : ev_Me := (yX10_joins, cX10_joins, 5, (some .int), 10, [(0, .aload_n 0, 1), (1, .getfield 26, 3), (4, .iload_n 1, 1), (5, .iload_n 2, 1), (6, .invokevirtual 283, 3), (9, .ifCond .ne 5, 3), (12, .iconst (-1), 1), (13, .ireturn, 1), (14, .iconst (-1), 1), (15, .istore_n 3, 1), (16, .iconst 0, 1), (17, .istore 4, 2), (19, .iload 4, 2), (21, .sipush 256, 3), (24, .if_icmp .ge 47, 3), (27, .iload_n 3, 1), (28, .iconst (-1), 1), (29, .if_icmp .eq 15, 3), (32, .iload 4, 2), (34, .invokestatic 148, 3), (37, .iload_n 3, 1), (38, .invokestatic 148, 3), (41, .if_icmp .ge 24, 3), (44, .aload_n 0, 1), (45, .getfield 26, 3), (48, .aload_n 0, 1), (49, .getfield 33, 3), (52, .iload_n 1, 1), (53, .iload_n 2, 1), (54, .iload 4, 2), (56, .invokevirtual 323, 3), (59, .ifCond .eq 6, 3), (62, .iload 4, 2), (64, .istore_n 3, 1), (65, .iinc 4 1, 3), (68, .goto (-49), 3), (71, .iload_n 3, 1), (72, .iconst (-1), 1), (73, .if_icmp .ne 8, 3), (76, .bipush (-2), 2), (78, .goto 8, 3), (81, .aload_n 0, 1), (82, .iload_n 3, 1), (83, .invokevirtual 316, 3), (86, .ireturn, 1)], [(19, []), (44, [])])
def M_SL_safe : ev_Me := (yX10_safe, cX10_safe, 3, (some .int), 10, [(0, .aload_n 0, 1), (1, .getfield 84, 3), (4, .iconst 0, 1), (5, .invokestatic 197, 3), (8, .iconst 0, 1), (9, .istore_n 1, 1), (10, .iload_n 1, 1), (11, .sipush 256, 3), (14, .if_icmp .ge 14, 3), (17, .aload_n 0, 1), (18, .iload_n 1, 1), (19, .invokevirtual 327, 3), (22, .iinc 1 1, 3), (25, .goto (-15), 3), (28, .iconst 0, 1), (29, .istore_n 1, 1), (30, .iconst 0, 1), (31, .istore_n 2, 1), (32, .iload_n 2, 1), (33, .iconst 1, 1), (34, .aload_n 0, 1), (35, .getfield 26, 3), (38, .getfield 279, 3), (41, .ishl, 1), (42, .if_icmp .ge 30, 3), (45, .iload_n 2, 1), (46, .invokestatic 148, 3), (49, .iload_n 1, 1), (50, .invokestatic 148, 3), (53, .if_icmp .le 13, 3), (56, .aload_n 0, 1), (57, .iload_n 2, 1), (58, .invokevirtual 331, 3), (61, .ifCond .eq 5, 3), (64, .iload_n 2, 1), (65, .istore_n 1, 1), (66, .iinc 2 1, 3), (69, .goto (-37), 3), (72, .aload_n 0, 1), (73, .iload_n 1, 1), (74, .invokevirtual 316, 3), (77, .ireturn, 1)], [(10, [2]), (32, [])])
def M_SL_parts : ev_Me := (yX10_parts, cX10_parts, 7, (some .int), 10, [(0, .aload_n 0, 1), (1, .getfield 26, 3), (4, .iload_n 1, 1), (5, .iload_n 2, 1), (6, .invokevirtual 283, 3), (9, .ifCond .ne 5, 3), (12, .iconst (-1), 1), (13, .ireturn, 1), (14, .iconst 1, 1), (15, .aload_n 0, 1), (16, .getfield 26, 3), (19, .getfield 138, 3), (22, .iload_n 1, 1), (23, .iaload, 1), (24, .ishl, 1), (25, .iconst 1, 1), (26, .isub, 1), (27, .istore_n 3, 1), (28, .iconst 0, 1), (29, .istore 4, 2), (31, .iload 4, 2), (33, .sipush 256, 3), (36, .if_icmp .ge 64, 3), (39, .aload_n 0, 1), (40, .getfield 90, 3), (43, .iload 4, 2), (45, .aload_n 0, 1), (46, .getfield 26, 3), (49, .iload_n 1, 1), (50, .iload 4, 2), (52, .invokevirtual 334, 3), (55, .iastore, 1), (56, .aload_n 0, 1), (57, .getfield 93, 3), (60, .iload 4, 2), (62, .aload_n 0, 1), (63, .getfield 26, 3), (66, .iload_n 1, 1), (67, .iload 4, 2), (69, .invokevirtual 337, 3), (72, .iastore, 1), (73, .aload_n 0, 1), (74, .getfield 96, 3), (77, .iload 4, 2), (79, .aload_n 0, 1), (80, .getfield 26, 3), (83, .aload_n 0, 1), (84, .getfield 33, 3), (87, .iload_n 2, 1), (88, .iload 4, 2), (90, .invokevirtual 340, 3), (93, .iastore, 1), (94, .iinc 4 1, 3), (97, .goto (-66), 3), (100, .iconst (-1), 1), (101, .istore 4, 2), (103, .iconst 0, 1), (104, .istore 5, 2), (106, .iload 5, 2), (108, .iload_n 3, 1), (109, .if_icmp .gt 61, 3), (112, .aload_n 0, 1), (113, .getfield 33, 3), (116, .getfield 158, 3), (119, .iload_n 1, 1), (120, .iaload, 1), (121, .iload 5, 2), (123, .ixor, 1), (124, .istore 6, 2), (126, .iload 4, 2), (128, .iconst (-1), 1), (129, .if_icmp .eq 16, 3), (132, .iload 5, 2), (134, .invokestatic 148, 3), (137, .iload 4, 2), (139, .invokestatic 148, 3), (142, .if_icmp .ge 22, 3), (145, .iload 6, 2), (147, .iload_n 3, 1), (148, .if_icmp .eq 16, 3), (151, .aload_n 0, 1), (152, .iload 6, 2), (154, .invokevirtual 343, 3), (157, .ifCond .eq 7, 3), (160, .iload 5, 2), (162, .istore 4, 2), (164, .iinc 5 1, 3), (167, .goto (-61), 3), (170, .iload 4, 2), (172, .iconst (-1), 1), (173, .if_icmp .ne 8, 3), (176, .bipush (-2), 2), (178, .goto 9, 3), (181, .aload_n 0, 1), (182, .iload 4, 2), (184, .invokevirtual 316, 3), (187, .ireturn, 1)], [(31, [5, 6]), (106, [2, 6]), (145, [2])])
def M_SL_noticed : ev_Me := (yX10_noticed, cX10_noticed, 4, (some .int), 10, [(0, .aload_n 0, 1), (1, .getfield 26, 3), (4, .iload_n 1, 1), (5, .iload_n 2, 1), (6, .invokevirtual 283, 3), (9, .ifCond .eq 22, 3), (12, .iload_n 3, 1), (13, .ifCond .lt 18, 3), (16, .iload_n 3, 1), (17, .iconst 1, 1), (18, .if_icmp .gt 13, 3), (21, .aload_n 0, 1), (22, .getfield 76, 3), (25, .invokevirtual 346, 3), (28, .ifCond .ne 5, 3), (31, .iconst (-1), 1), (32, .ireturn, 1), (33, .aload_n 0, 1), (34, .getfield 76, 3), (37, .iload_n 1, 1), (38, .iload_n 2, 1), (39, .iload_n 3, 1), (40, .invokevirtual 350, 3), (43, .aload_n 0, 1), (44, .getfield 76, 3), (47, .getfield 354, 3), (50, .ireturn, 1)], [])
def M_SL_forget : ev_Me := (yX10_forget, cX10_forget, 2, (some .int), 10, [(0, .aload_n 0, 1), (1, .getfield 76, 3), (4, .getfield 354, 3), (7, .istore_n 1, 1), (8, .aload_n 0, 1), (9, .getfield 76, 3), (12, .iconst 0, 1), (13, .putfield 354, 3), (16, .iload_n 1, 1), (17, .ireturn, 1)], [])
def M_SL_fits : ev_Me := (yX10_fits, cX10_fits, 6, (some .int), 10, [(0, .aload_n 0, 1), (1, .getfield 26, 3), (4, .aload_n 0, 1), (5, .getfield 33, 3), (8, .invokevirtual 319, 3), (11, .istore_n 1, 1), (12, .iconst 0, 1), (13, .istore_n 2, 1), (14, .sipush 255, 3), (17, .istore_n 3, 1), (18, .sipush 255, 3), (21, .istore 4, 2), (23, .iconst 0, 1), (24, .istore 5, 2), (26, .iload 5, 2), (28, .sipush 256, 3), (31, .if_icmp .ge 59, 3), (34, .iload 5, 2), (36, .iload_n 1, 1), (37, .iconst (-1), 1), (38, .ixor, 1), (39, .iand, 1), (40, .ifCond .ne 44, 3), (43, .aload_n 0, 1), (44, .iload 5, 2), (46, .invokevirtual 355, 3), (49, .ifCond .ne 6, 3), (52, .goto 32, 3), (55, .iload_n 2, 1), (56, .ifCond .eq 15, 3), (59, .iload 5, 2), (61, .invokestatic 148, 3), (64, .iload_n 3, 1), (65, .invokestatic 148, 3), (68, .if_icmp .ge 6, 3), (71, .iload 5, 2), (73, .istore_n 3, 1), (74, .iload 4, 2), (76, .iload 5, 2), (78, .iand, 1), (79, .istore 4, 2), (81, .iinc 2 1, 3), (84, .iinc 5 1, 3), (87, .goto (-61), 3), (90, .aload_n 0, 1), (91, .getfield 19, 3), (94, .iconst 0, 1), (95, .putfield 270, 3), (98, .iload_n 2, 1), (99, .ifCond .le 15, 3), (102, .aload_n 0, 1), (103, .getfield 19, 3), (106, .iload_n 3, 1), (107, .i2l, 1), (108, .iload 4, 2), (110, .i2l, 1), (111, .invokevirtual 231, 3), (114, .iload_n 2, 1), (115, .ireturn, 1)], [(26, []), (74, [])])
def M_SL_next : ev_Me := (yX10_next, cX10_next, 4, (some .int), 10, [(0, .aload_n 0, 1), (1, .getfield 26, 3), (4, .aload_n 0, 1), (5, .getfield 33, 3), (8, .invokevirtual 319, 3), (11, .istore_n 1, 1), (12, .iconst 0, 1), (13, .istore_n 2, 1), (14, .aload_n 0, 1), (15, .getfield 84, 3), (18, .iconst 0, 1), (19, .invokestatic 197, 3), (22, .iconst 0, 1), (23, .istore_n 3, 1), (24, .iload_n 3, 1), (25, .sipush 256, 3), (28, .if_icmp .ge 33, 3), (31, .iload_n 3, 1), (32, .iload_n 1, 1), (33, .iconst (-1), 1), (34, .ixor, 1), (35, .iand, 1), (36, .ifCond .ne 19, 3), (39, .aload_n 0, 1), (40, .iload_n 3, 1), (41, .invokevirtual 355, 3), (44, .ifCond .eq 11, 3), (47, .aload_n 0, 1), (48, .iload_n 3, 1), (49, .invokevirtual 327, 3), (52, .iinc 2 1, 3), (55, .iinc 3 1, 3), (58, .goto (-34), 3), (61, .iload_n 2, 1), (62, .ifCond .eq 14, 3), (65, .aload_n 0, 1), (66, .getfield 26, 3), (69, .getfield 279, 3), (72, .iconst 2, 1), (73, .if_icmp .ge 8, 3), (76, .bipush (-2), 2), (78, .goto 8, 3), (81, .aload_n 0, 1), (82, .iload_n 2, 1), (83, .invokevirtual 358, 3), (86, .ireturn, 1)], [(24, [])])
def M_SL_calms : ev_Me := (yX10_calms, cX10_calms, 3, (some .int), 10, [(0, .aload_n 0, 1), (1, .getfield 62, 3), (4, .aload_n 0, 1), (5, .getfield 33, 3), (8, .invokevirtual 179, 3), (11, .iconst 0, 1), (12, .istore_n 1, 1), (13, .iconst 0, 1), (14, .istore_n 2, 1), (15, .iload_n 2, 1), (16, .bipush 8, 2), (18, .if_icmp .ge 69, 3), (21, .aload_n 0, 1), (22, .getfield 87, 3), (25, .iload_n 2, 1), (26, .aload_n 0, 1), (27, .getfield 62, 3), (30, .getfield 189, 3), (33, .iload_n 2, 1), (34, .iaload, 1), (35, .ifCond .ne 7, 3), (38, .iconst 0, 1), (39, .goto 19, 3), (42, .aload_n 0, 1), (43, .getfield 62, 3), (46, .aload_n 0, 1), (47, .getfield 50, 3), (50, .aload_n 0, 1), (51, .getfield 33, 3), (54, .iload_n 2, 1), (55, .invokevirtual 361, 3), (58, .iastore, 1), (59, .aload_n 0, 1), (60, .getfield 87, 3), (63, .iload_n 2, 1), (64, .iaload, 1), (65, .iconst (-1), 1), (66, .if_icmp .ne 6, 3), (69, .bipush (-2), 2), (71, .ireturn, 1), (72, .iload_n 1, 1), (73, .aload_n 0, 1), (74, .getfield 87, 3), (77, .iload_n 2, 1), (78, .iaload, 1), (79, .iadd, 1), (80, .istore_n 1, 1), (81, .iinc 2 1, 3), (84, .goto (-69), 3), (87, .aload_n 0, 1), (88, .getfield 19, 3), (91, .iconst 0, 1), (92, .putfield 270, 3), (95, .iconst 0, 1), (96, .istore_n 2, 1), (97, .iload_n 2, 1), (98, .bipush 8, 2), (100, .if_icmp .ge 23, 3), (103, .aload_n 0, 1), (104, .getfield 19, 3), (107, .aload_n 0, 1), (108, .getfield 87, 3), (111, .iload_n 2, 1), (112, .iaload, 1), (113, .i2l, 1), (114, .invokevirtual 271, 3), (117, .iinc 2 1, 3), (120, .goto (-23), 3), (123, .iload_n 1, 1), (124, .ireturn, 1)], [(15, []), (58, []), (97, [])])
def M_SL_buys : ev_Me := (yX10_buys, cX10_buys, 8, (some .int), 10, [(0, .iload_n 1, 1), (1, .ifCond .lt 9, 3), (4, .iload_n 1, 1), (5, .bipush 99, 2), (7, .if_icmp .le 5, 3), (10, .iconst (-1), 1), (11, .ireturn, 1), (12, .aload_n 0, 1), (13, .invokevirtual 365, 3), (16, .istore_n 2, 1), (17, .iconst 0, 1), (18, .istore_n 3, 1), (19, .iconst 0, 1), (20, .istore 4, 2), (22, .iconst 1, 1), (23, .istore 5, 2), (25, .iload 5, 2), (27, .sipush 256, 3), (30, .if_icmp .ge 71, 3), (33, .iload 5, 2), (35, .iload_n 2, 1), (36, .iconst (-1), 1), (37, .ixor, 1), (38, .iand, 1), (39, .ifCond .eq 6, 3), (42, .goto 53, 3), (45, .aload_n 0, 1), (46, .iload 5, 2), (48, .invokevirtual 368, 3), (51, .istore 6, 2), (53, .iload 5, 2), (55, .invokestatic 148, 3), (58, .iload_n 3, 1), (59, .invokestatic 148, 3), (62, .isub, 1), (63, .istore 7, 2), (65, .iload 6, 2), (67, .iload_n 1, 1), (68, .if_icmp .gt 27, 3), (71, .iload 7, 2), (73, .ifCond .gt 15, 3), (76, .iload 7, 2), (78, .ifCond .ne 17, 3), (81, .iload 6, 2), (83, .iload 4, 2), (85, .if_icmp .ge 10, 3), (88, .iload 5, 2), (90, .istore_n 3, 1), (91, .iload 6, 2), (93, .istore 4, 2), (95, .iinc 5 1, 3), (98, .goto (-73), 3), (101, .aload_n 0, 1), (102, .getfield 19, 3), (105, .iload_n 3, 1), (106, .i2l, 1), (107, .iload_n 1, 1), (108, .iload 4, 2), (110, .isub, 1), (111, .i2l, 1), (112, .invokevirtual 231, 3), (115, .iload_n 3, 1), (116, .invokestatic 148, 3), (119, .ireturn, 1)], [(25, [6, 7])])
def M_SL_power : ev_Me := (yX10_power, cX10_power, 6, (some .int), 10, [(0, .iload_n 1, 1), (1, .invokestatic 174, 3), (4, .ifCond .ne 5, 3), (7, .iconst (-1), 1), (8, .ireturn, 1), (9, .aload_n 0, 1), (10, .getfield 62, 3), (13, .aload_n 0, 1), (14, .getfield 33, 3), (17, .invokevirtual 179, 3), (20, .aload_n 0, 1), (21, .getfield 62, 3), (24, .getfield 189, 3), (27, .iconst 0, 1), (28, .aload_n 0, 1), (29, .getfield 87, 3), (32, .iconst 0, 1), (33, .bipush 8, 2), (35, .invokestatic 371, 3), (38, .iconst 0, 1), (39, .istore_n 2, 1), (40, .iconst 0, 1), (41, .istore_n 3, 1), (42, .iconst 0, 1), (43, .istore 4, 2), (45, .iload 4, 2), (47, .bipush 8, 2), (49, .if_icmp .ge 35, 3), (52, .aload_n 0, 1), (53, .iload 4, 2), (55, .invokevirtual 377, 3), (58, .istore 5, 2), (60, .iload 4, 2), (62, .iload_n 1, 1), (63, .if_icmp .ne 8, 3), (66, .iload 5, 2), (68, .goto 4, 3), (71, .iload_n 2, 1), (72, .istore_n 2, 1), (73, .iload_n 3, 1), (74, .iload 5, 2), (76, .iadd, 1), (77, .istore_n 3, 1), (78, .iinc 4 1, 3), (81, .goto (-36), 3), (84, .aload_n 0, 1), (85, .getfield 19, 3), (88, .iload_n 2, 1), (89, .i2l, 1), (90, .iload_n 3, 1), (91, .i2l, 1), (92, .invokevirtual 380, 3), (95, .iload_n 2, 1), (96, .ireturn, 1)], [(45, [5]), (72, [2])])
def M_SL_misread : ev_Me := (yX10_misread, cX10_misread, 7, (some .int), 10, [(0, .aload_n 0, 1), (1, .getfield 26, 3), (4, .iload_n 1, 1), (5, .iload_n 2, 1), (6, .invokevirtual 283, 3), (9, .ifCond .eq 13, 3), (12, .iload_n 3, 1), (13, .ifCond .lt 9, 3), (16, .iload_n 3, 1), (17, .bipush 10, 2), (19, .if_icmp .le 5, 3), (22, .iconst (-1), 1), (23, .ireturn, 1), (24, .lconst 0, 1), (25, .lstore 4, 2), (27, .iconst 0, 1), (28, .istore 6, 2), (30, .iload 6, 2), (32, .sipush 256, 3), (35, .if_icmp .ge 38, 3), (38, .aload_n 0, 1), (39, .getfield 26, 3), (42, .aload_n 0, 1), (43, .getfield 33, 3), (46, .iload_n 1, 1), (47, .iload_n 2, 1), (48, .iload 6, 2), (50, .invokevirtual 323, 3), (53, .ifCond .eq 14, 3), (56, .lload 4, 2), (58, .iload 6, 2), (60, .iload_n 3, 1), (61, .invokestatic 383, 3), (64, .ladd, 1), (65, .lstore 4, 2), (67, .iinc 6 1, 3), (70, .goto (-40), 3), (73, .aload_n 0, 1), (74, .getfield 19, 3), (77, .lload 4, 2), (79, .ldc2_w 387, 3), (82, .bipush 8, 2), (84, .invokestatic 389, 3), (87, .invokevirtual 380, 3), (90, .iconst 0, 1), (91, .ireturn, 1)], [(30, [5])])
def M_SL_game : ev_Me := (yX10_game, cX10_game, 13, (some .int), 10, [(0, .iload_n 1, 1), (1, .ifCond .lt 31, 3), (4, .iload_n 1, 1), (5, .bipush 60, 2), (7, .if_icmp .gt 25, 3), (10, .iload_n 2, 1), (11, .iconst 2, 1), (12, .if_icmp .lt 20, 3), (15, .iload_n 2, 1), (16, .bipush 9, 2), (18, .if_icmp .gt 14, 3), (21, .iload_n 3, 1), (22, .iconst 2, 1), (23, .if_icmp .lt 9, 3), (26, .iload_n 3, 1), (27, .bipush 9, 2), (29, .if_icmp .le 5, 3), (32, .iconst (-1), 1), (33, .ireturn, 1), (34, .iload_n 1, 1), (35, .ifCond .ne 6, 3), (38, .bipush (-2), 2), (40, .ireturn, 1), (41, .lconst 0, 1), (42, .lstore 4, 2), (44, .lconst 0, 1), (45, .lstore 6, 2), (47, .iconst 2, 1), (48, .istore 8, 2), (50, .iload 8, 2), (52, .iload_n 1, 1), (53, .if_icmp .ge 65, 3), (56, .iload 8, 2), (58, .iload_n 2, 1), (59, .lload 6, 2), (61, .invokestatic 393, 3), (64, .ifCond .le 7, 3), (67, .lconst 1, 1), (68, .goto 4, 3), (71, .lconst 0, 1), (72, .lstore 9, 2), (74, .iload 8, 2), (76, .iload_n 3, 1), (77, .lload 4, 2), (79, .invokestatic 393, 3), (82, .ifCond .le 7, 3), (85, .lconst 1, 1), (86, .goto 4, 3), (89, .lconst 0, 1), (90, .lstore 11, 2), (92, .lload 4, 2), (94, .lload 9, 2), (96, .iload 8, 2), (98, .lshl, 1), (99, .lor, 1), (100, .lstore 4, 2), (102, .lload 6, 2), (104, .lload 11, 2), (106, .iload 8, 2), (108, .lshl, 1), (109, .lor, 1), (110, .lstore 6, 2), (112, .iinc 8 1, 3), (115, .goto (-65), 3), (118, .iload_n 1, 1), (119, .iload_n 2, 1), (120, .lload 6, 2), (122, .invokestatic 393, 3), (125, .ireturn, 1)], [(50, [0, 5, 7, 9, 10, 11, 12]), (72, [0, 5, 7, 9, 10, 11, 12]), (90, [0, 5, 7, 10, 11, 12])])
def M_SL_law : ev_Me := (yX10_law, cX10_law, 3, (some .int), 10, [(0, .aload_n 0, 1), (1, .getfield 54, 3), (4, .aload_n 0, 1), (5, .getfield 10, 3), (8, .invokevirtual 121, 3), (11, .istore_n 1, 1), (12, .aload_n 0, 1), (13, .getfield 10, 3), (16, .iconst 0, 1), (17, .putfield 106, 3), (20, .iload_n 1, 1), (21, .iconst (-1), 1), (22, .if_icmp .eq 9, 3), (25, .sipush (-10000), 3), (28, .iload_n 1, 1), (29, .isub, 1), (30, .ireturn, 1), (31, .aload_n 0, 1), (32, .getfield 19, 3), (35, .iconst 0, 1), (36, .putfield 270, 3), (39, .aload_n 0, 1), (40, .getfield 19, 3), (43, .aload_n 0, 1), (44, .getfield 62, 3), (47, .aload_n 0, 1), (48, .getfield 50, 3), (51, .aload_n 0, 1), (52, .getfield 33, 3), (55, .invokevirtual 397, 3), (58, .i2l, 1), (59, .invokevirtual 271, 3), (62, .iconst 0, 1), (63, .istore_n 2, 1), (64, .iload_n 2, 1), (65, .bipush 8, 2), (67, .if_icmp .ge 42, 3), (70, .aload_n 0, 1), (71, .getfield 19, 3), (74, .aload_n 0, 1), (75, .getfield 62, 3), (78, .aload_n 0, 1), (79, .getfield 54, 3), (82, .aload_n 0, 1), (83, .getfield 33, 3), (86, .iload_n 2, 1), (87, .aload_n 0, 1), (88, .getfield 33, 3), (91, .getfield 186, 3), (94, .iload_n 2, 1), (95, .iaload, 1), (96, .invokevirtual 193, 3), (99, .i2l, 1), (100, .invokevirtual 271, 3), (103, .iinc 2 1, 3), (106, .goto (-42), 3), (109, .aload_n 0, 1), (110, .getfield 62, 3), (113, .aload_n 0, 1), (114, .getfield 54, 3), (117, .aload_n 0, 1), (118, .getfield 33, 3), (121, .invokevirtual 397, 3), (124, .ireturn, 1)], [(64, [1])])
def M_SL_rests : ev_Me := (yX10_rests, cX10_rests, 5, (some .int), 10, [(0, .iload_n 1, 1), (1, .ifCond .lt 9, 3), (4, .iload_n 1, 1), (5, .bipush 20, 2), (7, .if_icmp .le 5, 3), (10, .iconst (-1), 1), (11, .ireturn, 1), (12, .iconst 0, 1), (13, .istore_n 2, 1), (14, .aload_n 0, 1), (15, .getfield 19, 3), (18, .iconst 0, 1), (19, .putfield 270, 3), (22, .iconst 0, 1), (23, .istore_n 3, 1), (24, .iload_n 3, 1), (25, .bipush 9, 2), (27, .if_icmp .gt 64, 3), (30, .iconst 0, 1), (31, .istore 4, 2), (33, .iload 4, 2), (35, .bipush 9, 2), (37, .if_icmp .gt 48, 3), (40, .iload_n 3, 1), (41, .iload 4, 2), (43, .iload_n 1, 1), (44, .invokestatic 400, 3), (47, .ifCond .eq 32, 3), (50, .iload 4, 2), (52, .iload_n 3, 1), (53, .iload_n 1, 1), (54, .invokestatic 400, 3), (57, .ifCond .eq 22, 3), (60, .iload_n 2, 1), (61, .ifCond .ne 15, 3), (64, .aload_n 0, 1), (65, .getfield 19, 3), (68, .iload_n 3, 1), (69, .i2l, 1), (70, .iload 4, 2), (72, .i2l, 1), (73, .invokevirtual 231, 3), (76, .iinc 2 1, 3), (79, .iinc 4 1, 3), (82, .goto (-49), 3), (85, .iinc 3 1, 3), (88, .goto (-64), 3), (91, .iload_n 2, 1), (92, .ireturn, 1)], [(24, [4]), (33, [])])
def M_SL_years : ev_Me := (yX10_years, cX10_years, 7, (some .int), 10, [(0, .iload_n 2, 1), (1, .iconst 1, 1), (2, .if_icmp .lt 9, 3), (5, .iload_n 2, 1), (6, .bipush 60, 2), (8, .if_icmp .le 5, 3), (11, .iconst (-1), 1), (12, .ireturn, 1), (13, .aload_n 0, 1), (14, .getfield 37, 3), (17, .aload_n 0, 1), (18, .getfield 33, 3), (21, .invokevirtual 235, 3), (24, .aload_n 0, 1), (25, .iload_n 1, 1), (26, .putfield 404, 3), (29, .iconst 0, 1), (30, .istore_n 3, 1), (31, .iconst 0, 1), (32, .istore 4, 2), (34, .iload 4, 2), (36, .iload_n 2, 1), (37, .if_icmp .ge 127, 3), (40, .aload_n 0, 1), (41, .iconst 4, 1), (42, .invokevirtual 407, 3), (45, .istore 5, 2), (47, .iload 5, 2), (49, .iconst 2, 1), (50, .if_icmp .ge 24, 3), (53, .iload_n 3, 1), (54, .aload_n 0, 1), (55, .getfield 62, 3), (58, .aload_n 0, 1), (59, .getfield 50, 3), (62, .aload_n 0, 1), (63, .getfield 37, 3), (66, .invokevirtual 303, 3), (69, .iadd, 1), (70, .istore_n 3, 1), (71, .goto 87, 3), (74, .iload 5, 2), (76, .iconst 2, 1), (77, .if_icmp .ne 30, 3), (80, .aload_n 0, 1), (81, .bipush 8, 2), (83, .invokevirtual 407, 3), (86, .istore 6, 2), (88, .aload_n 0, 1), (89, .getfield 37, 3), (92, .iload 6, 2), (94, .aload_n 0, 1), (95, .bipush 10, 2), (97, .invokevirtual 407, 3), (100, .invokevirtual 237, 3), (103, .pop, 1), (104, .goto 54, 3), (107, .aload_n 0, 1), (108, .getfield 26, 3), (111, .getfield 279, 3), (114, .ifCond .le 44, 3), (117, .aload_n 0, 1), (118, .aload_n 0, 1), (119, .getfield 26, 3), (122, .getfield 279, 3), (125, .invokevirtual 407, 3), (128, .istore 6, 2), (130, .aload_n 0, 1), (131, .getfield 26, 3), (134, .aload_n 0, 1), (135, .getfield 37, 3), (138, .iload 6, 2), (140, .aload_n 0, 1), (141, .aload_n 0, 1), (142, .getfield 26, 3), (145, .getfield 138, 3), (148, .iload 6, 2), (150, .iaload, 1), (151, .invokevirtual 407, 3), (154, .invokevirtual 246, 3), (157, .pop, 1), (158, .iinc 4 1, 3), (161, .goto (-127), 3), (164, .aload_n 0, 1), (165, .getfield 19, 3), (168, .aload_n 0, 1), (169, .getfield 37, 3), (172, .getfield 141, 3), (175, .i2l, 1), (176, .aload_n 0, 1), (177, .getfield 37, 3), (180, .invokevirtual 214, 3), (183, .i2l, 1), (184, .invokevirtual 231, 3), (187, .iload_n 3, 1), (188, .ireturn, 1)], [(34, [1, 5, 6])])
def M_SL_keep : ev_Me := (yX10_keep, cX10_keep, 2, (some .boolean), 10, [(0, .aload_n 0, 1), (1, .getfield 43, 3), (4, .iload_n 1, 1), (5, .aload_n 0, 1), (6, .getfield 33, 3), (9, .invokevirtual 410, 3), (12, .ireturn, 1)], [])
def M_SL_again : ev_Me := (yX10_again, cX10_again, 2, (some .boolean), 10, [(0, .aload_n 0, 1), (1, .getfield 43, 3), (4, .iload_n 1, 1), (5, .aload_n 0, 1), (6, .getfield 33, 3), (9, .invokevirtual 414, 3), (12, .ireturn, 1)], [])
def M_SL_count : ev_Me := (yX10_count, cX10_count, 2, (some .int), 10, [(0, .aload_n 0, 1), (1, .getfield 62, 3), (4, .aload_n 0, 1), (5, .getfield 33, 3), (8, .invokevirtual 179, 3), (11, .iload_n 1, 1), (12, .tableswitch 169 0 11 #[64, 72, 80, 88, 96, 104, 115, 126, 137, 145, 153, 161], 64), (76, .aload_n 0, 1), (77, .getfield 26, 3), (80, .getfield 279, 3), (83, .ireturn, 1), (84, .aload_n 0, 1), (85, .getfield 33, 3), (88, .getfield 417, 3), (91, .ireturn, 1), (92, .aload_n 0, 1), (93, .getfield 33, 3), (96, .getfield 141, 3), (99, .ireturn, 1), (100, .aload_n 0, 1), (101, .getfield 33, 3), (104, .getfield 300, 3), (107, .ireturn, 1), (108, .aload_n 0, 1), (109, .getfield 33, 3), (112, .invokevirtual 214, 3), (115, .ireturn, 1), (116, .aload_n 0, 1), (117, .getfield 33, 3), (120, .getfield 186, 3), (123, .invokestatic 420, 3), (126, .ireturn, 1), (127, .aload_n 0, 1), (128, .getfield 62, 3), (131, .getfield 189, 3), (134, .invokestatic 420, 3), (137, .ireturn, 1), (138, .aload_n 0, 1), (139, .getfield 62, 3), (142, .getfield 190, 3), (145, .invokestatic 420, 3), (148, .ireturn, 1), (149, .aload_n 0, 1), (150, .getfield 76, 3), (153, .getfield 354, 3), (156, .ireturn, 1), (157, .aload_n 0, 1), (158, .getfield 43, 3), (161, .getfield 266, 3), (164, .ireturn, 1), (165, .aload_n 0, 1), (166, .getfield 19, 3), (169, .getfield 270, 3), (172, .ireturn, 1), (173, .aload_n 0, 1), (174, .getfield 10, 3), (177, .getfield 106, 3), (180, .ireturn, 1), (181, .bipush (-100), 2), (183, .ireturn, 1)], [])
def M_SL_row : ev_Me := (yX10_row, cX10_row, 2, (some .long), 10, [(0, .iload_n 1, 1), (1, .ifCond .lt 14, 3), (4, .iload_n 1, 1), (5, .aload_n 0, 1), (6, .getfield 19, 3), (9, .getfield 270, 3), (12, .if_icmp .lt 14, 3), (15, .new 131, 3), (18, .dup, 1), (19, .ldc_w 424, 3), (22, .invokespecial 135, 3), (25, .athrow, 1), (26, .aload_n 0, 1), (27, .getfield 19, 3), (30, .getfield 426, 3), (33, .iload_n 1, 1), (34, .laload, 1), (35, .lreturn, 1)], [(15, [0, 1])])
def M_SL_isLetter : ev_Me := (yX10_isLetter, cX10_isLetter, 1, (some .boolean), 10, [(0, .iload_n 0, 1), (1, .ifCond .lt 13, 3), (4, .iload_n 0, 1), (5, .bipush 8, 2), (7, .if_icmp .ge 7, 3), (10, .iconst 1, 1), (11, .goto 4, 3), (14, .iconst 0, 1), (15, .ireturn, 1)], [])
def M_SL_isSet : ev_Me := (yX10_isSet, cX10_isSet, 1, (some .boolean), 10, [(0, .iload_n 0, 1), (1, .ifCond .lt 14, 3), (4, .iload_n 0, 1), (5, .sipush 255, 3), (8, .if_icmp .gt 7, 3), (11, .iconst 1, 1), (12, .goto 4, 3), (15, .iconst 0, 1), (16, .ireturn, 1)], [])
def M_SL_cutTo : ev_Me := (yX10_cutTo, cX10_cutTo, 2, (some .int), 10, [(0, .iload_n 0, 1), (1, .ifCond .ne 8, 3), (4, .iload_n 1, 1), (5, .i2b, 1), (6, .goto 14, 3), (9, .iload_n 0, 1), (10, .iconst 1, 1), (11, .if_icmp .ne 8, 3), (14, .iload_n 1, 1), (15, .i2s, 1), (16, .goto 4, 3), (19, .iload_n 1, 1), (20, .ireturn, 1)], [])
def M_SL_sum : ev_Me := (yX10_sum, cX10_sum, 6, (some .int), 10, [(0, .iconst 0, 1), (1, .istore_n 1, 1), (2, .aload_n 0, 1), (3, .astore_n 2, 1), (4, .aload_n 2, 1), (5, .arraylength, 1), (6, .istore_n 3, 1), (7, .iconst 0, 1), (8, .istore 4, 2), (10, .iload 4, 2), (12, .iload_n 3, 1), (13, .if_icmp .ge 20, 3), (16, .aload_n 2, 1), (17, .iload 4, 2), (19, .iaload, 1), (20, .istore 5, 2), (22, .iload_n 1, 1), (23, .iload 5, 2), (25, .iadd, 1), (26, .istore_n 1, 1), (27, .iinc 4 1, 3), (30, .goto (-20), 3), (33, .iload_n 1, 1), (34, .ireturn, 1)], [(10, [0, 5])])
def M_SL_rememberIfDone : ev_Me := (yX10_rememberIfDone, cX10_rememberIfDone, 2, (some .int), 10, [(0, .iload_n 1, 1), (1, .ifCond .lt 14, 3), (4, .aload_n 0, 1), (5, .getfield 43, 3), (8, .aload_n 0, 1), (9, .getfield 37, 3), (12, .invokevirtual 218, 3), (15, .iload_n 1, 1), (16, .ireturn, 1)], [])
def M_SL_doAct : ev_Me := (yX10_doAct, cX10_doAct, 5, (some .int), 10, [(0, .aload_n 0, 1), (1, .getfield 10, 3), (4, .iload_n 1, 1), (5, .invokevirtual 255, 3), (8, .istore_n 2, 1), (9, .aload_n 0, 1), (10, .getfield 10, 3), (13, .iload_n 1, 1), (14, .iconst 1, 1), (15, .iadd, 1), (16, .invokevirtual 255, 3), (19, .istore_n 3, 1), (20, .iload_n 2, 1), (21, .bipush 110, 2), (23, .if_icmp .ne 45, 3), (26, .iconst 0, 1), (27, .istore 4, 2), (29, .iload 4, 2), (31, .iload_n 3, 1), (32, .bipush 48, 2), (34, .isub, 1), (35, .if_icmp .ge 25, 3), (38, .aload_n 0, 1), (39, .getfield 62, 3), (42, .aload_n 0, 1), (43, .getfield 50, 3), (46, .aload_n 0, 1), (47, .getfield 33, 3), (50, .invokevirtual 303, 3), (53, .pop, 1), (54, .iinc 4 1, 3), (57, .goto (-28), 3), (60, .aload_n 0, 1), (61, .getfield 33, 3), (64, .getfield 141, 3), (67, .ireturn, 1), (68, .aload_n 0, 1), (69, .getfield 10, 3), (72, .iload_n 1, 1), (73, .iconst 2, 1), (74, .iadd, 1), (75, .invokevirtual 255, 3), (78, .bipush 48, 2), (80, .isub, 1), (81, .istore 4, 2), (83, .iload_n 2, 1), (84, .bipush 120, 2), (86, .if_icmp .ne 21, 3), (89, .aload_n 0, 1), (90, .getfield 26, 3), (93, .aload_n 0, 1), (94, .getfield 33, 3), (97, .iload_n 3, 1), (98, .bipush 48, 2), (100, .isub, 1), (101, .iload 4, 2), (103, .invokevirtual 246, 3), (106, .ireturn, 1), (107, .iload_n 2, 1), (108, .bipush 111, 2), (110, .if_icmp .ne 17, 3), (113, .aload_n 0, 1), (114, .getfield 33, 3), (117, .iload_n 3, 1), (118, .bipush 97, 2), (120, .isub, 1), (121, .iload 4, 2), (123, .invokevirtual 237, 3), (126, .ireturn, 1), (127, .aload_n 0, 1), (128, .getfield 33, 3), (131, .iload_n 3, 1), (132, .bipush 97, 2), (134, .isub, 1), (135, .iload_n 2, 1), (136, .bipush 114, 2), (138, .if_icmp .ne 8, 3), (141, .iload 4, 2), (143, .goto 6, 3), (146, .iload 4, 2), (148, .ineg, 1), (149, .invokevirtual 243, 3), (152, .ireturn, 1)], [(29, [1, 2])])
def M_SL_draw : ev_Me := (yX10_draw, cX10_draw, 2, (some .int), 10, [(0, .aload_n 0, 1), (1, .aload_n 0, 1), (2, .getfield 404, 3), (5, .ldc_w 430, 3), (8, .imul, 1), (9, .sipush 12345, 3), (12, .iadd, 1), (13, .putfield 404, 3), (16, .iload_n 1, 1), (17, .ifCond .le 15, 3), (20, .aload_n 0, 1), (21, .getfield 404, 3), (24, .bipush 16, 2), (26, .iushr, 1), (27, .iload_n 1, 1), (28, .irem, 1), (29, .goto 4, 3), (32, .iconst 0, 1), (33, .ireturn, 1)], [])
def M_SL_oneWith : ev_Me := (yX10_oneWith, cX10_oneWith, 4, (some .int), 10, [(0, .aload_n 0, 1), (1, .getfield 26, 3), (4, .aload_n 0, 1), (5, .getfield 33, 3), (8, .aload_n 0, 1), (9, .getfield 33, 3), (12, .getfield 141, 3), (15, .aload_n 0, 1), (16, .getfield 80, 3), (19, .invokevirtual 275, 3), (22, .iconst 0, 1), (23, .istore_n 2, 1), (24, .iconst 0, 1), (25, .istore_n 3, 1), (26, .iload_n 3, 1), (27, .aload_n 0, 1), (28, .getfield 26, 3), (31, .getfield 279, 3), (34, .if_icmp .ge 35, 3), (37, .iload_n 3, 1), (38, .iload_n 1, 1), (39, .if_icmp .eq 24, 3), (42, .aload_n 0, 1), (43, .getfield 80, 3), (46, .iload_n 3, 1), (47, .iaload, 1), (48, .aload_n 0, 1), (49, .getfield 80, 3), (52, .iload_n 1, 1), (53, .iaload, 1), (54, .if_icmp .ne 9, 3), (57, .iload_n 2, 1), (58, .iconst 1, 1), (59, .iload_n 3, 1), (60, .ishl, 1), (61, .ior, 1), (62, .istore_n 2, 1), (63, .iinc 3 1, 3), (66, .goto (-40), 3), (69, .iload_n 2, 1), (70, .ireturn, 1)], [(26, [])])
def M_SL_firstLike : ev_Me := (yX10_firstLike, cX10_firstLike, 3, (some .int), 10, [(0, .iconst 0, 1), (1, .istore_n 2, 1), (2, .iload_n 2, 1), (3, .iload_n 1, 1), (4, .if_icmp .ge 26, 3), (7, .aload_n 0, 1), (8, .getfield 80, 3), (11, .iload_n 2, 1), (12, .iaload, 1), (13, .aload_n 0, 1), (14, .getfield 80, 3), (17, .iload_n 1, 1), (18, .iaload, 1), (19, .if_icmp .ne 5, 3), (22, .iload_n 2, 1), (23, .ireturn, 1), (24, .iinc 2 1, 3), (27, .goto (-25), 3), (30, .iload_n 1, 1), (31, .ireturn, 1)], [(2, [])])
def M_SL_tellFirstFallen : ev_Me := (yX10_tellFirstFallen, cX10_tellFirstFallen, 3, none, 10, [(0, .aload_n 0, 1), (1, .getfield 26, 3), (4, .aload_n 0, 1), (5, .getfield 37, 3), (8, .aload_n 0, 1), (9, .getfield 37, 3), (12, .getfield 141, 3), (15, .aload_n 0, 1), (16, .getfield 80, 3), (19, .invokevirtual 275, 3), (22, .iconst 0, 1), (23, .istore_n 1, 1), (24, .iload_n 1, 1), (25, .aload_n 0, 1), (26, .getfield 26, 3), (29, .getfield 279, 3), (32, .if_icmp .ge 69, 3), (35, .iload_n 1, 1), (36, .iconst 1, 1), (37, .iadd, 1), (38, .istore_n 2, 1), (39, .iload_n 2, 1), (40, .aload_n 0, 1), (41, .getfield 26, 3), (44, .getfield 279, 3), (47, .if_icmp .ge 48, 3), (50, .aload_n 0, 1), (51, .getfield 80, 3), (54, .iload_n 1, 1), (55, .iaload, 1), (56, .aload_n 0, 1), (57, .getfield 80, 3), (60, .iload_n 2, 1), (61, .iaload, 1), (62, .if_icmp .ne 27, 3), (65, .aload_n 0, 1), (66, .getfield 26, 3), (69, .iload_n 1, 1), (70, .iload_n 2, 1), (71, .invokevirtual 431, 3), (74, .ifCond .ne 15, 3), (77, .aload_n 0, 1), (78, .getfield 19, 3), (81, .iload_n 1, 1), (82, .i2l, 1), (83, .iload_n 2, 1), (84, .i2l, 1), (85, .invokevirtual 231, 3), (88, .return_, 1), (89, .iinc 2 1, 3), (92, .goto (-53), 3), (95, .iinc 1 1, 3), (98, .goto (-74), 3), (101, .return_, 1)], [(24, [2]), (39, [])])
def M_SL_tellSet : ev_Me := (yX10_tellSet, cX10_tellSet, 2, (some .int), 10, [(0, .aload_n 0, 1), (1, .getfield 19, 3), (4, .iconst 0, 1), (5, .putfield 270, 3), (8, .aload_n 0, 1), (9, .getfield 19, 3), (12, .iload_n 1, 1), (13, .i2l, 1), (14, .invokevirtual 271, 3), (17, .iload_n 1, 1), (18, .invokestatic 148, 3), (21, .ireturn, 1)], [])
def M_SL_tellsApart : ev_Me := (yX10_tellsApart, cX10_tellsApart, 5, (some .boolean), 10, [(0, .aload_n 0, 1), (1, .getfield 26, 3), (4, .aload_n 0, 1), (5, .getfield 33, 3), (8, .iload_n 1, 1), (9, .aload_n 0, 1), (10, .getfield 80, 3), (13, .invokevirtual 275, 3), (16, .iconst 0, 1), (17, .istore_n 3, 1), (18, .iload_n 3, 1), (19, .aload_n 0, 1), (20, .getfield 26, 3), (23, .getfield 279, 3), (26, .if_icmp .ge 77, 3), (29, .iload_n 3, 1), (30, .iconst 1, 1), (31, .iadd, 1), (32, .istore 4, 2), (34, .iload 4, 2), (36, .aload_n 0, 1), (37, .getfield 26, 3), (40, .getfield 279, 3), (43, .if_icmp .ge 54, 3), (46, .iload_n 2, 1), (47, .iload_n 3, 1), (48, .ishr, 1), (49, .iload_n 2, 1), (50, .iload 4, 2), (52, .ishr, 1), (53, .iand, 1), (54, .iconst 1, 1), (55, .iand, 1), (56, .iconst 1, 1), (57, .if_icmp .ne 34, 3), (60, .aload_n 0, 1), (61, .getfield 80, 3), (64, .iload_n 3, 1), (65, .iaload, 1), (66, .aload_n 0, 1), (67, .getfield 80, 3), (70, .iload 4, 2), (72, .iaload, 1), (73, .if_icmp .ne 18, 3), (76, .aload_n 0, 1), (77, .getfield 26, 3), (80, .iload_n 3, 1), (81, .iload 4, 2), (83, .invokevirtual 431, 3), (86, .ifCond .ne 5, 3), (89, .iconst 0, 1), (90, .ireturn, 1), (91, .iinc 4 1, 3), (94, .goto (-60), 3), (97, .iinc 3 1, 3), (100, .goto (-82), 3), (103, .iconst 1, 1), (104, .ireturn, 1)], [(18, [1, 4]), (34, [1])])
def M_SL_countPairsThatAreOne : ev_Me := (yX10_countPairsThatAreOne, cX10_countPairsThatAreOne, 4, none, 10, [(0, .aload_n 0, 1), (1, .getfield 26, 3), (4, .aload_n 0, 1), (5, .getfield 33, 3), (8, .iload_n 1, 1), (9, .aload_n 0, 1), (10, .getfield 80, 3), (13, .invokevirtual 275, 3), (16, .iconst 0, 1), (17, .istore_n 2, 1), (18, .iload_n 2, 1), (19, .aload_n 0, 1), (20, .getfield 26, 3), (23, .getfield 279, 3), (26, .if_icmp .ge 64, 3), (29, .iload_n 2, 1), (30, .iconst 1, 1), (31, .iadd, 1), (32, .istore_n 3, 1), (33, .iload_n 3, 1), (34, .aload_n 0, 1), (35, .getfield 26, 3), (38, .getfield 279, 3), (41, .if_icmp .ge 43, 3), (44, .aload_n 0, 1), (45, .getfield 84, 3), (48, .iload_n 2, 1), (49, .bipush 8, 2), (51, .imul, 1), (52, .iload_n 3, 1), (53, .iadd, 1), (54, .dup2, 1), (55, .iaload, 1), (56, .aload_n 0, 1), (57, .getfield 80, 3), (60, .iload_n 2, 1), (61, .iaload, 1), (62, .aload_n 0, 1), (63, .getfield 80, 3), (66, .iload_n 3, 1), (67, .iaload, 1), (68, .if_icmp .ne 7, 3), (71, .iconst 1, 1), (72, .goto 4, 3), (75, .iconst 0, 1), (76, .iadd, 1), (77, .iastore, 1), (78, .iinc 3 1, 3), (81, .goto (-48), 3), (84, .iinc 2 1, 3), (87, .goto (-69), 3), (90, .return_, 1)], [(18, [1, 3]), (33, [1])])
def M_SL_neverMeet : ev_Me := (yX10_neverMeet, cX10_neverMeet, 4, (some .boolean), 10, [(0, .iconst 0, 1), (1, .istore_n 2, 1), (2, .iload_n 2, 1), (3, .aload_n 0, 1), (4, .getfield 26, 3), (7, .getfield 279, 3), (10, .if_icmp .ge 59, 3), (13, .iload_n 2, 1), (14, .iconst 1, 1), (15, .iadd, 1), (16, .istore_n 3, 1), (17, .iload_n 3, 1), (18, .aload_n 0, 1), (19, .getfield 26, 3), (22, .getfield 279, 3), (25, .if_icmp .ge 38, 3), (28, .iload_n 1, 1), (29, .iload_n 2, 1), (30, .ishr, 1), (31, .iload_n 1, 1), (32, .iload_n 3, 1), (33, .ishr, 1), (34, .iand, 1), (35, .iconst 1, 1), (36, .iand, 1), (37, .iconst 1, 1), (38, .if_icmp .ne 19, 3), (41, .aload_n 0, 1), (42, .getfield 84, 3), (45, .iload_n 2, 1), (46, .bipush 8, 2), (48, .imul, 1), (49, .iload_n 3, 1), (50, .iadd, 1), (51, .iaload, 1), (52, .ifCond .le 5, 3), (55, .iconst 0, 1), (56, .ireturn, 1), (57, .iinc 3 1, 3), (60, .goto (-43), 3), (63, .iinc 2 1, 3), (66, .goto (-64), 3), (69, .iconst 1, 1), (70, .ireturn, 1)], [(2, [3]), (17, [])])
def M_SL_neverTaken : ev_Me := (yX10_neverTaken, cX10_neverTaken, 3, (some .boolean), 10, [(0, .iconst 0, 1), (1, .istore_n 2, 1), (2, .iload_n 2, 1), (3, .sipush 256, 3), (6, .if_icmp .ge 33, 3), (9, .aload_n 0, 1), (10, .getfield 93, 3), (13, .iload_n 1, 1), (14, .aload_n 0, 1), (15, .getfield 90, 3), (18, .iload_n 2, 1), (19, .iaload, 1), (20, .iand, 1), (21, .iaload, 1), (22, .aload_n 0, 1), (23, .getfield 96, 3), (26, .iload_n 2, 1), (27, .iaload, 1), (28, .if_icmp .ne 5, 3), (31, .iconst 0, 1), (32, .ireturn, 1), (33, .iinc 2 1, 3), (36, .goto (-34), 3), (39, .iconst 1, 1), (40, .ireturn, 1)], [(2, [])])
def M_SL_agrees : ev_Me := (yX10_agrees, cX10_agrees, 2, (some .boolean), 10, [(0, .aload_n 0, 1), (1, .getfield 26, 3), (4, .aload_n 0, 1), (5, .getfield 33, 3), (8, .iload_n 1, 1), (9, .aload_n 0, 1), (10, .getfield 80, 3), (13, .invokevirtual 275, 3), (16, .aload_n 0, 1), (17, .getfield 76, 3), (20, .aload_n 0, 1), (21, .getfield 80, 3), (24, .invokevirtual 434, 3), (27, .ireturn, 1)], [])
def M_SL_tellBestLook : ev_Me := (yX10_tellBestLook, cX10_tellBestLook, 7, (some .int), 10, [(0, .iload_n 1, 1), (1, .iconst 1, 1), (2, .iadd, 1), (3, .istore_n 2, 1), (4, .iconst 0, 1), (5, .istore_n 3, 1), (6, .iload_n 3, 1), (7, .aload_n 0, 1), (8, .getfield 26, 3), (11, .getfield 279, 3), (14, .if_icmp .ge 78, 3), (17, .iload_n 3, 1), (18, .iconst 1, 1), (19, .iadd, 1), (20, .istore 4, 2), (22, .iload 4, 2), (24, .aload_n 0, 1), (25, .getfield 26, 3), (28, .getfield 279, 3), (31, .if_icmp .ge 55, 3), (34, .aload_n 0, 1), (35, .getfield 84, 3), (38, .iload_n 3, 1), (39, .bipush 8, 2), (41, .imul, 1), (42, .iload 4, 2), (44, .iadd, 1), (45, .iaload, 1), (46, .istore 5, 2), (48, .iload 5, 2), (50, .iload_n 1, 1), (51, .iload 5, 2), (53, .isub, 1), (54, .invokestatic 211, 3), (57, .istore 6, 2), (59, .iload 6, 2), (61, .iload_n 2, 1), (62, .if_icmp .ge 18, 3), (65, .iload 6, 2), (67, .istore_n 2, 1), (68, .aload_n 0, 1), (69, .getfield 19, 3), (72, .iload_n 3, 1), (73, .i2l, 1), (74, .iload 4, 2), (76, .i2l, 1), (77, .invokevirtual 231, 3), (80, .iinc 4 1, 3), (83, .goto (-61), 3), (86, .iinc 3 1, 3), (89, .goto (-83), 3), (92, .iload_n 2, 1), (93, .ireturn, 1)], [(6, [4, 5, 6]), (22, [5, 6])])
def M_SL_priceStrikers : ev_Me := (yX10_priceStrikers, cX10_priceStrikers, 3, (some .int), 10, [(0, .aload_n 0, 1), (1, .getfield 62, 3), (4, .aload_n 0, 1), (5, .getfield 33, 3), (8, .invokevirtual 179, 3), (11, .iconst 0, 1), (12, .istore_n 1, 1), (13, .iconst 0, 1), (14, .istore_n 2, 1), (15, .iload_n 2, 1), (16, .bipush 8, 2), (18, .if_icmp .ge 62, 3), (21, .aload_n 0, 1), (22, .getfield 87, 3), (25, .iload_n 2, 1), (26, .aload_n 0, 1), (27, .getfield 62, 3), (30, .getfield 189, 3), (33, .iload_n 2, 1), (34, .iaload, 1), (35, .ifCond .ne 7, 3), (38, .iconst 0, 1), (39, .goto 19, 3), (42, .aload_n 0, 1), (43, .getfield 62, 3), (46, .aload_n 0, 1), (47, .getfield 50, 3), (50, .aload_n 0, 1), (51, .getfield 33, 3), (54, .iload_n 2, 1), (55, .invokevirtual 361, 3), (58, .iastore, 1), (59, .aload_n 0, 1), (60, .getfield 87, 3), (63, .iload_n 2, 1), (64, .iaload, 1), (65, .ifCond .le 9, 3), (68, .iload_n 1, 1), (69, .iconst 1, 1), (70, .iload_n 2, 1), (71, .ishl, 1), (72, .ior, 1), (73, .istore_n 1, 1), (74, .iinc 2 1, 3), (77, .goto (-62), 3), (80, .iload_n 1, 1), (81, .ireturn, 1)], [(15, []), (58, [])])
def M_SL_sumOver : ev_Me := (yX10_sumOver, cX10_sumOver, 4, (some .int), 10, [(0, .iconst 0, 1), (1, .istore_n 2, 1), (2, .iconst 0, 1), (3, .istore_n 3, 1), (4, .iload_n 3, 1), (5, .bipush 8, 2), (7, .if_icmp .ge 31, 3), (10, .iload_n 2, 1), (11, .iload_n 1, 1), (12, .iload_n 3, 1), (13, .ishr, 1), (14, .iconst 1, 1), (15, .iand, 1), (16, .iconst 1, 1), (17, .if_icmp .ne 12, 3), (20, .aload_n 0, 1), (21, .getfield 87, 3), (24, .iload_n 3, 1), (25, .iaload, 1), (26, .goto 4, 3), (29, .iconst 0, 1), (30, .iadd, 1), (31, .istore_n 2, 1), (32, .iinc 3 1, 3), (35, .goto (-31), 3), (38, .iload_n 2, 1), (39, .ireturn, 1)], [(4, [])])
def M_SL_setsTurnedBy : ev_Me := (yX10_setsTurnedBy, cX10_setsTurnedBy, 7, (some .int), 10, [(0, .aload_n 0, 1), (1, .sipush 255, 3), (4, .invokevirtual 368, 3), (7, .istore_n 2, 1), (8, .iconst 0, 1), (9, .istore_n 3, 1), (10, .iconst 0, 1), (11, .istore 4, 2), (13, .iload 4, 2), (15, .sipush 256, 3), (18, .if_icmp .ge 69, 3), (21, .iload 4, 2), (23, .iload_n 1, 1), (24, .ishr, 1), (25, .iconst 1, 1), (26, .iand, 1), (27, .ifCond .ne 54, 3), (30, .aload_n 0, 1), (31, .iload 4, 2), (33, .invokevirtual 368, 3), (36, .istore 5, 2), (38, .iconst 2, 1), (39, .iload 5, 2), (41, .imul, 1), (42, .iload_n 2, 1), (43, .if_icmp .gt 22, 3), (46, .iconst 2, 1), (47, .iload 5, 2), (49, .aload_n 0, 1), (50, .getfield 87, 3), (53, .iload_n 1, 1), (54, .iaload, 1), (55, .iadd, 1), (56, .imul, 1), (57, .iload_n 2, 1), (58, .if_icmp .le 7, 3), (61, .iconst 1, 1), (62, .goto 4, 3), (65, .iconst 0, 1), (66, .istore 6, 2), (68, .iload_n 3, 1), (69, .iload 6, 2), (71, .ifCond .eq 7, 3), (74, .iconst 1, 1), (75, .goto 4, 3), (78, .iconst 0, 1), (79, .iadd, 1), (80, .istore_n 3, 1), (81, .iinc 4 1, 3), (84, .goto (-71), 3), (87, .iload_n 3, 1), (88, .ireturn, 1)], [(13, [5, 6]), (66, [5, 6])])
def M_SL_raised : ev_Me := (yX10_raised, cX10_raised, 6, (some .long), 10, [(0, .lconst 1, 1), (1, .lstore_n 3, 1), (2, .iconst 0, 1), (3, .istore 5, 2), (5, .iload 5, 2), (7, .iload_n 2, 1), (8, .if_icmp .ge 13, 3), (11, .lload_n 3, 1), (12, .lload_n 0, 1), (13, .lmul, 1), (14, .lstore_n 3, 1), (15, .iinc 5 1, 3), (18, .goto (-13), 3), (21, .lload_n 3, 1), (22, .lreturn, 1)], [(5, [1, 4])])
def M_SL_chanceOf : ev_Me := (yX10_chanceOf, cX10_chanceOf, 3, (some .long), 10, [(0, .iload_n 0, 1), (1, .invokestatic 148, 3), (4, .istore_n 2, 1), (5, .iload_n 1, 1), (6, .i2l, 1), (7, .iload_n 2, 1), (8, .invokestatic 389, 3), (11, .bipush 10, 2), (13, .iload_n 1, 1), (14, .isub, 1), (15, .i2l, 1), (16, .bipush 8, 2), (18, .iload_n 2, 1), (19, .isub, 1), (20, .invokestatic 389, 3), (23, .lmul, 1), (24, .lreturn, 1)], [])
def M_SL_winningTake : ev_Me := (yX10_winningTake, cX10_winningTake, 4, (some .int), 10, [(0, .iload_n 0, 1), (1, .iconst 1, 1), (2, .if_icmp .le 17, 3), (5, .lload_n 2, 1), (6, .iload_n 0, 1), (7, .iconst 1, 1), (8, .isub, 1), (9, .lshr, 1), (10, .lconst 1, 1), (11, .land, 1), (12, .lconst 0, 1), (13, .lcmp, 1), (14, .ifCond .ne 5, 3), (17, .iconst 1, 1), (18, .ireturn, 1), (19, .iload_n 0, 1), (20, .iload_n 1, 1), (21, .if_icmp .le 19, 3), (24, .lload_n 2, 1), (25, .iload_n 0, 1), (26, .iload_n 1, 1), (27, .isub, 1), (28, .lshr, 1), (29, .lconst 1, 1), (30, .land, 1), (31, .lconst 0, 1), (32, .lcmp, 1), (33, .ifCond .ne 7, 3), (36, .iload_n 1, 1), (37, .goto 4, 3), (40, .iconst 0, 1), (41, .ireturn, 1)], [(19, [3])])
def M_SL_gainOf : ev_Me := (yX10_gainOf, cX10_gainOf, 5, (some .int), 10, [(0, .iload_n 0, 1), (1, .iconst 0, 1), (2, .iload_n 0, 1), (3, .iconst 5, 1), (4, .isub, 1), (5, .invokestatic 211, 3), (8, .iadd, 1), (9, .istore_n 3, 1), (10, .iload_n 0, 1), (11, .iload_n 1, 1), (12, .if_icmp .le 7, 3), (15, .iload_n 2, 1), (16, .goto 17, 3), (19, .iload_n 0, 1), (20, .iload_n 1, 1), (21, .if_icmp .ne 9, 3), (24, .iload_n 2, 1), (25, .iconst 2, 1), (26, .idiv, 1), (27, .goto 6, 3), (30, .iload_n 2, 1), (31, .iconst 3, 1), (32, .idiv, 1), (33, .istore 4, 2), (35, .iload 4, 2), (37, .iload_n 3, 1), (38, .isub, 1), (39, .ireturn, 1)], [])
def M_SL_isBest : ev_Me := (yX10_isBest, cX10_isBest, 5, (some .boolean), 10, [(0, .iload_n 0, 1), (1, .iload_n 1, 1), (2, .iload_n 2, 1), (3, .invokestatic 438, 3), (6, .istore_n 3, 1), (7, .iconst 0, 1), (8, .istore 4, 2), (10, .iload 4, 2), (12, .bipush 9, 2), (14, .if_icmp .gt 22, 3), (17, .iload 4, 2), (19, .iload_n 1, 1), (20, .iload_n 2, 1), (21, .invokestatic 438, 3), (24, .iload_n 3, 1), (25, .if_icmp .le 5, 3), (28, .iconst 0, 1), (29, .ireturn, 1), (30, .iinc 4 1, 3), (33, .goto (-23), 3), (36, .iconst 1, 1), (37, .ireturn, 1)], [(10, [0])])
def M_Mo_thrown : ev_Me := (yX11_thrown, cX11_thrown, 1, (some .int), 11, [(0, .aload_n 0, 1), (1, .getfield 3, 3), (4, .ireturn, 1)], [])
def M_Mo_refuse : ev_Me := (yX11_refuse, cX11_refuse, 1, (some .int), 11, [(0, .aload_n 0, 1), (1, .iconst 1, 1), (2, .putfield 3, 3), (5, .iconst 0, 1), (6, .ireturn, 1)], [])
def M_Mo_in : ev_Me := (yX11_in, cX11_in, 6, (some .boolean), 11, [(0, .lload_n 0, 1), (1, .lload_n 2, 1), (2, .lcmp, 1), (3, .ifCond .lt 14, 3), (6, .lload_n 0, 1), (7, .lload 4, 2), (9, .lcmp, 1), (10, .ifCond .gt 7, 3), (13, .iconst 1, 1), (14, .goto 4, 3), (17, .iconst 0, 1), (18, .ireturn, 1)], [])
def M_Mo_has : ev_Me := (yX11_has, cX11_has, 2, (some .boolean), 11, [(0, .iload_n 0, 1), (1, .iload_n 1, 1), (2, .ishr, 1), (3, .iconst 1, 1), (4, .iand, 1), (5, .iconst 1, 1), (6, .if_icmp .ne 7, 3), (9, .iconst 1, 1), (10, .goto 4, 3), (13, .iconst 0, 1), (14, .ireturn, 1)], [])
def M_Mo_flag : ev_Me := (yX11_flag, cX11_flag, 1, (some .int), 11, [(0, .iload_n 0, 1), (1, .ifCond .eq 7, 3), (4, .iconst 1, 1), (5, .goto 4, 3), (8, .iconst 0, 1), (9, .ireturn, 1)], [])
def M_Mo_common : ev_Me := (yX11_common, cX11_common, 4, (some .long), 11, [(0, .lload_n 2, 1), (1, .lconst 0, 1), (2, .lcmp, 1), (3, .ifCond .ne 7, 3), (6, .lload_n 0, 1), (7, .goto 10, 3), (10, .lload_n 2, 1), (11, .lload_n 0, 1), (12, .lload_n 2, 1), (13, .lrem, 1), (14, .invokestatic 7, 3), (17, .lreturn, 1)], [])
def M_Mo_enters : ev_Me := (yX11_enters, cX11_enters, 3, none, 11, [(0, .aload_n 0, 1), (1, .getfield 11, 3), (4, .aload_n 0, 1), (5, .getfield 15, 3), (8, .lload_n 1, 1), (9, .lastore, 1), (10, .aload_n 0, 1), (11, .dup, 1), (12, .getfield 15, 3), (15, .iconst 1, 1), (16, .iadd, 1), (17, .putfield 15, 3), (20, .return_, 1)], [])
def M_Mo_tellsFraction : ev_Me := (yX11_tellsFraction, cX11_tellsFraction, 7, none, 11, [(0, .lload_n 1, 1), (1, .lload_n 3, 1), (2, .invokestatic 7, 3), (5, .lstore 5, 2), (7, .aload_n 0, 1), (8, .iconst 0, 1), (9, .putfield 15, 3), (12, .aload_n 0, 1), (13, .lload_n 1, 1), (14, .lload 5, 2), (16, .ldiv, 1), (17, .invokevirtual 18, 3), (20, .aload_n 0, 1), (21, .lload_n 3, 1), (22, .lload 5, 2), (24, .ldiv, 1), (25, .invokevirtual 18, 3), (28, .return_, 1)], [])
def M_Mo_init : ev_Me := (yX11_init, cX11_init, 2, none, 11, [(0, .aload_n 0, 1), (1, .invokespecial 22, 3), (4, .aload_n 0, 1), (5, .bipush 24, 2), (7, .newarray .long, 2), (9, .putfield 11, 3), (12, .aload_n 0, 1), (13, .bipush 64, 2), (15, .newarray .int, 2), (17, .putfield 28, 3), (20, .aload_n 0, 1), (21, .bipush 8, 2), (23, .newarray .int, 2), (25, .putfield 32, 3), (28, .aload_n 0, 1), (29, .bipush 27, 2), (31, .newarray .int, 2), (33, .putfield 35, 3), (36, .aload_n 0, 1), (37, .bipush 27, 2), (39, .newarray .int, 2), (41, .putfield 38, 3), (44, .aload_n 0, 1), (45, .bipush 80, 2), (47, .newarray .int, 2), (49, .putfield 41, 3), (52, .aload_n 0, 1), (53, .bipush 64, 2), (55, .newarray .int, 2), (57, .putfield 44, 3), (60, .aload_n 0, 1), (61, .bipush 8, 2), (63, .newarray .int, 2), (65, .putfield 47, 3), (68, .aload_n 0, 1), (69, .bipush 8, 2), (71, .newarray .int, 2), (73, .putfield 50, 3), (76, .aload_n 0, 1), (77, .bipush 80, 2), (79, .newarray .int, 2), (81, .putfield 53, 3), (84, .aload_n 0, 1), (85, .bipush 80, 2), (87, .newarray .int, 2), (89, .putfield 56, 3), (92, .aload_n 0, 1), (93, .bipush 80, 2), (95, .newarray .int, 2), (97, .putfield 59, 3), (100, .aload_n 0, 1), (101, .bipush 7, 2), (103, .newarray .int, 2), (105, .putfield 62, 3), (108, .aload_n 0, 1), (109, .bipush 8, 2), (111, .newarray .int, 2), (113, .putfield 65, 3), (116, .aload_n 0, 1), (117, .bipush 8, 2), (119, .newarray .int, 2), (121, .putfield 68, 3), (124, .aload_n 0, 1), (125, .sipush 432, 3), (128, .newarray .int, 2), (130, .putfield 71, 3), (133, .aload_n 0, 1), (134, .bipush 60, 2), (136, .newarray .int, 2), (138, .putfield 74, 3), (141, .aload_n 0, 1), (142, .bipush 60, 2), (144, .newarray .int, 2), (146, .putfield 77, 3), (149, .aload_n 0, 1), (150, .bipush 60, 2), (152, .newarray .int, 2), (154, .putfield 80, 3), (157, .aload_n 0, 1), (158, .bipush 81, 2), (160, .newarray .int, 2), (162, .putfield 83, 3), (165, .aload_n 0, 1), (166, .bipush 8, 2), (168, .newarray .int, 2), (170, .putfield 86, 3), (173, .aload_n 0, 1), (174, .bipush 8, 2), (176, .newarray .int, 2), (178, .putfield 89, 3), (181, .aload_n 0, 1), (182, .bipush 12, 2), (184, .newarray .int, 2), (186, .putfield 92, 3), (189, .aload_n 0, 1), (190, .bipush 12, 2), (192, .newarray .int, 2), (194, .putfield 95, 3), (197, .aload_n 0, 1), (198, .bipush 12, 2), (200, .newarray .int, 2), (202, .putfield 98, 3), (205, .aload_n 0, 1), (206, .sipush 256, 3), (209, .newarray .boolean, 2), (211, .putfield 101, 3), (214, .aload_n 0, 1), (215, .bipush 8, 2), (217, .newarray .int, 2), (219, .putfield 105, 3), (222, .aload_n 0, 1), (223, .bipush 8, 2), (225, .newarray .int, 2), (227, .putfield 108, 3), (230, .aload_n 0, 1), (231, .bipush 61, 2), (233, .newarray .boolean, 2), (235, .putfield 111, 3), (238, .aload_n 0, 1), (239, .bipush 61, 2), (241, .newarray .boolean, 2), (243, .putfield 114, 3), (246, .aload_n 0, 1), (247, .bipush 80, 2), (249, .newarray .int, 2), (251, .putfield 117, 3), (254, .aload_n 0, 1), (255, .iconst 3, 1), (256, .newarray .boolean, 2), (258, .putfield 120, 3), (261, .aload_n 0, 1), (262, .iconst 3, 1), (263, .newarray .int, 2), (265, .putfield 123, 3), (268, .aload_n 0, 1), (269, .bipush 81, 2), (271, .newarray .int, 2), (273, .putfield 126, 3), (276, .iconst 0, 1), (277, .istore_n 1, 1), (278, .iload_n 1, 1), (279, .bipush 8, 2), (281, .if_icmp .ge 19, 3), (284, .aload_n 0, 1), (285, .getfield 35, 3), (288, .bipush 8, 2), (290, .iload_n 1, 1), (291, .iadd, 1), (292, .iconst 5, 1), (293, .iastore, 1), (294, .iinc 1 1, 3), (297, .goto (-19), 3), (300, .return_, 1)], [(278, [])])
def M_Mo_isWord : ev_Me := (yX11_isWord, cX11_isWord, 2, (some .boolean), 11, [(0, .iload_n 1, 1), (1, .i2l, 1), (2, .lconst 0, 1), (3, .aload_n 0, 1), (4, .getfield 129, 3), (7, .iconst 1, 1), (8, .isub, 1), (9, .i2l, 1), (10, .invokestatic 132, 3), (13, .ireturn, 1)], [])
def M_Mo_arePair : ev_Me := (yX11_arePair, cX11_arePair, 3, (some .boolean), 11, [(0, .aload_n 0, 1), (1, .iload_n 1, 1), (2, .invokevirtual 136, 3), (5, .ifCond .eq 20, 3), (8, .aload_n 0, 1), (9, .iload_n 2, 1), (10, .invokevirtual 136, 3), (13, .ifCond .eq 12, 3), (16, .iload_n 1, 1), (17, .iload_n 2, 1), (18, .if_icmp .eq 7, 3), (21, .iconst 1, 1), (22, .goto 4, 3), (25, .iconst 0, 1), (26, .ireturn, 1)], [])
def M_Mo_isLetter : ev_Me := (yX11_isLetter, cX11_isLetter, 1, (some .boolean), 11, [(0, .iload_n 0, 1), (1, .i2l, 1), (2, .lconst 0, 1), (3, .ldc2_w 140, 3), (6, .invokestatic 132, 3), (9, .ireturn, 1)], [])
def M_Mo_signsOf : ev_Me := (yX11_signsOf, cX11_signsOf, 7, (some .int), 11, [(0, .iconst 0, 1), (1, .istore 4, 2), (3, .iconst 0, 1), (4, .istore 5, 2), (6, .iload 5, 2), (8, .aload_n 0, 1), (9, .getfield 129, 3), (12, .if_icmp .ge 73, 3), (15, .iconst 0, 1), (16, .istore 6, 2), (18, .iload 6, 2), (20, .aload_n 0, 1), (21, .getfield 32, 3), (24, .iload 5, 2), (26, .iaload, 1), (27, .if_icmp .ge 52, 3), (30, .iload 4, 2), (32, .aload_n 0, 1), (33, .getfield 28, 3), (36, .bipush 8, 2), (38, .iload 5, 2), (40, .imul, 1), (41, .iload 6, 2), (43, .iadd, 1), (44, .iaload, 1), (45, .iload_n 2, 1), (46, .if_icmp .ne 20, 3), (49, .aload_n 1, 1), (50, .iload 5, 2), (52, .iaload, 1), (53, .iload 6, 2), (55, .invokestatic 142, 3), (58, .iload_n 3, 1), (59, .if_icmp .ne 7, 3), (62, .iconst 1, 1), (63, .goto 4, 3), (66, .iconst 0, 1), (67, .invokestatic 146, 3), (70, .iadd, 1), (71, .istore 4, 2), (73, .iinc 6 1, 3), (76, .goto (-58), 3), (79, .iinc 5 1, 3), (82, .goto (-76), 3), (85, .iload 4, 2), (87, .ireturn, 1)], [(6, [6]), (18, []), (67, [4])])
def M_Mo_unsaid : ev_Me := (yX11_unsaid, cX11_unsaid, 4, (some .int), 11, [(0, .iconst 0, 1), (1, .istore_n 2, 1), (2, .iconst 0, 1), (3, .istore_n 3, 1), (4, .iload_n 3, 1), (5, .bipush 8, 2), (7, .if_icmp .ge 29, 3), (10, .iload_n 2, 1), (11, .aload_n 0, 1), (12, .aload_n 1, 1), (13, .iload_n 3, 1), (14, .iconst 1, 1), (15, .invokevirtual 150, 3), (18, .ifCond .le 9, 3), (21, .iconst 1, 1), (22, .iload_n 3, 1), (23, .ishl, 1), (24, .goto 4, 3), (27, .iconst 0, 1), (28, .ior, 1), (29, .istore_n 2, 1), (30, .iinc 3 1, 3), (33, .goto (-29), 3), (36, .iload_n 2, 1), (37, .ireturn, 1)], [(4, [])])
def M_Mo_sumOf : ev_Me := (yX11_sumOf, cX11_sumOf, 4, (some .int), 11, [(0, .iconst 0, 1), (1, .istore_n 2, 1), (2, .iconst 0, 1), (3, .istore_n 3, 1), (4, .iload_n 3, 1), (5, .bipush 8, 2), (7, .if_icmp .ge 17, 3), (10, .iload_n 2, 1), (11, .aload_n 0, 1), (12, .iload_n 1, 1), (13, .iload_n 3, 1), (14, .iadd, 1), (15, .iaload, 1), (16, .iadd, 1), (17, .istore_n 2, 1), (18, .iinc 3 1, 3), (21, .goto (-17), 3), (24, .iload_n 2, 1), (25, .ireturn, 1)], [(4, [])])
def M_Mo_sign : ev_Me := (yX11_sign, cX11_sign, 3, (some .int), 11, [(0, .aload_n 0, 1), (1, .iconst 0, 1), (2, .putfield 3, 3), (5, .aload_n 0, 1), (6, .getfield 154, 3), (9, .bipush 76, 2), (11, .if_icmp .le 5, 3), (14, .iconst (-1), 1), (15, .ireturn, 1), (16, .iconst 0, 1), (17, .istore_n 2, 1), (18, .iload_n 2, 1), (19, .iconst 4, 1), (20, .if_icmp .ge 33, 3), (23, .aload_n 0, 1), (24, .getfield 41, 3), (27, .aload_n 0, 1), (28, .getfield 154, 3), (31, .iload_n 2, 1), (32, .iadd, 1), (33, .iload_n 1, 1), (34, .bipush 24, 2), (36, .bipush 8, 2), (38, .iload_n 2, 1), (39, .imul, 1), (40, .isub, 1), (41, .ishr, 1), (42, .sipush 255, 3), (45, .iand, 1), (46, .iastore, 1), (47, .iinc 2 1, 3), (50, .goto (-32), 3), (53, .aload_n 0, 1), (54, .dup, 1), (55, .getfield 154, 3), (58, .iconst 4, 1), (59, .iadd, 1), (60, .putfield 154, 3), (63, .aload_n 0, 1), (64, .getfield 154, 3), (67, .ireturn, 1)], [(18, [])])
def M_Mo_end : ev_Me := (yX11_end, cX11_end, 2, (some .boolean), 11, [(0, .aload_n 0, 1), (1, .iconst 0, 1), (2, .putfield 3, 3), (5, .iload_n 1, 1), (6, .i2l, 1), (7, .lconst 0, 1), (8, .aload_n 0, 1), (9, .getfield 154, 3), (12, .i2l, 1), (13, .invokestatic 132, 3), (16, .ifCond .ne 5, 3), (19, .iconst 0, 1), (20, .ireturn, 1), (21, .aload_n 0, 1), (22, .iload_n 1, 1), (23, .putfield 154, 3), (26, .iconst 1, 1), (27, .ireturn, 1)], [])
def M_Mo_begins : ev_Me := (yX11_begins, cX11_begins, 3, (some .int), 11, [(0, .aload_n 0, 1), (1, .getfield 154, 3), (4, .istore_n 2, 1), (5, .aload_n 0, 1), (6, .iconst 0, 1), (7, .putfield 154, 3), (10, .aload_n 0, 1), (11, .iconst 0, 1), (12, .putfield 157, 3), (15, .aload_n 0, 1), (16, .iconst 0, 1), (17, .putfield 160, 3), (20, .aload_n 0, 1), (21, .iload_n 2, 1), (22, .iload_n 1, 1), (23, .invokestatic 163, 3), (26, .putfield 169, 3), (29, .iload_n 2, 1), (30, .ireturn, 1)], [])
def M_Mo_takes : ev_Me := (yX11_takes, cX11_takes, 3, (some .boolean), 11, [(0, .aload_n 0, 1), (1, .getfield 157, 3), (4, .aload_n 0, 1), (5, .getfield 169, 3), (8, .if_icmp .ge 20, 3), (11, .aload_n 0, 1), (12, .getfield 41, 3), (15, .aload_n 0, 1), (16, .getfield 157, 3), (19, .iaload, 1), (20, .iload_n 1, 1), (21, .if_icmp .ne 7, 3), (24, .iconst 1, 1), (25, .goto 4, 3), (28, .iconst 0, 1), (29, .istore_n 2, 1), (30, .aload_n 0, 1), (31, .dup, 1), (32, .getfield 157, 3), (35, .iload_n 2, 1), (36, .invokestatic 146, 3), (39, .iadd, 1), (40, .putfield 157, 3), (43, .iload_n 2, 1), (44, .ireturn, 1)], [(29, [1, 2])])
def M_Mo_isDigit : ev_Me := (yX11_isDigit, cX11_isDigit, 1, (some .boolean), 11, [(0, .aload_n 0, 1), (1, .getfield 157, 3), (4, .aload_n 0, 1), (5, .getfield 169, 3), (8, .if_icmp .ge 29, 3), (11, .aload_n 0, 1), (12, .getfield 41, 3), (15, .aload_n 0, 1), (16, .getfield 157, 3), (19, .iaload, 1), (20, .i2l, 1), (21, .ldc2_w 172, 3), (24, .ldc2_w 174, 3), (27, .invokestatic 132, 3), (30, .ifCond .eq 7, 3), (33, .iconst 1, 1), (34, .goto 4, 3), (37, .iconst 0, 1), (38, .ireturn, 1)], [])
def M_Mo_takesOf : ev_Me := (yX11_takesOf, cX11_takesOf, 3, (some .int), 11, [(0, .iconst 0, 1), (1, .istore_n 2, 1), (2, .iload_n 2, 1), (3, .aload_n 1, 1), (4, .invokevirtual 176, 3), (7, .if_icmp .ge 49, 3), (10, .aload_n 0, 1), (11, .getfield 157, 3), (14, .aload_n 0, 1), (15, .getfield 169, 3), (18, .if_icmp .ge 38, 3), (21, .aload_n 1, 1), (22, .iload_n 2, 1), (23, .invokevirtual 182, 3), (26, .aload_n 0, 1), (27, .getfield 41, 3), (30, .aload_n 0, 1), (31, .getfield 157, 3), (34, .iaload, 1), (35, .if_icmp .ne 15, 3), (38, .aload_n 0, 1), (39, .dup, 1), (40, .getfield 157, 3), (43, .iconst 1, 1), (44, .iadd, 1), (45, .putfield 157, 3), (48, .iload_n 2, 1), (49, .ireturn, 1), (50, .iinc 2 1, 3), (53, .goto (-51), 3), (56, .iconst (-1), 1), (57, .ireturn, 1)], [(2, [])])
def M_Mo_number : ev_Me := (yX11_number, cX11_number, 4, (some .int), 11, [(0, .aload_n 0, 1), (1, .invokevirtual 186, 3), (4, .ifCond .ne 5, 3), (7, .iconst (-1), 1), (8, .ireturn, 1), (9, .iconst 0, 1), (10, .istore_n 2, 1), (11, .iconst 0, 1), (12, .istore_n 3, 1), (13, .iload_n 3, 1), (14, .iload_n 1, 1), (15, .if_icmp .ge 44, 3), (18, .aload_n 0, 1), (19, .invokevirtual 186, 3), (22, .ifCond .eq 37, 3), (25, .bipush 10, 2), (27, .iload_n 2, 1), (28, .imul, 1), (29, .aload_n 0, 1), (30, .getfield 41, 3), (33, .aload_n 0, 1), (34, .getfield 157, 3), (37, .iaload, 1), (38, .iadd, 1), (39, .bipush 48, 2), (41, .isub, 1), (42, .istore_n 2, 1), (43, .aload_n 0, 1), (44, .dup, 1), (45, .getfield 157, 3), (48, .iconst 1, 1), (49, .iadd, 1), (50, .putfield 157, 3), (53, .iinc 3 1, 3), (56, .goto (-43), 3), (59, .iload_n 2, 1), (60, .ireturn, 1)], [(13, [])])
def M_Mo_digitIn : ev_Me := (yX11_digitIn, cX11_digitIn, 3, (some .int), 11, [(0, .aload_n 0, 1), (1, .getfield 157, 3), (4, .aload_n 0, 1), (5, .getfield 169, 3), (8, .if_icmp .ge 26, 3), (11, .aload_n 0, 1), (12, .getfield 41, 3), (15, .aload_n 0, 1), (16, .getfield 157, 3), (19, .iaload, 1), (20, .bipush 48, 2), (22, .isub, 1), (23, .i2l, 1), (24, .iload_n 1, 1), (25, .i2l, 1), (26, .iload_n 2, 1), (27, .i2l, 1), (28, .invokestatic 132, 3), (31, .ifCond .ne 5, 3), (34, .iconst (-1), 1), (35, .ireturn, 1), (36, .aload_n 0, 1), (37, .dup, 1), (38, .getfield 157, 3), (41, .iconst 1, 1), (42, .iadd, 1), (43, .putfield 157, 3), (46, .aload_n 0, 1), (47, .getfield 41, 3), (50, .aload_n 0, 1), (51, .getfield 157, 3), (54, .iconst 1, 1), (55, .isub, 1), (56, .iaload, 1), (57, .bipush 48, 2), (59, .isub, 1), (60, .ireturn, 1)], [])
def M_Mo_faultOf : ev_Me := (yX11_faultOf, cX11_faultOf, 5, (some .int), 11, [(0, .iload_n 3, 1), (1, .ifCond .eq 18, 3), (4, .aload_n 0, 1), (5, .getfield 157, 3), (8, .aload_n 0, 1), (9, .getfield 169, 3), (12, .if_icmp .ne 7, 3), (15, .iconst 1, 1), (16, .goto 4, 3), (19, .iconst 0, 1), (20, .istore 4, 2), (22, .iload_n 1, 1), (23, .iload_n 2, 1), (24, .if_icmp .le 20, 3), (27, .iload 4, 2), (29, .ifCond .ne 11, 3), (32, .aload_n 0, 1), (33, .getfield 157, 3), (36, .iload_n 2, 1), (37, .if_icmp .lt 7, 3), (40, .iconst (-1), 1), (41, .iload_n 2, 1), (42, .isub, 1), (43, .ireturn, 1), (44, .iload 4, 2), (46, .ifCond .eq 7, 3), (49, .iconst 0, 1), (50, .goto 9, 3), (53, .iconst (-1), 1), (54, .aload_n 0, 1), (55, .getfield 157, 3), (58, .isub, 1), (59, .ireturn, 1)], [(20, [3, 4]), (44, [1, 2, 3])])
def M_Mo_readsWord : ev_Me := (yX11_readsWord, cX11_readsWord, 5, (some .boolean), 11, [(0, .aload_n 0, 1), (1, .getfield 129, 3), (4, .aload_n 0, 1), (5, .getfield 190, 3), (8, .iadd, 1), (9, .bipush 8, 2), (11, .if_icmp .ne 5, 3), (14, .iconst 0, 1), (15, .ireturn, 1), (16, .iconst 0, 1), (17, .istore_n 1, 1), (18, .iconst 0, 1), (19, .istore_n 2, 1), (20, .iconst 1, 1), (21, .istore_n 3, 1), (22, .iload_n 3, 1), (23, .ifCond .eq 78, 3), (26, .iload_n 1, 1), (27, .bipush 8, 2), (29, .if_icmp .ge 12, 3), (32, .aload_n 0, 1), (33, .ldc 193, 2), (35, .invokevirtual 195, 3), (38, .goto 4, 3), (41, .iconst (-1), 1), (42, .istore 4, 2), (44, .iload 4, 2), (46, .ifCond .lt 7, 3), (49, .iconst 1, 1), (50, .goto 4, 3), (53, .iconst 0, 1), (54, .istore_n 3, 1), (55, .iload_n 3, 1), (56, .ifCond .eq 42, 3), (59, .aload_n 0, 1), (60, .getfield 44, 3), (63, .bipush 8, 2), (65, .aload_n 0, 1), (66, .getfield 190, 3), (69, .imul, 1), (70, .iload_n 1, 1), (71, .iadd, 1), (72, .iload 4, 2), (74, .bipush 8, 2), (76, .irem, 1), (77, .iastore, 1), (78, .iload_n 2, 1), (79, .iload 4, 2), (81, .bipush 8, 2), (83, .if_icmp .lt 9, 3), (86, .iconst 1, 1), (87, .iload_n 1, 1), (88, .ishl, 1), (89, .goto 4, 3), (92, .iconst 0, 1), (93, .ior, 1), (94, .istore_n 2, 1), (95, .iinc 1 1, 3), (98, .goto (-76), 3), (101, .aload_n 0, 1), (102, .getfield 47, 3), (105, .aload_n 0, 1), (106, .getfield 190, 3), (109, .iload_n 1, 1), (110, .iastore, 1), (111, .aload_n 0, 1), (112, .getfield 50, 3), (115, .aload_n 0, 1), (116, .getfield 190, 3), (119, .iload_n 2, 1), (120, .iastore, 1), (121, .aload_n 0, 1), (122, .dup, 1), (123, .getfield 190, 3), (126, .iconst 1, 1), (127, .iadd, 1), (128, .putfield 190, 3), (131, .iload_n 2, 1), (132, .invokestatic 199, 3), (135, .iload_n 1, 1), (136, .if_icmp .ge 7, 3), (139, .iconst 1, 1), (140, .goto 4, 3), (143, .iconst 0, 1), (144, .ireturn, 1)], [(22, [4]), (42, [3, 4]), (54, [3])])
def M_Mo_words : ev_Me := (yX11_words, cX11_words, 7, (some .int), 11, [(0, .aload_n 0, 1), (1, .iconst 0, 1), (2, .putfield 3, 3), (5, .aload_n 0, 1), (6, .bipush 79, 2), (8, .invokevirtual 205, 3), (11, .istore_n 1, 1), (12, .aload_n 0, 1), (13, .iconst 0, 1), (14, .putfield 190, 3), (17, .iconst 1, 1), (18, .istore_n 2, 1), (19, .iload_n 1, 1), (20, .ifCond .le 7, 3), (23, .iconst 1, 1), (24, .goto 4, 3), (27, .iconst 0, 1), (28, .istore_n 3, 1), (29, .iload_n 3, 1), (30, .ifCond .eq 30, 3), (33, .aload_n 0, 1), (34, .invokevirtual 208, 3), (37, .istore_n 2, 1), (38, .iload_n 2, 1), (39, .ifCond .eq 16, 3), (42, .aload_n 0, 1), (43, .bipush 59, 2), (45, .invokevirtual 211, 3), (48, .ifCond .eq 7, 3), (51, .iconst 1, 1), (52, .goto 4, 3), (55, .iconst 0, 1), (56, .istore_n 3, 1), (57, .goto (-28), 3), (60, .aload_n 0, 1), (61, .iload_n 1, 1), (62, .bipush 79, 2), (64, .iload_n 2, 1), (65, .invokevirtual 214, 3), (68, .istore 4, 2), (70, .iload 4, 2), (72, .ifCond .ge 6, 3), (75, .iload 4, 2), (77, .ireturn, 1), (78, .iconst 0, 1), (79, .istore 5, 2), (81, .iload 5, 2), (83, .aload_n 0, 1), (84, .getfield 190, 3), (87, .if_icmp .ge 100, 3), (90, .iconst 0, 1), (91, .istore 6, 2), (93, .iload 6, 2), (95, .aload_n 0, 1), (96, .getfield 47, 3), (99, .iload 5, 2), (101, .iaload, 1), (102, .if_icmp .ge 37, 3), (105, .aload_n 0, 1), (106, .getfield 28, 3), (109, .bipush 8, 2), (111, .aload_n 0, 1), (112, .getfield 129, 3), (115, .imul, 1), (116, .iload 6, 2), (118, .iadd, 1), (119, .aload_n 0, 1), (120, .getfield 44, 3), (123, .bipush 8, 2), (125, .iload 5, 2), (127, .imul, 1), (128, .iload 6, 2), (130, .iadd, 1), (131, .iaload, 1), (132, .iastore, 1), (133, .iinc 6 1, 3), (136, .goto (-43), 3), (139, .aload_n 0, 1), (140, .getfield 32, 3), (143, .aload_n 0, 1), (144, .getfield 129, 3), (147, .aload_n 0, 1), (148, .getfield 47, 3), (151, .iload 5, 2), (153, .iaload, 1), (154, .iastore, 1), (155, .aload_n 0, 1), (156, .getfield 35, 3), (159, .aload_n 0, 1), (160, .getfield 129, 3), (163, .aload_n 0, 1), (164, .getfield 50, 3), (167, .iload 5, 2), (169, .iaload, 1), (170, .iastore, 1), (171, .aload_n 0, 1), (172, .dup, 1), (173, .getfield 129, 3), (176, .iconst 1, 1), (177, .iadd, 1), (178, .putfield 129, 3), (181, .iinc 5 1, 3), (184, .goto (-103), 3), (187, .aload_n 0, 1), (188, .getfield 190, 3), (191, .ifCond .le 18, 3), (194, .aload_n 0, 1), (195, .iconst 0, 1), (196, .putfield 218, 3), (199, .aload_n 0, 1), (200, .dup, 1), (201, .getfield 221, 3), (204, .iconst 1, 1), (205, .iadd, 1), (206, .putfield 221, 3), (209, .aload_n 0, 1), (210, .getfield 190, 3), (213, .ireturn, 1)], [(29, [4, 5, 6]), (81, [1, 2, 3, 4, 6]), (93, [1, 2, 3, 4])])
def M_Mo_codes : ev_Me := (yX11_codes, cX11_codes, 2, none, 11, [(0, .aload_n 0, 1), (1, .getfield 56, 3), (4, .aload_n 0, 1), (5, .getfield 224, 3), (8, .iload_n 1, 1), (9, .iastore, 1), (10, .aload_n 0, 1), (11, .dup, 1), (12, .getfield 224, 3), (15, .iconst 1, 1), (16, .iadd, 1), (17, .putfield 224, 3), (20, .return_, 1)], [])
def M_Mo_readsThing : ev_Me := (yX11_readsThing, cX11_readsThing, 2, (some .boolean), 11, [(0, .aload_n 0, 1), (1, .bipush 45, 2), (3, .invokevirtual 211, 3), (6, .ifCond .eq 17, 3), (9, .aload_n 0, 1), (10, .invokevirtual 227, 3), (13, .istore_n 1, 1), (14, .aload_n 0, 1), (15, .sipush 3000, 3), (18, .invokevirtual 230, 3), (21, .iload_n 1, 1), (22, .ireturn, 1), (23, .aload_n 0, 1), (24, .invokevirtual 186, 3), (27, .ifCond .eq 14, 3), (30, .aload_n 0, 1), (31, .aload_n 0, 1), (32, .iconst 3, 1), (33, .invokevirtual 234, 3), (36, .invokevirtual 230, 3), (39, .iconst 1, 1), (40, .ireturn, 1), (41, .aload_n 0, 1), (42, .ldc 237, 2), (44, .invokevirtual 195, 3), (47, .istore_n 1, 1), (48, .iload_n 1, 1), (49, .ifCond .lt 14, 3), (52, .aload_n 0, 1), (53, .sipush 1000, 3), (56, .iload_n 1, 1), (57, .iadd, 1), (58, .invokevirtual 230, 3), (61, .iconst 1, 1), (62, .ireturn, 1), (63, .aload_n 0, 1), (64, .getfield 160, 3), (67, .iconst 4, 1), (68, .if_icmp .eq 12, 3), (71, .aload_n 0, 1), (72, .bipush 40, 2), (74, .invokevirtual 211, 3), (77, .ifCond .ne 5, 3), (80, .iconst 0, 1), (81, .ireturn, 1), (82, .aload_n 0, 1), (83, .dup, 1), (84, .getfield 160, 3), (87, .iconst 1, 1), (88, .iadd, 1), (89, .putfield 160, 3), (92, .aload_n 0, 1), (93, .iconst 0, 1), (94, .invokevirtual 239, 3), (97, .ifCond .eq 12, 3), (100, .aload_n 0, 1), (101, .bipush 41, 2), (103, .invokevirtual 211, 3), (106, .ifCond .ne 5, 3), (109, .iconst 0, 1), (110, .ireturn, 1), (111, .aload_n 0, 1), (112, .dup, 1), (113, .getfield 160, 3), (116, .iconst 1, 1), (117, .isub, 1), (118, .putfield 160, 3), (121, .iconst 1, 1), (122, .ireturn, 1)], [])
def M_Mo_readsRank : ev_Me := (yX11_readsRank, cX11_readsRank, 4, (some .boolean), 11, [(0, .iload_n 1, 1), (1, .iconst 3, 1), (2, .if_icmp .ne 8, 3), (5, .aload_n 0, 1), (6, .invokevirtual 227, 3), (9, .ireturn, 1), (10, .aload_n 0, 1), (11, .iload_n 1, 1), (12, .iconst 1, 1), (13, .iadd, 1), (14, .invokevirtual 239, 3), (17, .ifCond .ne 5, 3), (20, .iconst 0, 1), (21, .ireturn, 1), (22, .iconst 1, 1), (23, .istore_n 2, 1), (24, .iload_n 2, 1), (25, .ifCond .eq 88, 3), (28, .aload_n 0, 1), (29, .iload_n 1, 1), (30, .ifCond .ne 8, 3), (33, .ldc 242, 2), (35, .goto 15, 3), (38, .iload_n 1, 1), (39, .iconst 1, 1), (40, .if_icmp .ne 8, 3), (43, .ldc 244, 2), (45, .goto 5, 3), (48, .ldc 246, 2), (50, .invokevirtual 195, 3), (53, .istore_n 3, 1), (54, .iload_n 3, 1), (55, .ifCond .ge 5, 3), (58, .iconst 1, 1), (59, .ireturn, 1), (60, .aload_n 0, 1), (61, .iload_n 1, 1), (62, .iconst 1, 1), (63, .iadd, 1), (64, .invokevirtual 239, 3), (67, .ifCond .ne 5, 3), (70, .iconst 0, 1), (71, .ireturn, 1), (72, .aload_n 0, 1), (73, .sipush 2000, 3), (76, .iload_n 3, 1), (77, .iadd, 1), (78, .iload_n 1, 1), (79, .ifCond .ne 7, 3), (82, .iconst 0, 1), (83, .goto 13, 3), (86, .iload_n 1, 1), (87, .iconst 1, 1), (88, .if_icmp .ne 7, 3), (91, .iconst 3, 1), (92, .goto 4, 3), (95, .iconst 5, 1), (96, .iadd, 1), (97, .invokevirtual 230, 3), (100, .iload_n 1, 1), (101, .ifCond .le 7, 3), (104, .iconst 1, 1), (105, .goto 4, 3), (108, .iconst 0, 1), (109, .istore_n 2, 1), (110, .goto (-86), 3), (113, .iconst 1, 1), (114, .ireturn, 1)], [(24, [3]), (50, [2, 3]), (96, [2, 3])])
def M_Mo_readsRule : ev_Me := (yX11_readsRule, cX11_readsRule, 3, (some .int), 11, [(0, .aload_n 0, 1), (1, .bipush 40, 2), (3, .invokevirtual 205, 3), (6, .istore_n 1, 1), (7, .aload_n 0, 1), (8, .iconst 0, 1), (9, .putfield 224, 3), (12, .iload_n 1, 1), (13, .ifCond .eq 11, 3), (16, .aload_n 0, 1), (17, .iconst 0, 1), (18, .invokevirtual 239, 3), (21, .ifCond .eq 7, 3), (24, .iconst 1, 1), (25, .goto 4, 3), (28, .iconst 0, 1), (29, .istore_n 2, 1), (30, .aload_n 0, 1), (31, .iload_n 1, 1), (32, .bipush 40, 2), (34, .iload_n 2, 1), (35, .invokevirtual 214, 3), (38, .ireturn, 1)], [(29, [2])])
def M_Mo_laysCode : ev_Me := (yX11_laysCode, cX11_laysCode, 4, none, 11, [(0, .aload_n 0, 1), (1, .iload_n 2, 1), (2, .putfield 248, 3), (5, .iconst 0, 1), (6, .istore_n 3, 1), (7, .iload_n 3, 1), (8, .iload_n 2, 1), (9, .if_icmp .ge 18, 3), (12, .aload_n 0, 1), (13, .getfield 53, 3), (16, .iload_n 3, 1), (17, .aload_n 1, 1), (18, .iload_n 3, 1), (19, .iaload, 1), (20, .iastore, 1), (21, .iinc 3 1, 3), (24, .goto (-17), 3), (27, .return_, 1)], [(7, [])])
def M_Mo_rule : ev_Me := (yX11_rule, cX11_rule, 2, (some .int), 11, [(0, .aload_n 0, 1), (1, .iconst 0, 1), (2, .putfield 3, 3), (5, .aload_n 0, 1), (6, .invokevirtual 251, 3), (9, .istore_n 1, 1), (10, .iload_n 1, 1), (11, .ifCond .ne 15, 3), (14, .aload_n 0, 1), (15, .aload_n 0, 1), (16, .getfield 56, 3), (19, .aload_n 0, 1), (20, .getfield 224, 3), (23, .invokevirtual 254, 3), (26, .iload_n 1, 1), (27, .ireturn, 1)], [])
def M_Mo_worked : ev_Me := (yX11_worked, cX11_worked, 3, (some .int), 11, [(0, .iload_n 0, 1), (1, .tableswitch 93 0 5 #[39, 53, 67, 81, 85, 89], 39), (40, .iload_n 1, 1), (41, .iload_n 2, 1), (42, .if_icmp .ge 7, 3), (45, .iconst 1, 1), (46, .goto 4, 3), (49, .iconst 0, 1), (50, .invokestatic 146, 3), (53, .ireturn, 1), (54, .iload_n 1, 1), (55, .iload_n 2, 1), (56, .if_icmp .le 7, 3), (59, .iconst 1, 1), (60, .goto 4, 3), (63, .iconst 0, 1), (64, .invokestatic 146, 3), (67, .ireturn, 1), (68, .iload_n 1, 1), (69, .iload_n 2, 1), (70, .if_icmp .ne 7, 3), (73, .iconst 1, 1), (74, .goto 4, 3), (77, .iconst 0, 1), (78, .invokestatic 146, 3), (81, .ireturn, 1), (82, .iload_n 1, 1), (83, .iload_n 2, 1), (84, .iadd, 1), (85, .ireturn, 1), (86, .iload_n 1, 1), (87, .iload_n 2, 1), (88, .isub, 1), (89, .ireturn, 1), (90, .iload_n 1, 1), (91, .iload_n 2, 1), (92, .imul, 1), (93, .ireturn, 1), (94, .iload_n 2, 1), (95, .ifCond .ne 7, 3), (98, .iconst 0, 1), (99, .goto 6, 3), (102, .iload_n 1, 1), (103, .iload_n 2, 1), (104, .idiv, 1), (105, .ireturn, 1)], [])
def M_Mo_ruled : ev_Me := (yX11_ruled, cX11_ruled, 4, (some .int), 11, [(0, .iconst 0, 1), (1, .istore_n 1, 1), (2, .iconst 0, 1), (3, .istore_n 2, 1), (4, .iload_n 2, 1), (5, .aload_n 0, 1), (6, .getfield 248, 3), (9, .if_icmp .ge 116, 3), (12, .aload_n 0, 1), (13, .getfield 53, 3), (16, .iload_n 2, 1), (17, .iaload, 1), (18, .istore_n 3, 1), (19, .iload_n 3, 1), (20, .sipush 3000, 3), (23, .if_icmp .ne 23, 3), (26, .aload_n 0, 1), (27, .getfield 59, 3), (30, .iload_n 1, 1), (31, .iconst 1, 1), (32, .isub, 1), (33, .aload_n 0, 1), (34, .getfield 59, 3), (37, .iload_n 1, 1), (38, .iconst 1, 1), (39, .isub, 1), (40, .iaload, 1), (41, .ineg, 1), (42, .iastore, 1), (43, .goto 76, 3), (46, .iload_n 3, 1), (47, .sipush 2000, 3), (50, .if_icmp .lt 39, 3), (53, .iinc 1 (-1), 3), (56, .aload_n 0, 1), (57, .getfield 59, 3), (60, .iload_n 1, 1), (61, .iconst 1, 1), (62, .isub, 1), (63, .iload_n 3, 1), (64, .sipush 2000, 3), (67, .isub, 1), (68, .aload_n 0, 1), (69, .getfield 59, 3), (72, .iload_n 1, 1), (73, .iconst 1, 1), (74, .isub, 1), (75, .iaload, 1), (76, .aload_n 0, 1), (77, .getfield 59, 3), (80, .iload_n 1, 1), (81, .iaload, 1), (82, .invokestatic 258, 3), (85, .iastore, 1), (86, .goto 33, 3), (89, .aload_n 0, 1), (90, .getfield 59, 3), (93, .iload_n 1, 1), (94, .iload_n 3, 1), (95, .sipush 1000, 3), (98, .if_icmp .lt 16, 3), (101, .aload_n 0, 1), (102, .getfield 62, 3), (105, .iload_n 3, 1), (106, .sipush 1000, 3), (109, .isub, 1), (110, .iaload, 1), (111, .goto 4, 3), (114, .iload_n 3, 1), (115, .iastore, 1), (116, .iinc 1 1, 3), (119, .iinc 2 1, 3), (122, .goto (-118), 3), (125, .aload_n 0, 1), (126, .getfield 248, 3), (129, .ifCond .ne 23, 3), (132, .aload_n 0, 1), (133, .getfield 62, 3), (136, .iconst 0, 1), (137, .iaload, 1), (138, .iconst 2, 1), (139, .aload_n 0, 1), (140, .getfield 62, 3), (143, .iconst 1, 1), (144, .iaload, 1), (145, .imul, 1), (146, .isub, 1), (147, .iconst 3, 1), (148, .isub, 1), (149, .goto 9, 3), (152, .aload_n 0, 1), (153, .getfield 59, 3), (156, .iconst 0, 1), (157, .iaload, 1), (158, .ireturn, 1)], [(4, [3]), (56, [])])
def M_Mo_grudgeAt : ev_Me := (yX11_grudgeAt, cX11_grudgeAt, 4, (some .int), 11, [(0, .aload_n 0, 1), (1, .getfield 62, 3), (4, .iconst 0, 1), (5, .aload_n 1, 1), (6, .bipush 8, 2), (8, .iload_n 2, 1), (9, .iadd, 1), (10, .iaload, 1), (11, .iastore, 1), (12, .aload_n 0, 1), (13, .getfield 62, 3), (16, .iconst 1, 1), (17, .iload_n 3, 1), (18, .iastore, 1), (19, .aload_n 0, 1), (20, .getfield 62, 3), (23, .iconst 2, 1), (24, .aload_n 0, 1), (25, .aload_n 1, 1), (26, .iload_n 2, 1), (27, .iconst 1, 1), (28, .invokevirtual 150, 3), (31, .iastore, 1), (32, .aload_n 0, 1), (33, .getfield 62, 3), (36, .iconst 3, 1), (37, .aload_n 0, 1), (38, .aload_n 1, 1), (39, .iload_n 2, 1), (40, .iconst 0, 1), (41, .invokevirtual 150, 3), (44, .iastore, 1), (45, .aload_n 0, 1), (46, .getfield 62, 3), (49, .iconst 4, 1), (50, .aload_n 1, 1), (51, .bipush 24, 2), (53, .iaload, 1), (54, .invokestatic 199, 3), (57, .iastore, 1), (58, .aload_n 0, 1), (59, .getfield 62, 3), (62, .iconst 5, 1), (63, .aload_n 1, 1), (64, .bipush 25, 2), (66, .iaload, 1), (67, .bipush 7, 2), (69, .irem, 1), (70, .iastore, 1), (71, .aload_n 0, 1), (72, .getfield 62, 3), (75, .bipush 6, 2), (77, .iload_n 2, 1), (78, .iastore, 1), (79, .aload_n 0, 1), (80, .invokevirtual 262, 3), (83, .ireturn, 1)], [])
def M_Mo_grudge : ev_Me := (yX11_grudge, cX11_grudge, 3, (some .int), 11, [(0, .aload_n 0, 1), (1, .aload_n 1, 1), (2, .iload_n 2, 1), (3, .aload_n 1, 1), (4, .bipush 16, 2), (6, .iload_n 2, 1), (7, .iadd, 1), (8, .iaload, 1), (9, .invokevirtual 265, 3), (12, .ireturn, 1)], [])
def M_Mo_lays : ev_Me := (yX11_lays, cX11_lays, 8, (some .int), 11, [(0, .iconst 0, 1), (1, .istore 5, 2), (3, .iconst 0, 1), (4, .istore 6, 2), (6, .iload 6, 2), (8, .aload_n 0, 1), (9, .getfield 32, 3), (12, .iload_n 2, 1), (13, .iaload, 1), (14, .if_icmp .ge 51, 3), (17, .aload_n 0, 1), (18, .getfield 28, 3), (21, .bipush 8, 2), (23, .iload_n 2, 1), (24, .imul, 1), (25, .iload 6, 2), (27, .iadd, 1), (28, .iaload, 1), (29, .istore 7, 2), (31, .iload_n 3, 1), (32, .iload 6, 2), (34, .invokestatic 142, 3), (37, .ifCond .eq 13, 3), (40, .iload 4, 2), (42, .iload 7, 2), (44, .invokestatic 142, 3), (47, .ifCond .ne 12, 3), (50, .aload_n 1, 1), (51, .iload 5, 2), (53, .iload 7, 2), (55, .iastore, 1), (56, .iinc 5 1, 3), (59, .iinc 6 1, 3), (62, .goto (-56), 3), (65, .iload 5, 2), (67, .ireturn, 1)], [(6, [7]), (50, [])])
def M_Mo_isOneBy : ev_Me := (yX11_isOneBy, cX11_isOneBy, 8, (some .boolean), 11, [(0, .aload_n 0, 1), (1, .aload_n 0, 1), (2, .getfield 65, 3), (5, .iload_n 2, 1), (6, .aload_n 1, 1), (7, .iload_n 2, 1), (8, .iaload, 1), (9, .iload 4, 2), (11, .invokevirtual 269, 3), (14, .istore 5, 2), (16, .iload 5, 2), (18, .aload_n 0, 1), (19, .aload_n 0, 1), (20, .getfield 68, 3), (23, .iload_n 3, 1), (24, .aload_n 1, 1), (25, .iload_n 3, 1), (26, .iaload, 1), (27, .iload 4, 2), (29, .invokevirtual 269, 3), (32, .if_icmp .ne 7, 3), (35, .iconst 1, 1), (36, .goto 4, 3), (39, .iconst 0, 1), (40, .istore 6, 2), (42, .iconst 0, 1), (43, .istore 7, 2), (45, .iload 7, 2), (47, .iload 5, 2), (49, .if_icmp .ge 38, 3), (52, .iload 6, 2), (54, .ifCond .eq 33, 3), (57, .aload_n 0, 1), (58, .getfield 65, 3), (61, .iload 7, 2), (63, .iaload, 1), (64, .aload_n 0, 1), (65, .getfield 68, 3), (68, .iload 7, 2), (70, .iaload, 1), (71, .if_icmp .ne 7, 3), (74, .iconst 1, 1), (75, .goto 4, 3), (78, .iconst 0, 1), (79, .istore 6, 2), (81, .iinc 7 1, 3), (84, .goto (-39), 3), (87, .iload 6, 2), (89, .ireturn, 1)], [(45, [1, 2, 3, 4])])
def M_Mo_fallen : ev_Me := (yX11_fallen, cX11_fallen, 6, (some .int), 11, [(0, .iconst 0, 1), (1, .istore_n 3, 1), (2, .iconst 0, 1), (3, .istore 4, 2), (5, .iload 4, 2), (7, .aload_n 0, 1), (8, .getfield 129, 3), (11, .if_icmp .ge 67, 3), (14, .iload 4, 2), (16, .iconst 1, 1), (17, .iadd, 1), (18, .istore 5, 2), (20, .iload 5, 2), (22, .aload_n 0, 1), (23, .getfield 129, 3), (26, .if_icmp .ge 46, 3), (29, .iload_n 3, 1), (30, .aload_n 0, 1), (31, .aload_n 1, 1), (32, .iload 4, 2), (34, .iload 5, 2), (36, .iload_n 2, 1), (37, .invokevirtual 273, 3), (40, .ifCond .eq 20, 3), (43, .aload_n 0, 1), (44, .aload_n 1, 1), (45, .iload 4, 2), (47, .iload 5, 2), (49, .iconst 0, 1), (50, .invokevirtual 273, 3), (53, .ifCond .ne 7, 3), (56, .iconst 1, 1), (57, .goto 4, 3), (60, .iconst 0, 1), (61, .invokestatic 146, 3), (64, .iadd, 1), (65, .istore_n 3, 1), (66, .iinc 5 1, 3), (69, .goto (-49), 3), (72, .iinc 4 1, 3), (75, .goto (-70), 3), (78, .iload_n 3, 1), (79, .ireturn, 1)], [(5, [5]), (20, []), (61, [3])])
def M_Mo_word : ev_Me := (yX11_word, cX11_word, 8, (some .int), 11, [(0, .aload_n 0, 1), (1, .iconst 0, 1), (2, .putfield 3, 3), (5, .aload_n 0, 1), (6, .iload_n 1, 1), (7, .invokevirtual 136, 3), (10, .ifCond .eq 15, 3), (13, .iload_n 2, 1), (14, .i2l, 1), (15, .lconst 0, 1), (16, .ldc2_w 277, 3), (19, .invokestatic 132, 3), (22, .ifCond .ne 8, 3), (25, .aload_n 0, 1), (26, .invokevirtual 279, 3), (29, .ireturn, 1), (30, .iconst 0, 1), (31, .istore_n 3, 1), (32, .iconst 0, 1), (33, .istore 4, 2), (35, .iconst 0, 1), (36, .istore 5, 2), (38, .iconst 0, 1), (39, .istore 6, 2), (41, .iload 6, 2), (43, .aload_n 0, 1), (44, .getfield 32, 3), (47, .iload_n 1, 1), (48, .iaload, 1), (49, .if_icmp .ge 57, 3), (52, .aload_n 0, 1), (53, .getfield 28, 3), (56, .bipush 8, 2), (58, .iload_n 1, 1), (59, .imul, 1), (60, .iload 6, 2), (62, .iadd, 1), (63, .iaload, 1), (64, .istore 7, 2), (66, .iload_n 3, 1), (67, .iconst 1, 1), (68, .iload 7, 2), (70, .ishl, 1), (71, .ior, 1), (72, .istore_n 3, 1), (73, .iload 4, 2), (75, .aload_n 0, 1), (76, .getfield 35, 3), (79, .iload_n 1, 1), (80, .iaload, 1), (81, .iload 6, 2), (83, .invokestatic 142, 3), (86, .ifCond .eq 10, 3), (89, .iconst 1, 1), (90, .iload 7, 2), (92, .ishl, 1), (93, .goto 4, 3), (96, .iconst 0, 1), (97, .ior, 1), (98, .istore 4, 2), (100, .iinc 6 1, 3), (103, .goto (-62), 3), (106, .iconst 0, 1), (107, .istore 6, 2), (109, .iload 6, 2), (111, .aload_n 0, 1), (112, .getfield 129, 3), (115, .if_icmp .ge 49, 3), (118, .iload 5, 2), (120, .iload 6, 2), (122, .iload_n 1, 1), (123, .if_icmp .eq 31, 3), (126, .aload_n 0, 1), (127, .aload_n 0, 1), (128, .getfield 35, 3), (131, .iload_n 1, 1), (132, .iload 6, 2), (134, .aload_n 0, 1), (135, .getfield 35, 3), (138, .bipush 24, 2), (140, .iaload, 1), (141, .invokevirtual 273, 3), (144, .ifCond .eq 10, 3), (147, .iconst 1, 1), (148, .iload 6, 2), (150, .ishl, 1), (151, .goto 4, 3), (154, .iconst 0, 1), (155, .ior, 1), (156, .istore 5, 2), (158, .iinc 6 1, 3), (161, .goto (-52), 3), (164, .iload_n 2, 1), (165, .tableswitch 66 0 3 #[31, 38, 61, 63], 31), (196, .aload_n 0, 1), (197, .getfield 32, 3), (200, .iload_n 1, 1), (201, .iaload, 1), (202, .ireturn, 1), (203, .aload_n 0, 1), (204, .aload_n 0, 1), (205, .getfield 65, 3), (208, .iload_n 1, 1), (209, .aload_n 0, 1), (210, .getfield 35, 3), (213, .iload_n 1, 1), (214, .iaload, 1), (215, .aload_n 0, 1), (216, .getfield 35, 3), (219, .bipush 24, 2), (221, .iaload, 1), (222, .invokevirtual 269, 3), (225, .ireturn, 1), (226, .iload_n 3, 1), (227, .ireturn, 1), (228, .iload 4, 2), (230, .ireturn, 1), (231, .iload 5, 2), (233, .ireturn, 1)], [(41, [7]), (109, [7])])
def M_Mo_at : ev_Me := (yX11_at, cX11_at, 3, (some .int), 11, [(0, .aload_n 0, 1), (1, .iconst 0, 1), (2, .putfield 3, 3), (5, .aload_n 0, 1), (6, .iload_n 1, 1), (7, .invokevirtual 136, 3), (10, .ifCond .eq 21, 3), (13, .iload_n 2, 1), (14, .i2l, 1), (15, .lconst 0, 1), (16, .aload_n 0, 1), (17, .getfield 32, 3), (20, .iload_n 1, 1), (21, .iaload, 1), (22, .iconst 1, 1), (23, .isub, 1), (24, .i2l, 1), (25, .invokestatic 132, 3), (28, .ifCond .ne 8, 3), (31, .aload_n 0, 1), (32, .invokevirtual 279, 3), (35, .ireturn, 1), (36, .aload_n 0, 1), (37, .getfield 28, 3), (40, .bipush 8, 2), (42, .iload_n 1, 1), (43, .imul, 1), (44, .iload_n 2, 1), (45, .iadd, 1), (46, .iaload, 1), (47, .bipush 8, 2), (49, .aload_n 0, 1), (50, .getfield 35, 3), (53, .iload_n 1, 1), (54, .iaload, 1), (55, .iload_n 2, 1), (56, .invokestatic 142, 3), (59, .invokestatic 146, 3), (62, .imul, 1), (63, .iadd, 1), (64, .ireturn, 1)], [])
def M_Mo_letter : ev_Me := (yX11_letter, cX11_letter, 3, (some .int), 11, [(0, .aload_n 0, 1), (1, .iconst 0, 1), (2, .putfield 3, 3), (5, .iload_n 1, 1), (6, .invokestatic 282, 3), (9, .ifCond .eq 15, 3), (12, .iload_n 2, 1), (13, .i2l, 1), (14, .lconst 0, 1), (15, .ldc2_w 285, 3), (18, .invokestatic 132, 3), (21, .ifCond .ne 8, 3), (24, .aload_n 0, 1), (25, .invokevirtual 279, 3), (28, .ireturn, 1), (29, .iload_n 2, 1), (30, .tableswitch 91 0 4 #[34, 44, 54, 65, 76], 34), (64, .aload_n 0, 1), (65, .getfield 35, 3), (68, .bipush 8, 2), (70, .iload_n 1, 1), (71, .iadd, 1), (72, .iaload, 1), (73, .ireturn, 1), (74, .aload_n 0, 1), (75, .getfield 35, 3), (78, .bipush 16, 2), (80, .iload_n 1, 1), (81, .iadd, 1), (82, .iaload, 1), (83, .ireturn, 1), (84, .aload_n 0, 1), (85, .aload_n 0, 1), (86, .getfield 35, 3), (89, .iload_n 1, 1), (90, .iconst 1, 1), (91, .invokevirtual 150, 3), (94, .ireturn, 1), (95, .aload_n 0, 1), (96, .aload_n 0, 1), (97, .getfield 35, 3), (100, .iload_n 1, 1), (101, .iconst 0, 1), (102, .invokevirtual 150, 3), (105, .ireturn, 1), (106, .aload_n 0, 1), (107, .getfield 35, 3), (110, .bipush 24, 2), (112, .iaload, 1), (113, .iload_n 1, 1), (114, .invokestatic 142, 3), (117, .invokestatic 146, 3), (120, .ireturn, 1), (121, .aload_n 0, 1), (122, .aload_n 0, 1), (123, .getfield 35, 3), (126, .iload_n 1, 1), (127, .invokevirtual 287, 3), (130, .ireturn, 1)], [])
def M_Mo_sheet : ev_Me := (yX11_sheet, cX11_sheet, 8, (some .int), 11, [(0, .aload_n 0, 1), (1, .iconst 0, 1), (2, .putfield 3, 3), (5, .iload_n 1, 1), (6, .i2l, 1), (7, .lconst 0, 1), (8, .ldc2_w 291, 3), (11, .invokestatic 132, 3), (14, .ifCond .eq 9, 3), (17, .iload_n 2, 1), (18, .bipush 8, 2), (20, .if_icmp .le 5, 3), (23, .iconst (-1), 1), (24, .ireturn, 1), (25, .iload_n 1, 1), (26, .iconst 3, 1), (27, .if_icmp .eq 10, 3), (30, .iload_n 2, 1), (31, .ifCond .ge 6, 3), (34, .bipush (-2), 2), (36, .ireturn, 1), (37, .iload_n 3, 1), (38, .istore 5, 2), (40, .iconst 0, 1), (41, .istore 6, 2), (43, .iload 6, 2), (45, .bipush 8, 2), (47, .if_icmp .ge 77, 3), (50, .iload_n 1, 1), (51, .ifCond .ne 9, 3), (54, .iload 5, 2), (56, .i2b, 1), (57, .goto 16, 3), (60, .iload_n 1, 1), (61, .iconst 1, 1), (62, .if_icmp .ne 9, 3), (65, .iload 5, 2), (67, .i2s, 1), (68, .goto 5, 3), (71, .iload 5, 2), (73, .istore 7, 2), (75, .aload_n 0, 1), (76, .getfield 35, 3), (79, .bipush 8, 2), (81, .iload 6, 2), (83, .iadd, 1), (84, .iload_n 1, 1), (85, .iconst 3, 1), (86, .if_icmp .eq 9, 3), (89, .iload 6, 2), (91, .iload_n 2, 1), (92, .if_icmp .lt 7, 3), (95, .iconst 0, 1), (96, .goto 14, 3), (99, .iconst 0, 1), (100, .bipush 9, 2), (102, .iload 7, 2), (104, .invokestatic 163, 3), (107, .invokestatic 293, 3), (110, .iastore, 1), (111, .iload 5, 2), (113, .iload 4, 2), (115, .iadd, 1), (116, .istore 5, 2), (118, .iinc 6 1, 3), (121, .goto (-78), 3), (124, .iload_n 1, 1), (125, .iconst 3, 1), (126, .if_icmp .ne 8, 3), (129, .bipush (-3), 2), (131, .goto 12, 3), (134, .aload_n 0, 1), (135, .getfield 35, 3), (138, .bipush 8, 2), (140, .invokestatic 296, 3), (143, .ireturn, 1)], [(43, [3, 7]), (73, [3, 7]), (110, [3, 7])])
def M_Mo_putsBy : ev_Me := (yX11_putsBy, cX11_putsBy, 2, none, 11, [(0, .iconst 0, 1), (1, .istore_n 1, 1), (2, .iload_n 1, 1), (3, .bipush 27, 2), (5, .if_icmp .ge 29, 3), (8, .aload_n 0, 1), (9, .getfield 71, 3), (12, .bipush 27, 2), (14, .aload_n 0, 1), (15, .getfield 218, 3), (18, .imul, 1), (19, .iload_n 1, 1), (20, .iadd, 1), (21, .aload_n 0, 1), (22, .getfield 35, 3), (25, .iload_n 1, 1), (26, .iaload, 1), (27, .iastore, 1), (28, .iinc 1 1, 3), (31, .goto (-29), 3), (34, .return_, 1)], [(2, [])])
def M_Mo_adds : ev_Me := (yX11_adds, cX11_adds, 3, (some .int), 11, [(0, .aload_n 0, 1), (1, .dup, 1), (2, .getfield 218, 3), (5, .iconst 1, 1), (6, .iadd, 1), (7, .putfield 218, 3), (10, .aload_n 0, 1), (11, .getfield 218, 3), (14, .bipush 15, 2), (16, .if_icmp .le 43, 3), (19, .iconst 0, 1), (20, .istore_n 2, 1), (21, .iload_n 2, 1), (22, .sipush 405, 3), (25, .if_icmp .ge 24, 3), (28, .aload_n 0, 1), (29, .getfield 71, 3), (32, .iload_n 2, 1), (33, .aload_n 0, 1), (34, .getfield 71, 3), (37, .iload_n 2, 1), (38, .bipush 27, 2), (40, .iadd, 1), (41, .iaload, 1), (42, .iastore, 1), (43, .iinc 2 1, 3), (46, .goto (-25), 3), (49, .aload_n 0, 1), (50, .dup, 1), (51, .getfield 218, 3), (54, .iconst 1, 1), (55, .isub, 1), (56, .putfield 218, 3), (59, .iload_n 1, 1), (60, .ireturn, 1)], [(21, [])])
def M_Mo_counted : ev_Me := (yX11_counted, cX11_counted, 2, (some .int), 11, [(0, .iload_n 1, 1), (1, .ifCond .ge 7, 3), (4, .iload_n 1, 1), (5, .goto 8, 3), (8, .aload_n 0, 1), (9, .iload_n 1, 1), (10, .invokevirtual 299, 3), (13, .ireturn, 1)], [])
def M_Mo_undo : ev_Me := (yX11_undo, cX11_undo, 2, (some .int), 11, [(0, .aload_n 0, 1), (1, .iconst 0, 1), (2, .putfield 3, 3), (5, .aload_n 0, 1), (6, .getfield 218, 3), (9, .ifCond .ne 5, 3), (12, .iconst (-1), 1), (13, .ireturn, 1), (14, .aload_n 0, 1), (15, .dup, 1), (16, .getfield 218, 3), (19, .iconst 1, 1), (20, .isub, 1), (21, .putfield 218, 3), (24, .iconst 0, 1), (25, .istore_n 1, 1), (26, .iload_n 1, 1), (27, .bipush 27, 2), (29, .if_icmp .ge 29, 3), (32, .aload_n 0, 1), (33, .getfield 35, 3), (36, .iload_n 1, 1), (37, .aload_n 0, 1), (38, .getfield 71, 3), (41, .bipush 27, 2), (43, .aload_n 0, 1), (44, .getfield 218, 3), (47, .imul, 1), (48, .iload_n 1, 1), (49, .iadd, 1), (50, .iaload, 1), (51, .iastore, 1), (52, .iinc 1 1, 3), (55, .goto (-29), 3), (58, .aload_n 0, 1), (59, .getfield 218, 3), (62, .ireturn, 1)], [(26, [])])
def M_Mo_strikeNext : ev_Me := (yX11_strikeNext, cX11_strikeNext, 5, (some .int), 11, [(0, .aload_n 0, 1), (1, .aload_n 1, 1), (2, .invokevirtual 302, 3), (5, .istore_n 2, 1), (6, .iconst 0, 1), (7, .istore_n 3, 1), (8, .iconst 0, 1), (9, .istore 4, 2), (11, .iload 4, 2), (13, .bipush 8, 2), (15, .if_icmp .ge 39, 3), (18, .iload_n 3, 1), (19, .iload_n 2, 1), (20, .iload 4, 2), (22, .invokestatic 142, 3), (25, .ifCond .eq 20, 3), (28, .aload_n 0, 1), (29, .aload_n 1, 1), (30, .iload 4, 2), (32, .invokevirtual 287, 3), (35, .ifCond .le 10, 3), (38, .iconst 1, 1), (39, .iload 4, 2), (41, .ishl, 1), (42, .goto 4, 3), (45, .iconst 0, 1), (46, .ior, 1), (47, .istore_n 3, 1), (48, .iinc 4 1, 3), (51, .goto (-40), 3), (54, .iload_n 3, 1), (55, .ireturn, 1)], [(11, [])])
def M_Mo_dayGoes : ev_Me := (yX11_dayGoes, cX11_dayGoes, 7, (some .int), 11, [(0, .aload_n 0, 1), (1, .aload_n 1, 1), (2, .invokevirtual 302, 3), (5, .istore_n 2, 1), (6, .aload_n 0, 1), (7, .aload_n 1, 1), (8, .invokevirtual 306, 3), (11, .istore_n 3, 1), (12, .aload_n 1, 1), (13, .bipush 24, 2), (15, .iload_n 3, 1), (16, .iastore, 1), (17, .aload_n 0, 1), (18, .aload_n 1, 1), (19, .iload_n 3, 1), (20, .invokevirtual 309, 3), (23, .istore 4, 2), (25, .aload_n 1, 1), (26, .bipush 26, 2), (28, .sipush 9999, 3), (31, .aload_n 1, 1), (32, .bipush 26, 2), (34, .iaload, 1), (35, .iload 4, 2), (37, .iadd, 1), (38, .invokestatic 163, 3), (41, .iastore, 1), (42, .iconst 0, 1), (43, .istore 5, 2), (45, .iload 5, 2), (47, .bipush 8, 2), (49, .if_icmp .ge 60, 3), (52, .iload_n 3, 1), (53, .iload 5, 2), (55, .invokestatic 142, 3), (58, .ifCond .eq 8, 3), (61, .bipush (-2), 2), (63, .goto 12, 3), (66, .iload_n 2, 1), (67, .iload 5, 2), (69, .invokestatic 142, 3), (72, .invokestatic 146, 3), (75, .istore 6, 2), (77, .aload_n 1, 1), (78, .bipush 8, 2), (80, .iload 5, 2), (82, .iadd, 1), (83, .iconst 0, 1), (84, .bipush 9, 2), (86, .aload_n 1, 1), (87, .bipush 8, 2), (89, .iload 5, 2), (91, .iadd, 1), (92, .iaload, 1), (93, .iload 6, 2), (95, .iadd, 1), (96, .invokestatic 163, 3), (99, .invokestatic 293, 3), (102, .iastore, 1), (103, .iinc 5 1, 3), (106, .goto (-61), 3), (109, .aload_n 1, 1), (110, .bipush 25, 2), (112, .dup2, 1), (113, .iaload, 1), (114, .iconst 1, 1), (115, .iadd, 1), (116, .iastore, 1), (117, .iload 4, 2), (119, .ireturn, 1)], [(45, [0, 6]), (75, [0, 6])])
def M_Mo_offers : ev_Me := (yX11_offers, cX11_offers, 5, (some .int), 11, [(0, .iload_n 2, 1), (1, .invokestatic 282, 3), (4, .ifCond .eq 15, 3), (7, .iload_n 3, 1), (8, .i2l, 1), (9, .lconst 0, 1), (10, .ldc2_w 312, 3), (13, .invokestatic 132, 3), (16, .ifCond .ne 5, 3), (19, .iconst (-1), 1), (20, .ireturn, 1), (21, .aload_n 1, 1), (22, .bipush 16, 2), (24, .iload_n 2, 1), (25, .iadd, 1), (26, .iaload, 1), (27, .istore 4, 2), (29, .aload_n 1, 1), (30, .bipush 16, 2), (32, .iload_n 2, 1), (33, .iadd, 1), (34, .iload_n 3, 1), (35, .iastore, 1), (36, .iload 4, 2), (38, .ireturn, 1)], [])
def M_Mo_stirsOne : ev_Me := (yX11_stirsOne, cX11_stirsOne, 4, (some .int), 11, [(0, .iload_n 1, 1), (1, .invokestatic 282, 3), (4, .ifCond .eq 21, 3), (7, .iload_n 2, 1), (8, .i2l, 1), (9, .ldc2_w 314, 3), (12, .ldc2_w 312, 3), (15, .invokestatic 132, 3), (18, .ifCond .eq 7, 3), (21, .iload_n 2, 1), (22, .ifCond .ne 5, 3), (25, .iconst (-1), 1), (26, .ireturn, 1), (27, .aload_n 0, 1), (28, .getfield 35, 3), (31, .bipush 8, 2), (33, .iload_n 1, 1), (34, .iadd, 1), (35, .iaload, 1), (36, .iload_n 2, 1), (37, .iadd, 1), (38, .istore_n 3, 1), (39, .iload_n 3, 1), (40, .i2l, 1), (41, .lconst 0, 1), (42, .ldc2_w 312, 3), (45, .invokestatic 132, 3), (48, .ifCond .ne 15, 3), (51, .iload_n 3, 1), (52, .ifCond .ge 8, 3), (55, .bipush (-2), 2), (57, .goto 5, 3), (60, .bipush (-3), 2), (62, .ireturn, 1), (63, .aload_n 0, 1), (64, .getfield 35, 3), (67, .bipush 8, 2), (69, .iload_n 1, 1), (70, .iadd, 1), (71, .iload_n 3, 1), (72, .iastore, 1), (73, .iload_n 3, 1), (74, .ireturn, 1)], [])
def M_Mo_mutesOne : ev_Me := (yX11_mutesOne, cX11_mutesOne, 5, (some .int), 11, [(0, .aload_n 0, 1), (1, .iload_n 2, 1), (2, .invokevirtual 136, 3), (5, .ifCond .eq 21, 3), (8, .iload_n 3, 1), (9, .i2l, 1), (10, .lconst 0, 1), (11, .aload_n 0, 1), (12, .getfield 32, 3), (15, .iload_n 2, 1), (16, .iaload, 1), (17, .iconst 1, 1), (18, .isub, 1), (19, .i2l, 1), (20, .invokestatic 132, 3), (23, .ifCond .ne 5, 3), (26, .iconst (-1), 1), (27, .ireturn, 1), (28, .aload_n 1, 1), (29, .iload_n 2, 1), (30, .iaload, 1), (31, .iconst 1, 1), (32, .iload_n 3, 1), (33, .ishl, 1), (34, .ixor, 1), (35, .istore 4, 2), (37, .iload 4, 2), (39, .invokestatic 199, 3), (42, .aload_n 0, 1), (43, .getfield 32, 3), (46, .iload_n 2, 1), (47, .iaload, 1), (48, .if_icmp .ne 6, 3), (51, .bipush (-2), 2), (53, .ireturn, 1), (54, .aload_n 1, 1), (55, .iload_n 2, 1), (56, .iload 4, 2), (58, .iastore, 1), (59, .aload_n 0, 1), (60, .getfield 32, 3), (63, .iload_n 2, 1), (64, .iaload, 1), (65, .iload 4, 2), (67, .invokestatic 199, 3), (70, .isub, 1), (71, .ireturn, 1)], [])
def M_Mo_days : ev_Me := (yX11_days, cX11_days, 5, (some .int), 11, [(0, .aload_n 0, 1), (1, .iconst 0, 1), (2, .putfield 3, 3), (5, .iload_n 1, 1), (6, .i2l, 1), (7, .lconst 0, 1), (8, .ldc2_w 316, 3), (11, .invokestatic 132, 3), (14, .ifCond .ne 5, 3), (17, .iconst (-1), 1), (18, .ireturn, 1), (19, .aload_n 0, 1), (20, .invokevirtual 318, 3), (23, .iconst 0, 1), (24, .istore_n 2, 1), (25, .iconst 0, 1), (26, .istore_n 3, 1), (27, .iconst 0, 1), (28, .istore 4, 2), (30, .iload 4, 2), (32, .iload_n 1, 1), (33, .if_icmp .ge 41, 3), (36, .iload_n 2, 1), (37, .aload_n 0, 1), (38, .aload_n 0, 1), (39, .getfield 35, 3), (42, .invokevirtual 321, 3), (45, .iadd, 1), (46, .istore_n 2, 1), (47, .iload_n 3, 1), (48, .aload_n 0, 1), (49, .getfield 35, 3), (52, .bipush 24, 2), (54, .iaload, 1), (55, .ifCond .eq 7, 3), (58, .iconst 1, 1), (59, .goto 4, 3), (62, .iconst 0, 1), (63, .invokestatic 146, 3), (66, .iadd, 1), (67, .istore_n 3, 1), (68, .iinc 4 1, 3), (71, .goto (-41), 3), (74, .aload_n 0, 1), (75, .iconst 0, 1), (76, .putfield 15, 3), (79, .aload_n 0, 1), (80, .iload_n 2, 1), (81, .i2l, 1), (82, .invokevirtual 18, 3), (85, .aload_n 0, 1), (86, .iload_n 3, 1), (87, .i2l, 1), (88, .invokevirtual 18, 3), (91, .aload_n 0, 1), (92, .aload_n 0, 1), (93, .getfield 35, 3), (96, .bipush 24, 2), (98, .iaload, 1), (99, .invokevirtual 299, 3), (102, .ireturn, 1)], [(30, []), (63, [3])])
def M_Mo_offer : ev_Me := (yX11_offer, cX11_offer, 3, (some .int), 11, [(0, .aload_n 0, 1), (1, .iconst 0, 1), (2, .putfield 3, 3), (5, .aload_n 0, 1), (6, .invokevirtual 318, 3), (9, .aload_n 0, 1), (10, .aload_n 0, 1), (11, .aload_n 0, 1), (12, .getfield 35, 3), (15, .iload_n 1, 1), (16, .iload_n 2, 1), (17, .invokevirtual 324, 3), (20, .invokevirtual 327, 3), (23, .ireturn, 1)], [])
def M_Mo_stirs : ev_Me := (yX11_stirs, cX11_stirs, 3, (some .int), 11, [(0, .aload_n 0, 1), (1, .iconst 0, 1), (2, .putfield 3, 3), (5, .aload_n 0, 1), (6, .invokevirtual 318, 3), (9, .aload_n 0, 1), (10, .aload_n 0, 1), (11, .iload_n 1, 1), (12, .iload_n 2, 1), (13, .invokevirtual 330, 3), (16, .invokevirtual 327, 3), (19, .ireturn, 1)], [])
def M_Mo_mutes : ev_Me := (yX11_mutes, cX11_mutes, 3, (some .int), 11, [(0, .aload_n 0, 1), (1, .iconst 0, 1), (2, .putfield 3, 3), (5, .aload_n 0, 1), (6, .invokevirtual 318, 3), (9, .aload_n 0, 1), (10, .aload_n 0, 1), (11, .aload_n 0, 1), (12, .getfield 35, 3), (15, .iload_n 1, 1), (16, .iload_n 2, 1), (17, .invokevirtual 333, 3), (20, .invokevirtual 327, 3), (23, .ireturn, 1)], [])
def M_Mo_readsAct : ev_Me := (yX11_readsAct, cX11_readsAct, 2, (some .boolean), 11, [(0, .aload_n 0, 1), (1, .getfield 336, 3), (4, .istore_n 1, 1), (5, .aload_n 0, 1), (6, .getfield 74, 3), (9, .iload_n 1, 1), (10, .aload_n 0, 1), (11, .ldc_w 339, 3), (14, .invokevirtual 195, 3), (17, .iastore, 1), (18, .aload_n 0, 1), (19, .dup, 1), (20, .getfield 336, 3), (23, .iconst 1, 1), (24, .iadd, 1), (25, .putfield 336, 3), (28, .aload_n 0, 1), (29, .getfield 74, 3), (32, .iload_n 1, 1), (33, .iaload, 1), (34, .ifCond .ge 5, 3), (37, .iconst 0, 1), (38, .ireturn, 1), (39, .aload_n 0, 1), (40, .getfield 77, 3), (43, .iload_n 1, 1), (44, .aload_n 0, 1), (45, .getfield 74, 3), (48, .iload_n 1, 1), (49, .iaload, 1), (50, .iconst 2, 1), (51, .if_icmp .ge 11, 3), (54, .aload_n 0, 1), (55, .iconst 1, 1), (56, .invokevirtual 234, 3), (59, .goto 10, 3), (62, .aload_n 0, 1), (63, .ldc_w 341, 3), (66, .invokevirtual 195, 3), (69, .iastore, 1), (70, .aload_n 0, 1), (71, .getfield 77, 3), (74, .iload_n 1, 1), (75, .iaload, 1), (76, .ifCond .lt 12, 3), (79, .aload_n 0, 1), (80, .getfield 74, 3), (83, .iload_n 1, 1), (84, .iaload, 1), (85, .ifCond .ne 18, 3), (88, .aload_n 0, 1), (89, .getfield 77, 3), (92, .iload_n 1, 1), (93, .iaload, 1), (94, .ifCond .lt 7, 3), (97, .iconst 1, 1), (98, .goto 4, 3), (101, .iconst 0, 1), (102, .ireturn, 1), (103, .aload_n 0, 1), (104, .getfield 80, 3), (107, .iload_n 1, 1), (108, .aload_n 0, 1), (109, .aload_n 0, 1), (110, .getfield 74, 3), (113, .iload_n 1, 1), (114, .iaload, 1), (115, .iconst 3, 1), (116, .if_icmp .ge 7, 3), (119, .iconst 0, 1), (120, .goto 4, 3), (123, .iconst 1, 1), (124, .bipush 9, 2), (126, .invokevirtual 343, 3), (129, .iastore, 1), (130, .aload_n 0, 1), (131, .getfield 80, 3), (134, .iload_n 1, 1), (135, .iaload, 1), (136, .ifCond .lt 7, 3), (139, .iconst 1, 1), (140, .goto 4, 3), (143, .iconst 0, 1), (144, .ireturn, 1)], [(69, []), (88, []), (124, [])])
def M_Mo_does : ev_Me := (yX11_does, cX11_does, 4, (some .boolean), 11, [(0, .aload_n 0, 1), (1, .getfield 77, 3), (4, .iload_n 1, 1), (5, .iaload, 1), (6, .istore_n 2, 1), (7, .aload_n 0, 1), (8, .getfield 74, 3), (11, .iload_n 1, 1), (12, .iaload, 1), (13, .tableswitch 123 0 3 #[31, 55, 79, 103], 31), (44, .iconst 0, 1), (45, .istore_n 3, 1), (46, .iload_n 3, 1), (47, .iload_n 2, 1), (48, .if_icmp .ge 18, 3), (51, .aload_n 0, 1), (52, .aload_n 0, 1), (53, .getfield 35, 3), (56, .invokevirtual 321, 3), (59, .pop, 1), (60, .iinc 3 1, 3), (63, .goto (-17), 3), (66, .iconst 1, 1), (67, .ireturn, 1), (68, .aload_n 0, 1), (69, .aload_n 0, 1), (70, .getfield 35, 3), (73, .iload_n 2, 1), (74, .aload_n 0, 1), (75, .getfield 80, 3), (78, .iload_n 1, 1), (79, .iaload, 1), (80, .invokevirtual 333, 3), (83, .ifCond .lt 7, 3), (86, .iconst 1, 1), (87, .goto 4, 3), (90, .iconst 0, 1), (91, .ireturn, 1), (92, .aload_n 0, 1), (93, .aload_n 0, 1), (94, .getfield 35, 3), (97, .iload_n 2, 1), (98, .aload_n 0, 1), (99, .getfield 80, 3), (102, .iload_n 1, 1), (103, .iaload, 1), (104, .invokevirtual 324, 3), (107, .ifCond .lt 7, 3), (110, .iconst 1, 1), (111, .goto 4, 3), (114, .iconst 0, 1), (115, .ireturn, 1), (116, .aload_n 0, 1), (117, .iload_n 2, 1), (118, .aload_n 0, 1), (119, .getfield 80, 3), (122, .iload_n 1, 1), (123, .iaload, 1), (124, .invokevirtual 330, 3), (127, .ifCond .lt 7, 3), (130, .iconst 1, 1), (131, .goto 4, 3), (134, .iconst 0, 1), (135, .ireturn, 1), (136, .aload_n 0, 1), (137, .iload_n 2, 1), (138, .aload_n 0, 1), (139, .getfield 80, 3), (142, .iload_n 1, 1), (143, .iaload, 1), (144, .ineg, 1), (145, .invokevirtual 330, 3), (148, .ifCond .lt 7, 3), (151, .iconst 1, 1), (152, .goto 4, 3), (155, .iconst 0, 1), (156, .ireturn, 1)], [(46, [1])])
def M_Mo_year : ev_Me := (yX11_year, cX11_year, 5, (some .int), 11, [(0, .aload_n 0, 1), (1, .iconst 0, 1), (2, .putfield 3, 3), (5, .aload_n 0, 1), (6, .bipush 60, 2), (8, .invokevirtual 205, 3), (11, .istore_n 1, 1), (12, .aload_n 0, 1), (13, .iconst 0, 1), (14, .putfield 336, 3), (17, .iconst 1, 1), (18, .istore_n 2, 1), (19, .iload_n 2, 1), (20, .ifCond .eq 22, 3), (23, .aload_n 0, 1), (24, .getfield 157, 3), (27, .aload_n 0, 1), (28, .getfield 169, 3), (31, .if_icmp .ge 11, 3), (34, .aload_n 0, 1), (35, .invokevirtual 346, 3), (38, .istore_n 2, 1), (39, .goto (-20), 3), (42, .aload_n 0, 1), (43, .iload_n 1, 1), (44, .bipush 60, 2), (46, .iload_n 2, 1), (47, .invokevirtual 214, 3), (50, .istore_n 3, 1), (51, .iload_n 3, 1), (52, .ifCond .ge 5, 3), (55, .iload_n 3, 1), (56, .ireturn, 1), (57, .aload_n 0, 1), (58, .invokevirtual 318, 3), (61, .iconst 0, 1), (62, .istore 4, 2), (64, .iload 4, 2), (66, .aload_n 0, 1), (67, .getfield 336, 3), (70, .if_icmp .ge 18, 3), (73, .aload_n 0, 1), (74, .iload 4, 2), (76, .invokevirtual 349, 3), (79, .ifCond .eq 9, 3), (82, .iinc 4 1, 3), (85, .goto (-21), 3), (88, .aload_n 0, 1), (89, .iconst 0, 1), (90, .putfield 15, 3), (93, .aload_n 0, 1), (94, .iload 4, 2), (96, .aload_n 0, 1), (97, .getfield 336, 3), (100, .if_icmp .ge 7, 3), (103, .iconst 1, 1), (104, .goto 4, 3), (107, .iconst 0, 1), (108, .invokestatic 146, 3), (111, .i2l, 1), (112, .invokevirtual 18, 3), (115, .aload_n 0, 1), (116, .aload_n 0, 1), (117, .getfield 35, 3), (120, .bipush 24, 2), (122, .iaload, 1), (123, .i2l, 1), (124, .invokevirtual 18, 3), (127, .iload 4, 2), (129, .ifCond .le 12, 3), (132, .aload_n 0, 1), (133, .iload 4, 2), (135, .invokevirtual 299, 3), (138, .goto 4, 3), (141, .iconst 0, 1), (142, .ireturn, 1)], [(19, [3, 4]), (42, [3, 4]), (64, [1, 2, 3]), (88, [1, 2, 3]), (108, [1, 2, 3])])
def M_Mo_copies : ev_Me := (yX11_copies, cX11_copies, 2, none, 11, [(0, .iconst 0, 1), (1, .istore_n 1, 1), (2, .iload_n 1, 1), (3, .bipush 27, 2), (5, .if_icmp .ge 21, 3), (8, .aload_n 0, 1), (9, .getfield 38, 3), (12, .iload_n 1, 1), (13, .aload_n 0, 1), (14, .getfield 35, 3), (17, .iload_n 1, 1), (18, .iaload, 1), (19, .iastore, 1), (20, .iinc 1 1, 3), (23, .goto (-21), 3), (26, .return_, 1)], [(2, [])])
def M_Mo_looks : ev_Me := (yX11_looks, cX11_looks, 5, (some .int), 11, [(0, .aload_n 0, 1), (1, .iconst 0, 1), (2, .putfield 3, 3), (5, .aload_n 0, 1), (6, .iload_n 1, 1), (7, .invokevirtual 136, 3), (10, .ifCond .eq 15, 3), (13, .iload_n 2, 1), (14, .i2l, 1), (15, .lconst 0, 1), (16, .ldc2_w 352, 3), (19, .invokestatic 132, 3), (22, .ifCond .ne 5, 3), (25, .iconst (-1), 1), (26, .ireturn, 1), (27, .aload_n 0, 1), (28, .aload_n 0, 1), (29, .getfield 65, 3), (32, .iload_n 1, 1), (33, .aload_n 0, 1), (34, .getfield 35, 3), (37, .iload_n 1, 1), (38, .iaload, 1), (39, .iload_n 2, 1), (40, .invokevirtual 269, 3), (43, .istore_n 3, 1), (44, .aload_n 0, 1), (45, .iconst 0, 1), (46, .putfield 15, 3), (49, .iconst 0, 1), (50, .istore 4, 2), (52, .iload 4, 2), (54, .iload_n 3, 1), (55, .if_icmp .ge 21, 3), (58, .aload_n 0, 1), (59, .aload_n 0, 1), (60, .getfield 65, 3), (63, .iload 4, 2), (65, .iaload, 1), (66, .i2l, 1), (67, .invokevirtual 18, 3), (70, .iinc 4 1, 3), (73, .goto (-21), 3), (76, .iload_n 3, 1), (77, .ireturn, 1)], [(52, [1, 2])])
def M_Mo_kinds : ev_Me := (yX11_kinds, cX11_kinds, 5, (some .int), 11, [(0, .aload_n 0, 1), (1, .iconst 0, 1), (2, .putfield 3, 3), (5, .iload_n 1, 1), (6, .i2l, 1), (7, .lconst 0, 1), (8, .ldc2_w 352, 3), (11, .invokestatic 132, 3), (14, .ifCond .ne 5, 3), (17, .iconst (-1), 1), (18, .ireturn, 1), (19, .iconst 0, 1), (20, .istore_n 2, 1), (21, .aload_n 0, 1), (22, .iconst 0, 1), (23, .putfield 15, 3), (26, .iconst 0, 1), (27, .istore_n 3, 1), (28, .iload_n 3, 1), (29, .aload_n 0, 1), (30, .getfield 129, 3), (33, .if_icmp .ge 57, 3), (36, .iconst 0, 1), (37, .istore 4, 2), (39, .aload_n 0, 1), (40, .aload_n 0, 1), (41, .getfield 35, 3), (44, .iload 4, 2), (46, .iload_n 3, 1), (47, .iload_n 1, 1), (48, .invokevirtual 273, 3), (51, .ifCond .ne 9, 3), (54, .iinc 4 1, 3), (57, .goto (-18), 3), (60, .iload_n 2, 1), (61, .iload 4, 2), (63, .iload_n 3, 1), (64, .if_icmp .ne 7, 3), (67, .iconst 1, 1), (68, .goto 4, 3), (71, .iconst 0, 1), (72, .invokestatic 146, 3), (75, .iadd, 1), (76, .istore_n 2, 1), (77, .aload_n 0, 1), (78, .iload 4, 2), (80, .i2l, 1), (81, .invokevirtual 18, 3), (84, .iinc 3 1, 3), (87, .goto (-59), 3), (90, .iload_n 2, 1), (91, .ireturn, 1)], [(28, [4]), (39, []), (72, [2])])
def M_Mo_square : ev_Me := (yX11_square, cX11_square, 2, (some .int), 11, [(0, .bipush 9, 2), (2, .iload_n 0, 1), (3, .imul, 1), (4, .iload_n 1, 1), (5, .iadd, 1), (6, .ireturn, 1)], [])
def M_Mo_apartBy : ev_Me := (yX11_apartBy, cX11_apartBy, 9, (some .int), 11, [(0, .aload_n 0, 1), (1, .aload_n 0, 1), (2, .getfield 65, 3), (5, .iload_n 1, 1), (6, .aload_n 0, 1), (7, .getfield 35, 3), (10, .iload_n 1, 1), (11, .iaload, 1), (12, .iload_n 3, 1), (13, .invokevirtual 269, 3), (16, .istore 4, 2), (18, .aload_n 0, 1), (19, .aload_n 0, 1), (20, .getfield 68, 3), (23, .iload_n 2, 1), (24, .aload_n 0, 1), (25, .getfield 35, 3), (28, .iload_n 2, 1), (29, .iaload, 1), (30, .iload_n 3, 1), (31, .invokevirtual 269, 3), (34, .istore 5, 2), (36, .iconst 0, 1), (37, .istore 6, 2), (39, .iload 6, 2), (41, .iload 4, 2), (43, .if_icmp .gt 168, 3), (46, .iconst 0, 1), (47, .istore 7, 2), (49, .iload 7, 2), (51, .iload 5, 2), (53, .if_icmp .gt 152, 3), (56, .iload 6, 2), (58, .ifCond .ne 8, 3), (61, .iload 7, 2), (63, .goto 19, 3), (66, .aload_n 0, 1), (67, .getfield 83, 3), (70, .iload 6, 2), (72, .iconst 1, 1), (73, .isub, 1), (74, .iload 7, 2), (76, .invokestatic 354, 3), (79, .iaload, 1), (80, .iconst 1, 1), (81, .iadd, 1), (82, .istore 8, 2), (84, .iload 7, 2), (86, .ifCond .ne 8, 3), (89, .iload 6, 2), (91, .goto 24, 3), (94, .iload 8, 2), (96, .aload_n 0, 1), (97, .getfield 83, 3), (100, .iload 6, 2), (102, .iload 7, 2), (104, .iconst 1, 1), (105, .isub, 1), (106, .invokestatic 354, 3), (109, .iaload, 1), (110, .iconst 1, 1), (111, .iadd, 1), (112, .invokestatic 163, 3), (115, .istore 8, 2), (117, .iload 6, 2), (119, .ifCond .le 62, 3), (122, .iload 7, 2), (124, .ifCond .le 57, 3), (127, .iload 8, 2), (129, .aload_n 0, 1), (130, .getfield 83, 3), (133, .iload 6, 2), (135, .iconst 1, 1), (136, .isub, 1), (137, .iload 7, 2), (139, .iconst 1, 1), (140, .isub, 1), (141, .invokestatic 354, 3), (144, .iaload, 1), (145, .aload_n 0, 1), (146, .getfield 65, 3), (149, .iload 6, 2), (151, .iconst 1, 1), (152, .isub, 1), (153, .iaload, 1), (154, .aload_n 0, 1), (155, .getfield 68, 3), (158, .iload 7, 2), (160, .iconst 1, 1), (161, .isub, 1), (162, .iaload, 1), (163, .if_icmp .eq 7, 3), (166, .iconst 1, 1), (167, .goto 4, 3), (170, .iconst 0, 1), (171, .invokestatic 146, 3), (174, .iadd, 1), (175, .invokestatic 163, 3), (178, .goto 5, 3), (181, .iload 8, 2), (183, .istore 8, 2), (185, .aload_n 0, 1), (186, .getfield 83, 3), (189, .iload 6, 2), (191, .iload 7, 2), (193, .invokestatic 354, 3), (196, .iload 8, 2), (198, .iastore, 1), (199, .iinc 7 1, 3), (202, .goto (-153), 3), (205, .iinc 6 1, 3), (208, .goto (-169), 3), (211, .aload_n 0, 1), (212, .getfield 83, 3), (215, .iload 4, 2), (217, .iload 5, 2), (219, .invokestatic 354, 3), (222, .iaload, 1), (223, .ireturn, 1)], [(39, [1, 2, 3, 7, 8]), (49, [1, 2, 3, 8]), (82, [1, 2, 3, 8]), (115, [1, 2, 3, 8]), (171, [1, 2, 3, 8]), (183, [1, 2, 3, 8])])
def M_Mo_sharedBy : ev_Me := (yX11_sharedBy, cX11_sharedBy, 9, (some .int), 11, [(0, .aload_n 0, 1), (1, .aload_n 0, 1), (2, .getfield 65, 3), (5, .iload_n 1, 1), (6, .aload_n 0, 1), (7, .getfield 35, 3), (10, .iload_n 1, 1), (11, .iaload, 1), (12, .iload_n 3, 1), (13, .invokevirtual 269, 3), (16, .istore 4, 2), (18, .aload_n 0, 1), (19, .aload_n 0, 1), (20, .getfield 68, 3), (23, .iload_n 2, 1), (24, .aload_n 0, 1), (25, .getfield 35, 3), (28, .iload_n 2, 1), (29, .iaload, 1), (30, .iload_n 3, 1), (31, .invokevirtual 269, 3), (34, .istore 5, 2), (36, .iconst 0, 1), (37, .istore 6, 2), (39, .iload 6, 2), (41, .iload 4, 2), (43, .if_icmp .gt 147, 3), (46, .iconst 0, 1), (47, .istore 7, 2), (49, .iload 7, 2), (51, .iload 5, 2), (53, .if_icmp .gt 131, 3), (56, .iload 6, 2), (58, .ifCond .eq 8, 3), (61, .iload 7, 2), (63, .ifCond .ne 7, 3), (66, .iconst 0, 1), (67, .goto 34, 3), (70, .aload_n 0, 1), (71, .getfield 83, 3), (74, .iload 6, 2), (76, .iconst 1, 1), (77, .isub, 1), (78, .iload 7, 2), (80, .invokestatic 354, 3), (83, .iaload, 1), (84, .aload_n 0, 1), (85, .getfield 83, 3), (88, .iload 6, 2), (90, .iload 7, 2), (92, .iconst 1, 1), (93, .isub, 1), (94, .invokestatic 354, 3), (97, .iaload, 1), (98, .invokestatic 293, 3), (101, .istore 8, 2), (103, .iload 6, 2), (105, .ifCond .le 55, 3), (108, .iload 7, 2), (110, .ifCond .le 50, 3), (113, .aload_n 0, 1), (114, .getfield 65, 3), (117, .iload 6, 2), (119, .iconst 1, 1), (120, .isub, 1), (121, .iaload, 1), (122, .aload_n 0, 1), (123, .getfield 68, 3), (126, .iload 7, 2), (128, .iconst 1, 1), (129, .isub, 1), (130, .iaload, 1), (131, .if_icmp .ne 29, 3), (134, .iload 8, 2), (136, .aload_n 0, 1), (137, .getfield 83, 3), (140, .iload 6, 2), (142, .iconst 1, 1), (143, .isub, 1), (144, .iload 7, 2), (146, .iconst 1, 1), (147, .isub, 1), (148, .invokestatic 354, 3), (151, .iaload, 1), (152, .iconst 1, 1), (153, .iadd, 1), (154, .invokestatic 293, 3), (157, .goto 5, 3), (160, .iload 8, 2), (162, .istore 8, 2), (164, .aload_n 0, 1), (165, .getfield 83, 3), (168, .iload 6, 2), (170, .iload 7, 2), (172, .invokestatic 354, 3), (175, .iload 8, 2), (177, .iastore, 1), (178, .iinc 7 1, 3), (181, .goto (-132), 3), (184, .iinc 6 1, 3), (187, .goto (-148), 3), (190, .aload_n 0, 1), (191, .getfield 83, 3), (194, .iload 4, 2), (196, .iload 5, 2), (198, .invokestatic 354, 3), (201, .iaload, 1), (202, .ireturn, 1)], [(39, [1, 2, 3, 7, 8]), (49, [1, 2, 3, 8]), (101, [1, 2, 3, 8]), (162, [1, 2, 3, 8])])
def M_Mo_apart : ev_Me := (yX11_apart, cX11_apart, 3, (some .int), 11, [(0, .aload_n 0, 1), (1, .iconst 0, 1), (2, .putfield 3, 3), (5, .aload_n 0, 1), (6, .iload_n 1, 1), (7, .iload_n 2, 1), (8, .invokevirtual 357, 3), (11, .ifCond .ne 5, 3), (14, .iconst (-1), 1), (15, .ireturn, 1), (16, .aload_n 0, 1), (17, .iconst 0, 1), (18, .putfield 15, 3), (21, .aload_n 0, 1), (22, .aload_n 0, 1), (23, .iload_n 1, 1), (24, .iload_n 2, 1), (25, .iconst 0, 1), (26, .invokevirtual 360, 3), (29, .i2l, 1), (30, .invokevirtual 18, 3), (33, .aload_n 0, 1), (34, .iload_n 1, 1), (35, .iload_n 2, 1), (36, .aload_n 0, 1), (37, .getfield 35, 3), (40, .bipush 24, 2), (42, .iaload, 1), (43, .invokevirtual 360, 3), (46, .ireturn, 1)], [])
def M_Mo_shared : ev_Me := (yX11_shared, cX11_shared, 3, (some .int), 11, [(0, .aload_n 0, 1), (1, .iconst 0, 1), (2, .putfield 3, 3), (5, .aload_n 0, 1), (6, .iload_n 1, 1), (7, .iload_n 2, 1), (8, .invokevirtual 357, 3), (11, .ifCond .ne 5, 3), (14, .iconst (-1), 1), (15, .ireturn, 1), (16, .aload_n 0, 1), (17, .iconst 0, 1), (18, .putfield 15, 3), (21, .aload_n 0, 1), (22, .aload_n 0, 1), (23, .iload_n 1, 1), (24, .iload_n 2, 1), (25, .iconst 0, 1), (26, .invokevirtual 363, 3), (29, .i2l, 1), (30, .invokevirtual 18, 3), (33, .aload_n 0, 1), (34, .iload_n 1, 1), (35, .iload_n 2, 1), (36, .aload_n 0, 1), (37, .getfield 35, 3), (40, .bipush 24, 2), (42, .iaload, 1), (43, .invokevirtual 363, 3), (46, .ireturn, 1)], [])
def M_Mo_chain : ev_Me := (yX11_chain, cX11_chain, 8, (some .int), 11, [(0, .aload_n 0, 1), (1, .iconst 0, 1), (2, .putfield 3, 3), (5, .aload_n 0, 1), (6, .iload_n 1, 1), (7, .invokevirtual 136, 3), (10, .ifCond .eq 23, 3), (13, .aload_n 0, 1), (14, .iload_n 2, 1), (15, .invokevirtual 136, 3), (18, .ifCond .eq 15, 3), (21, .iload_n 3, 1), (22, .i2l, 1), (23, .lconst 0, 1), (24, .ldc2_w 366, 3), (27, .invokestatic 132, 3), (30, .ifCond .ne 5, 3), (33, .iconst (-1), 1), (34, .ireturn, 1), (35, .iconst 0, 1), (36, .istore 4, 2), (38, .iload 4, 2), (40, .aload_n 0, 1), (41, .getfield 129, 3), (44, .if_icmp .ge 29, 3), (47, .aload_n 0, 1), (48, .getfield 86, 3), (51, .iload 4, 2), (53, .iload 4, 2), (55, .iload_n 2, 1), (56, .if_icmp .ne 7, 3), (59, .iconst 1, 1), (60, .goto 6, 3), (63, .ldc_w 368, 3), (66, .iastore, 1), (67, .iinc 4 1, 3), (70, .goto (-32), 3), (73, .iconst 0, 1), (74, .istore 4, 2), (76, .iload 4, 2), (78, .aload_n 0, 1), (79, .getfield 129, 3), (82, .if_icmp .ge 119, 3), (85, .iconst 0, 1), (86, .istore 5, 2), (88, .iload 5, 2), (90, .aload_n 0, 1), (91, .getfield 129, 3), (94, .if_icmp .ge 101, 3), (97, .iconst 0, 1), (98, .istore 6, 2), (100, .iload 6, 2), (102, .aload_n 0, 1), (103, .getfield 129, 3), (106, .if_icmp .ge 83, 3), (109, .iload 5, 2), (111, .iload 6, 2), (113, .if_icmp .eq 26, 3), (116, .aload_n 0, 1), (117, .iload 5, 2), (119, .iload 6, 2), (121, .aload_n 0, 1), (122, .getfield 35, 3), (125, .bipush 24, 2), (127, .iaload, 1), (128, .invokevirtual 360, 3), (131, .iload_n 3, 1), (132, .if_icmp .gt 7, 3), (135, .iconst 1, 1), (136, .goto 4, 3), (139, .iconst 0, 1), (140, .istore 7, 2), (142, .aload_n 0, 1), (143, .getfield 86, 3), (146, .iload 5, 2), (148, .iload 7, 2), (150, .ifCond .eq 25, 3), (153, .aload_n 0, 1), (154, .getfield 86, 3), (157, .iload 5, 2), (159, .iaload, 1), (160, .aload_n 0, 1), (161, .getfield 86, 3), (164, .iload 6, 2), (166, .iaload, 1), (167, .iconst 1, 1), (168, .iadd, 1), (169, .invokestatic 163, 3), (172, .goto 10, 3), (175, .aload_n 0, 1), (176, .getfield 86, 3), (179, .iload 5, 2), (181, .iaload, 1), (182, .iastore, 1), (183, .iinc 6 1, 3), (186, .goto (-86), 3), (189, .iinc 5 1, 3), (192, .goto (-104), 3), (195, .iinc 4 1, 3), (198, .goto (-122), 3), (201, .aload_n 0, 1), (202, .getfield 86, 3), (205, .iload_n 1, 1), (206, .iaload, 1), (207, .ldc_w 368, 3), (210, .if_icmp .lt 6, 3), (213, .bipush (-2), 2), (215, .ireturn, 1), (216, .aload_n 0, 1), (217, .iconst 0, 1), (218, .putfield 15, 3), (221, .iload_n 1, 1), (222, .istore 4, 2), (224, .aload_n 0, 1), (225, .iload 4, 2), (227, .i2l, 1), (228, .invokevirtual 18, 3), (231, .aload_n 0, 1), (232, .getfield 86, 3), (235, .iload_n 1, 1), (236, .iaload, 1), (237, .iconst 1, 1), (238, .isub, 1), (239, .istore 5, 2), (241, .iload 5, 2), (243, .ifCond .le 67, 3), (246, .iconst 0, 1), (247, .istore 6, 2), (249, .iload 6, 2), (251, .iload 4, 2), (253, .if_icmp .eq 34, 3), (256, .aload_n 0, 1), (257, .getfield 86, 3), (260, .iload 6, 2), (262, .iaload, 1), (263, .iload 5, 2), (265, .if_icmp .ne 22, 3), (268, .aload_n 0, 1), (269, .iload 4, 2), (271, .iload 6, 2), (273, .aload_n 0, 1), (274, .getfield 35, 3), (277, .bipush 24, 2), (279, .iaload, 1), (280, .invokevirtual 360, 3), (283, .iload_n 3, 1), (284, .if_icmp .le 9, 3), (287, .iinc 6 1, 3), (290, .goto (-41), 3), (293, .iload 6, 2), (295, .istore 4, 2), (297, .aload_n 0, 1), (298, .iload 4, 2), (300, .i2l, 1), (301, .invokevirtual 18, 3), (304, .iinc 5 (-1), 3), (307, .goto (-66), 3), (310, .aload_n 0, 1), (311, .getfield 86, 3), (314, .iload_n 1, 1), (315, .iaload, 1), (316, .ireturn, 1)], [(38, [5, 6, 7]), (76, [2, 5, 6, 7]), (88, [2, 6, 7]), (100, [2, 7]), (140, [2, 7]), (241, [2, 6, 7]), (249, [2, 7])])
def M_Mo_ahead : ev_Me := (yX11_ahead, cX11_ahead, 3, (some .int), 11, [(0, .aload_n 0, 1), (1, .iconst 0, 1), (2, .putfield 3, 3), (5, .iload_n 1, 1), (6, .i2l, 1), (7, .lconst 0, 1), (8, .ldc2_w 369, 3), (11, .invokestatic 132, 3), (14, .ifCond .ne 5, 3), (17, .iconst (-1), 1), (18, .ireturn, 1), (19, .aload_n 0, 1), (20, .invokevirtual 371, 3), (23, .iconst 0, 1), (24, .istore_n 2, 1), (25, .iload_n 2, 1), (26, .iload_n 1, 1), (27, .if_icmp .ge 18, 3), (30, .aload_n 0, 1), (31, .aload_n 0, 1), (32, .getfield 38, 3), (35, .invokevirtual 321, 3), (38, .pop, 1), (39, .iinc 2 1, 3), (42, .goto (-17), 3), (45, .aload_n 0, 1), (46, .iconst 0, 1), (47, .putfield 15, 3), (50, .aload_n 0, 1), (51, .aload_n 0, 1), (52, .getfield 38, 3), (55, .bipush 26, 2), (57, .iaload, 1), (58, .i2l, 1), (59, .invokevirtual 18, 3), (62, .aload_n 0, 1), (63, .aload_n 0, 1), (64, .getfield 38, 3), (67, .bipush 8, 2), (69, .invokestatic 296, 3), (72, .i2l, 1), (73, .invokevirtual 18, 3), (76, .aload_n 0, 1), (77, .getfield 38, 3), (80, .bipush 24, 2), (82, .iaload, 1), (83, .ireturn, 1)], [(25, [])])
def M_Mo_falls : ev_Me := (yX11_falls, cX11_falls, 4, (some .int), 11, [(0, .aload_n 0, 1), (1, .iconst 0, 1), (2, .putfield 3, 3), (5, .aload_n 0, 1), (6, .invokevirtual 371, 3), (9, .iconst 1, 1), (10, .istore_n 1, 1), (11, .iload_n 1, 1), (12, .bipush 99, 2), (14, .if_icmp .gt 105, 3), (17, .aload_n 0, 1), (18, .aload_n 0, 1), (19, .getfield 38, 3), (22, .invokevirtual 321, 3), (25, .pop, 1), (26, .iconst 0, 1), (27, .istore_n 2, 1), (28, .iload_n 2, 1), (29, .aload_n 0, 1), (30, .getfield 129, 3), (33, .if_icmp .ge 80, 3), (36, .iload_n 2, 1), (37, .iconst 1, 1), (38, .iadd, 1), (39, .istore_n 3, 1), (40, .iload_n 3, 1), (41, .aload_n 0, 1), (42, .getfield 129, 3), (45, .if_icmp .ge 62, 3), (48, .aload_n 0, 1), (49, .aload_n 0, 1), (50, .getfield 38, 3), (53, .iload_n 2, 1), (54, .iload_n 3, 1), (55, .aload_n 0, 1), (56, .getfield 38, 3), (59, .bipush 24, 2), (61, .iaload, 1), (62, .invokevirtual 273, 3), (65, .ifCond .eq 36, 3), (68, .aload_n 0, 1), (69, .aload_n 0, 1), (70, .getfield 38, 3), (73, .iload_n 2, 1), (74, .iload_n 3, 1), (75, .iconst 0, 1), (76, .invokevirtual 273, 3), (79, .ifCond .ne 22, 3), (82, .aload_n 0, 1), (83, .iconst 0, 1), (84, .putfield 15, 3), (87, .aload_n 0, 1), (88, .iload_n 2, 1), (89, .i2l, 1), (90, .invokevirtual 18, 3), (93, .aload_n 0, 1), (94, .iload_n 3, 1), (95, .i2l, 1), (96, .invokevirtual 18, 3), (99, .iload_n 1, 1), (100, .ireturn, 1), (101, .iinc 3 1, 3), (104, .goto (-64), 3), (107, .iinc 2 1, 3), (110, .goto (-82), 3), (113, .iinc 1 1, 3), (116, .goto (-105), 3), (119, .bipush (-2), 2), (121, .ireturn, 1)], [(11, [2, 3]), (28, [3]), (40, [])])
def M_Mo_when : ev_Me := (yX11_when, cX11_when, 6, (some .int), 11, [(0, .aload_n 0, 1), (1, .iconst 0, 1), (2, .putfield 3, 3), (5, .iload_n 1, 1), (6, .invokestatic 282, 3), (9, .ifCond .ne 5, 3), (12, .iconst (-1), 1), (13, .ireturn, 1), (14, .aload_n 0, 1), (15, .invokevirtual 371, 3), (18, .bipush (-2), 2), (20, .istore_n 2, 1), (21, .iconst 0, 1), (22, .istore_n 3, 1), (23, .iconst 1, 1), (24, .istore 4, 2), (26, .iload 4, 2), (28, .bipush 99, 2), (30, .if_icmp .gt 55, 3), (33, .aload_n 0, 1), (34, .aload_n 0, 1), (35, .getfield 38, 3), (38, .invokevirtual 321, 3), (41, .pop, 1), (42, .aload_n 0, 1), (43, .getfield 38, 3), (46, .bipush 24, 2), (48, .iaload, 1), (49, .iload_n 1, 1), (50, .invokestatic 142, 3), (53, .istore 5, 2), (55, .iload 5, 2), (57, .ifCond .eq 12, 3), (60, .iload_n 3, 1), (61, .ifCond .ne 8, 3), (64, .iload 4, 2), (66, .goto 4, 3), (69, .iload_n 2, 1), (70, .istore_n 2, 1), (71, .iload_n 3, 1), (72, .iload 5, 2), (74, .invokestatic 146, 3), (77, .iadd, 1), (78, .istore_n 3, 1), (79, .iinc 4 1, 3), (82, .goto (-56), 3), (85, .iload_n 3, 1), (86, .ifCond .le 14, 3), (89, .aload_n 0, 1), (90, .iconst 0, 1), (91, .putfield 15, 3), (94, .aload_n 0, 1), (95, .iload_n 3, 1), (96, .i2l, 1), (97, .invokevirtual 18, 3), (100, .iload_n 2, 1), (101, .ireturn, 1)], [(26, [5]), (70, [2])])
def M_Mo_crossest : ev_Me := (yX11_crossest, cX11_crossest, 6, (some .int), 11, [(0, .aload_n 0, 1), (1, .iconst 0, 1), (2, .putfield 3, 3), (5, .aload_n 0, 1), (6, .aload_n 0, 1), (7, .getfield 35, 3), (10, .invokevirtual 302, 3), (13, .istore_n 1, 1), (14, .bipush (-2), 2), (16, .istore_n 2, 1), (17, .iconst 0, 1), (18, .istore_n 3, 1), (19, .iconst 0, 1), (20, .istore 4, 2), (22, .iload 4, 2), (24, .bipush 8, 2), (26, .if_icmp .ge 87, 3), (29, .iload_n 1, 1), (30, .iload 4, 2), (32, .invokestatic 142, 3), (35, .ifCond .eq 72, 3), (38, .iload_n 2, 1), (39, .ifCond .ge 7, 3), (42, .iconst 1, 1), (43, .goto 25, 3), (46, .aload_n 0, 1), (47, .aload_n 0, 1), (48, .getfield 35, 3), (51, .iload 4, 2), (53, .invokevirtual 287, 3), (56, .aload_n 0, 1), (57, .aload_n 0, 1), (58, .getfield 35, 3), (61, .iload_n 2, 1), (62, .invokevirtual 287, 3), (65, .invokestatic 374, 3), (68, .istore 5, 2), (70, .iload 5, 2), (72, .ifCond .le 7, 3), (75, .iconst 1, 1), (76, .goto 18, 3), (79, .iload_n 3, 1), (80, .iload 5, 2), (82, .ifCond .ne 7, 3), (85, .iconst 1, 1), (86, .goto 4, 3), (89, .iconst 0, 1), (90, .invokestatic 146, 3), (93, .iadd, 1), (94, .istore_n 3, 1), (95, .iload 5, 2), (97, .ifCond .le 8, 3), (100, .iload 4, 2), (102, .goto 4, 3), (105, .iload_n 2, 1), (106, .istore_n 2, 1), (107, .iinc 4 1, 3), (110, .goto (-88), 3), (113, .iload_n 2, 1), (114, .ifCond .lt 28, 3), (117, .aload_n 0, 1), (118, .iconst 0, 1), (119, .putfield 15, 3), (122, .aload_n 0, 1), (123, .aload_n 0, 1), (124, .aload_n 0, 1), (125, .getfield 35, 3), (128, .iload_n 2, 1), (129, .invokevirtual 287, 3), (132, .i2l, 1), (133, .invokevirtual 18, 3), (136, .aload_n 0, 1), (137, .iload_n 3, 1), (138, .i2l, 1), (139, .invokevirtual 18, 3), (142, .iload_n 2, 1), (143, .ireturn, 1)], [(22, [5]), (68, [5]), (94, [3])])
def M_Mo_areApart : ev_Me := (yX11_areApart, cX11_areApart, 6, (some .boolean), 11, [(0, .iconst 1, 1), (1, .istore_n 3, 1), (2, .iconst 0, 1), (3, .istore 4, 2), (5, .iload 4, 2), (7, .aload_n 0, 1), (8, .getfield 129, 3), (11, .if_icmp .ge 90, 3), (14, .iload 4, 2), (16, .iconst 1, 1), (17, .iadd, 1), (18, .istore 5, 2), (20, .iload 5, 2), (22, .aload_n 0, 1), (23, .getfield 129, 3), (26, .if_icmp .ge 69, 3), (29, .iload_n 1, 1), (30, .iload 4, 2), (32, .invokestatic 142, 3), (35, .ifCond .eq 60, 3), (38, .iload_n 3, 1), (39, .ifCond .eq 48, 3), (42, .iload_n 1, 1), (43, .iload 5, 2), (45, .invokestatic 142, 3), (48, .ifCond .eq 35, 3), (51, .aload_n 0, 1), (52, .aload_n 0, 1), (53, .getfield 35, 3), (56, .iload 4, 2), (58, .iload 5, 2), (60, .iload_n 2, 1), (61, .invokevirtual 273, 3), (64, .ifCond .eq 19, 3), (67, .aload_n 0, 1), (68, .aload_n 0, 1), (69, .getfield 35, 3), (72, .iload 4, 2), (74, .iload 5, 2), (76, .iconst 0, 1), (77, .invokevirtual 273, 3), (80, .ifCond .eq 7, 3), (83, .iconst 1, 1), (84, .goto 4, 3), (87, .iconst 0, 1), (88, .istore_n 3, 1), (89, .iinc 5 1, 3), (92, .goto (-72), 3), (95, .iinc 4 1, 3), (98, .goto (-93), 3), (101, .iload_n 3, 1), (102, .ireturn, 1)], [(5, [5]), (20, [])])
def M_Mo_isFewer : ev_Me := (yX11_isFewer, cX11_isFewer, 2, (some .boolean), 11, [(0, .iload_n 1, 1), (1, .ifCond .lt 14, 3), (4, .iload_n 0, 1), (5, .invokestatic 199, 3), (8, .iload_n 1, 1), (9, .invokestatic 199, 3), (12, .if_icmp .ge 7, 3), (15, .iconst 1, 1), (16, .goto 4, 3), (19, .iconst 0, 1), (20, .ireturn, 1)], [])
def M_Mo_tellsSet : ev_Me := (yX11_tellsSet, cX11_tellsSet, 2, (some .int), 11, [(0, .iload_n 1, 1), (1, .ifCond .ge 6, 3), (4, .bipush (-2), 2), (6, .ireturn, 1), (7, .aload_n 0, 1), (8, .iconst 0, 1), (9, .putfield 15, 3), (12, .aload_n 0, 1), (13, .iload_n 1, 1), (14, .i2l, 1), (15, .invokevirtual 18, 3), (18, .iload_n 1, 1), (19, .invokestatic 199, 3), (22, .ireturn, 1)], [])
def M_Mo_must : ev_Me := (yX11_must, cX11_must, 4, (some .int), 11, [(0, .aload_n 0, 1), (1, .iconst 0, 1), (2, .putfield 3, 3), (5, .iload_n 1, 1), (6, .i2l, 1), (7, .lconst 0, 1), (8, .iconst 1, 1), (9, .aload_n 0, 1), (10, .getfield 129, 3), (13, .ishl, 1), (14, .iconst 1, 1), (15, .isub, 1), (16, .i2l, 1), (17, .invokestatic 132, 3), (20, .ifCond .ne 5, 3), (23, .iconst (-1), 1), (24, .ireturn, 1), (25, .iconst (-1), 1), (26, .istore_n 2, 1), (27, .iconst 0, 1), (28, .istore_n 3, 1), (29, .iload_n 3, 1), (30, .sipush 256, 3), (33, .if_icmp .ge 38, 3), (36, .iload_n 3, 1), (37, .iload_n 2, 1), (38, .invokestatic 377, 3), (41, .ifCond .eq 22, 3), (44, .aload_n 0, 1), (45, .iload_n 1, 1), (46, .sipush 255, 3), (49, .iload_n 3, 1), (50, .iconst (-1), 1), (51, .ixor, 1), (52, .iand, 1), (53, .invokevirtual 380, 3), (56, .ifCond .eq 7, 3), (59, .iload_n 3, 1), (60, .goto 4, 3), (63, .iload_n 2, 1), (64, .istore_n 2, 1), (65, .iinc 3 1, 3), (68, .goto (-39), 3), (71, .aload_n 0, 1), (72, .iload_n 2, 1), (73, .invokevirtual 383, 3), (76, .ireturn, 1)], [(29, [])])
def M_Mo_most : ev_Me := (yX11_most, cX11_most, 4, (some .int), 11, [(0, .aload_n 0, 1), (1, .iconst 0, 1), (2, .putfield 3, 3), (5, .aload_n 0, 1), (6, .aload_n 0, 1), (7, .getfield 35, 3), (10, .invokevirtual 302, 3), (13, .istore_n 1, 1), (14, .iconst 0, 1), (15, .istore_n 2, 1), (16, .iconst 0, 1), (17, .istore_n 3, 1), (18, .iload_n 3, 1), (19, .iload_n 1, 1), (20, .if_icmp .gt 50, 3), (23, .iload_n 3, 1), (24, .iload_n 1, 1), (25, .iconst (-1), 1), (26, .ixor, 1), (27, .iand, 1), (28, .ifCond .ne 36, 3), (31, .iload_n 3, 1), (32, .invokestatic 199, 3), (35, .iload_n 2, 1), (36, .invokestatic 199, 3), (39, .if_icmp .le 25, 3), (42, .aload_n 0, 1), (43, .iconst 1, 1), (44, .aload_n 0, 1), (45, .getfield 129, 3), (48, .ishl, 1), (49, .iconst 1, 1), (50, .isub, 1), (51, .iload_n 3, 1), (52, .invokevirtual 380, 3), (55, .ifCond .eq 7, 3), (58, .iload_n 3, 1), (59, .goto 4, 3), (62, .iload_n 2, 1), (63, .istore_n 2, 1), (64, .iinc 3 1, 3), (67, .goto (-49), 3), (70, .aload_n 0, 1), (71, .iload_n 2, 1), (72, .invokevirtual 383, 3), (75, .ireturn, 1)], [(18, [])])
def M_Mo_joins : ev_Me := (yX11_joins, cX11_joins, 5, (some .int), 11, [(0, .aload_n 0, 1), (1, .iconst 0, 1), (2, .putfield 3, 3), (5, .aload_n 0, 1), (6, .iload_n 1, 1), (7, .iload_n 2, 1), (8, .invokevirtual 357, 3), (11, .ifCond .ne 5, 3), (14, .iconst (-1), 1), (15, .ireturn, 1), (16, .iconst (-1), 1), (17, .istore_n 3, 1), (18, .iconst 0, 1), (19, .istore 4, 2), (21, .iload 4, 2), (23, .sipush 256, 3), (26, .if_icmp .ge 40, 3), (29, .iload 4, 2), (31, .iload_n 3, 1), (32, .invokestatic 377, 3), (35, .ifCond .eq 23, 3), (38, .aload_n 0, 1), (39, .aload_n 0, 1), (40, .getfield 35, 3), (43, .iload_n 1, 1), (44, .iload_n 2, 1), (45, .iload 4, 2), (47, .invokevirtual 273, 3), (50, .ifCond .eq 8, 3), (53, .iload 4, 2), (55, .goto 4, 3), (58, .iload_n 3, 1), (59, .istore_n 3, 1), (60, .iinc 4 1, 3), (63, .goto (-42), 3), (66, .aload_n 0, 1), (67, .iload_n 3, 1), (68, .invokevirtual 383, 3), (71, .ireturn, 1)], [(21, [])])
def M_Mo_canBeOne : ev_Me := (yX11_canBeOne, cX11_canBeOne, 6, (some .boolean), 11, [(0, .iconst 0, 1), (1, .istore 4, 2), (3, .iconst 0, 1), (4, .istore 5, 2), (6, .iload 5, 2), (8, .sipush 256, 3), (11, .if_icmp .ge 25, 3), (14, .iload 4, 2), (16, .ifCond .ne 20, 3), (19, .aload_n 0, 1), (20, .aload_n 1, 1), (21, .iload_n 2, 1), (22, .iload_n 3, 1), (23, .iload 5, 2), (25, .invokevirtual 273, 3), (28, .istore 4, 2), (30, .iinc 5 1, 3), (33, .goto (-27), 3), (36, .iload 4, 2), (38, .ireturn, 1)], [(6, [])])
def M_Mo_safe : ev_Me := (yX11_safe, cX11_safe, 5, (some .int), 11, [(0, .aload_n 0, 1), (1, .iconst 0, 1), (2, .putfield 3, 3), (5, .iconst 0, 1), (6, .istore_n 1, 1), (7, .iload_n 1, 1), (8, .aload_n 0, 1), (9, .getfield 129, 3), (12, .if_icmp .ge 66, 3), (15, .aload_n 0, 1), (16, .getfield 89, 3), (19, .iload_n 1, 1), (20, .iconst 0, 1), (21, .iastore, 1), (22, .iconst 0, 1), (23, .istore_n 2, 1), (24, .iload_n 2, 1), (25, .aload_n 0, 1), (26, .getfield 129, 3), (29, .if_icmp .ge 43, 3), (32, .aload_n 0, 1), (33, .getfield 89, 3), (36, .iload_n 1, 1), (37, .dup2, 1), (38, .iaload, 1), (39, .iload_n 1, 1), (40, .iload_n 2, 1), (41, .if_icmp .eq 22, 3), (44, .aload_n 0, 1), (45, .aload_n 0, 1), (46, .getfield 35, 3), (49, .iload_n 1, 1), (50, .iload_n 2, 1), (51, .invokevirtual 386, 3), (54, .ifCond .eq 9, 3), (57, .iconst 1, 1), (58, .iload_n 2, 1), (59, .ishl, 1), (60, .goto 4, 3), (63, .iconst 0, 1), (64, .ior, 1), (65, .iastore, 1), (66, .iinc 2 1, 3), (69, .goto (-45), 3), (72, .iinc 1 1, 3), (75, .goto (-68), 3), (78, .iconst 0, 1), (79, .istore_n 1, 1), (80, .iconst 0, 1), (81, .istore_n 2, 1), (82, .iload_n 2, 1), (83, .iconst 1, 1), (84, .aload_n 0, 1), (85, .getfield 129, 3), (88, .ishl, 1), (89, .if_icmp .ge 81, 3), (92, .iconst 1, 1), (93, .istore_n 3, 1), (94, .iconst 0, 1), (95, .istore 4, 2), (97, .iload 4, 2), (99, .aload_n 0, 1), (100, .getfield 129, 3), (103, .if_icmp .ge 40, 3), (106, .iload_n 3, 1), (107, .ifCond .eq 28, 3), (110, .iload_n 2, 1), (111, .iload 4, 2), (113, .invokestatic 142, 3), (116, .ifCond .eq 15, 3), (119, .iload_n 2, 1), (120, .aload_n 0, 1), (121, .getfield 89, 3), (124, .iload 4, 2), (126, .iaload, 1), (127, .iand, 1), (128, .ifCond .ne 7, 3), (131, .iconst 1, 1), (132, .goto 4, 3), (135, .iconst 0, 1), (136, .istore_n 3, 1), (137, .iinc 4 1, 3), (140, .goto (-43), 3), (143, .iload_n 3, 1), (144, .ifCond .eq 18, 3), (147, .iload_n 2, 1), (148, .invokestatic 199, 3), (151, .iload_n 1, 1), (152, .invokestatic 199, 3), (155, .if_icmp .le 7, 3), (158, .iload_n 2, 1), (159, .goto 4, 3), (162, .iload_n 1, 1), (163, .istore_n 1, 1), (164, .iinc 2 1, 3), (167, .goto (-85), 3), (170, .aload_n 0, 1), (171, .iload_n 1, 1), (172, .invokevirtual 383, 3), (175, .ireturn, 1)], [(7, [2, 3, 4]), (24, [3, 4]), (82, [3, 4]), (97, [])])
def M_Mo_parts : ev_Me := (yX11_parts, cX11_parts, 6, (some .int), 11, [(0, .aload_n 0, 1), (1, .iconst 0, 1), (2, .putfield 3, 3), (5, .aload_n 0, 1), (6, .iload_n 1, 1), (7, .iload_n 2, 1), (8, .invokevirtual 357, 3), (11, .ifCond .ne 5, 3), (14, .iconst (-1), 1), (15, .ireturn, 1), (16, .aload_n 0, 1), (17, .invokevirtual 371, 3), (20, .iconst (-1), 1), (21, .istore_n 3, 1), (22, .iconst 0, 1), (23, .istore 4, 2), (25, .iload 4, 2), (27, .iconst 1, 1), (28, .aload_n 0, 1), (29, .getfield 32, 3), (32, .iload_n 1, 1), (33, .iaload, 1), (34, .ishl, 1), (35, .if_icmp .ge 83, 3), (38, .aload_n 0, 1), (39, .getfield 38, 3), (42, .iload_n 1, 1), (43, .aload_n 0, 1), (44, .getfield 35, 3), (47, .iload_n 1, 1), (48, .iaload, 1), (49, .iload 4, 2), (51, .ixor, 1), (52, .iastore, 1), (53, .aload_n 0, 1), (54, .getfield 38, 3), (57, .iload_n 1, 1), (58, .iaload, 1), (59, .invokestatic 199, 3), (62, .aload_n 0, 1), (63, .getfield 32, 3), (66, .iload_n 1, 1), (67, .iaload, 1), (68, .if_icmp .ge 7, 3), (71, .iconst 1, 1), (72, .goto 4, 3), (75, .iconst 0, 1), (76, .istore 5, 2), (78, .iload 5, 2), (80, .ifCond .eq 30, 3), (83, .iload 4, 2), (85, .iload_n 3, 1), (86, .invokestatic 377, 3), (89, .ifCond .eq 21, 3), (92, .aload_n 0, 1), (93, .aload_n 0, 1), (94, .getfield 38, 3), (97, .iload_n 1, 1), (98, .iload_n 2, 1), (99, .invokevirtual 386, 3), (102, .ifCond .ne 8, 3), (105, .iload 4, 2), (107, .goto 4, 3), (110, .iload_n 3, 1), (111, .istore_n 3, 1), (112, .iinc 4 1, 3), (115, .goto (-90), 3), (118, .aload_n 0, 1), (119, .iload_n 3, 1), (120, .invokevirtual 383, 3), (123, .ireturn, 1)], [(25, [5]), (76, [5])])
def M_Mo_noticed : ev_Me := (yX11_noticed, cX11_noticed, 4, (some .int), 11, [(0, .aload_n 0, 1), (1, .iconst 0, 1), (2, .putfield 3, 3), (5, .aload_n 0, 1), (6, .iload_n 1, 1), (7, .iload_n 2, 1), (8, .invokevirtual 357, 3), (11, .ifCond .eq 22, 3), (14, .iload_n 3, 1), (15, .i2l, 1), (16, .lconst 0, 1), (17, .lconst 1, 1), (18, .invokestatic 132, 3), (21, .ifCond .eq 12, 3), (24, .aload_n 0, 1), (25, .getfield 390, 3), (28, .bipush 12, 2), (30, .if_icmp .ne 5, 3), (33, .iconst (-1), 1), (34, .ireturn, 1), (35, .aload_n 0, 1), (36, .getfield 92, 3), (39, .aload_n 0, 1), (40, .getfield 390, 3), (43, .iload_n 1, 1), (44, .iastore, 1), (45, .aload_n 0, 1), (46, .getfield 95, 3), (49, .aload_n 0, 1), (50, .getfield 390, 3), (53, .iload_n 2, 1), (54, .iastore, 1), (55, .aload_n 0, 1), (56, .getfield 98, 3), (59, .aload_n 0, 1), (60, .getfield 390, 3), (63, .iload_n 3, 1), (64, .iastore, 1), (65, .aload_n 0, 1), (66, .dup, 1), (67, .getfield 390, 3), (70, .iconst 1, 1), (71, .iadd, 1), (72, .putfield 390, 3), (75, .aload_n 0, 1), (76, .getfield 390, 3), (79, .ireturn, 1)], [])
def M_Mo_forget : ev_Me := (yX11_forget, cX11_forget, 2, (some .int), 11, [(0, .aload_n 0, 1), (1, .iconst 0, 1), (2, .putfield 3, 3), (5, .aload_n 0, 1), (6, .getfield 390, 3), (9, .istore_n 1, 1), (10, .aload_n 0, 1), (11, .iconst 0, 1), (12, .putfield 390, 3), (15, .iload_n 1, 1), (16, .ireturn, 1)], [])
def M_Mo_isAsNoticed : ev_Me := (yX11_isAsNoticed, cX11_isAsNoticed, 4, (some .boolean), 11, [(0, .iload_n 1, 1), (1, .aload_n 0, 1), (2, .aload_n 0, 1), (3, .getfield 35, 3), (6, .invokevirtual 302, 3), (9, .iconst (-1), 1), (10, .ixor, 1), (11, .iand, 1), (12, .ifCond .ne 7, 3), (15, .iconst 1, 1), (16, .goto 4, 3), (19, .iconst 0, 1), (20, .istore_n 2, 1), (21, .iconst 0, 1), (22, .istore_n 3, 1), (23, .iload_n 3, 1), (24, .aload_n 0, 1), (25, .getfield 390, 3), (28, .if_icmp .ge 52, 3), (31, .iload_n 2, 1), (32, .ifCond .eq 40, 3), (35, .aload_n 0, 1), (36, .aload_n 0, 1), (37, .getfield 35, 3), (40, .aload_n 0, 1), (41, .getfield 92, 3), (44, .iload_n 3, 1), (45, .iaload, 1), (46, .aload_n 0, 1), (47, .getfield 95, 3), (50, .iload_n 3, 1), (51, .iaload, 1), (52, .iload_n 1, 1), (53, .invokevirtual 273, 3), (56, .invokestatic 146, 3), (59, .aload_n 0, 1), (60, .getfield 98, 3), (63, .iload_n 3, 1), (64, .iaload, 1), (65, .if_icmp .ne 7, 3), (68, .iconst 1, 1), (69, .goto 4, 3), (72, .iconst 0, 1), (73, .istore_n 2, 1), (74, .iinc 3 1, 3), (77, .goto (-54), 3), (80, .iload_n 2, 1), (81, .ireturn, 1)], [(23, [])])
def M_Mo_fits : ev_Me := (yX11_fits, cX11_fits, 5, (some .int), 11, [(0, .aload_n 0, 1), (1, .iconst 0, 1), (2, .putfield 3, 3), (5, .iconst 0, 1), (6, .istore_n 1, 1), (7, .iconst (-1), 1), (8, .istore_n 2, 1), (9, .sipush 255, 3), (12, .istore_n 3, 1), (13, .iconst 0, 1), (14, .istore 4, 2), (16, .iload 4, 2), (18, .sipush 256, 3), (21, .if_icmp .ge 42, 3), (24, .aload_n 0, 1), (25, .iload 4, 2), (27, .invokevirtual 393, 3), (30, .ifCond .eq 27, 3), (33, .iinc 1 1, 3), (36, .iload 4, 2), (38, .iload_n 2, 1), (39, .invokestatic 377, 3), (42, .ifCond .eq 8, 3), (45, .iload 4, 2), (47, .goto 4, 3), (50, .iload_n 2, 1), (51, .istore_n 2, 1), (52, .iload_n 3, 1), (53, .iload 4, 2), (55, .iand, 1), (56, .istore_n 3, 1), (57, .iinc 4 1, 3), (60, .goto (-44), 3), (63, .aload_n 0, 1), (64, .iconst 0, 1), (65, .putfield 15, 3), (68, .iload_n 1, 1), (69, .ifCond .le 15, 3), (72, .aload_n 0, 1), (73, .iload_n 2, 1), (74, .i2l, 1), (75, .invokevirtual 18, 3), (78, .aload_n 0, 1), (79, .iload_n 3, 1), (80, .i2l, 1), (81, .invokevirtual 18, 3), (84, .iload_n 1, 1), (85, .ireturn, 1)], [(16, []), (51, [2])])
def M_Mo_next : ev_Me := (yX11_next, cX11_next, 7, (some .int), 11, [(0, .aload_n 0, 1), (1, .iconst 0, 1), (2, .putfield 3, 3), (5, .iconst 0, 1), (6, .istore_n 1, 1), (7, .iconst 0, 1), (8, .istore_n 2, 1), (9, .iload_n 2, 1), (10, .sipush 256, 3), (13, .if_icmp .ge 32, 3), (16, .aload_n 0, 1), (17, .getfield 101, 3), (20, .iload_n 2, 1), (21, .aload_n 0, 1), (22, .iload_n 2, 1), (23, .invokevirtual 393, 3), (26, .bastore, 1), (27, .iload_n 1, 1), (28, .aload_n 0, 1), (29, .getfield 101, 3), (32, .iload_n 2, 1), (33, .baload, 1), (34, .invokestatic 146, 3), (37, .iadd, 1), (38, .istore_n 1, 1), (39, .iinc 2 1, 3), (42, .goto (-33), 3), (45, .ldc_w 368, 3), (48, .istore_n 2, 1), (49, .iconst 0, 1), (50, .istore_n 3, 1), (51, .iload_n 3, 1), (52, .aload_n 0, 1), (53, .getfield 129, 3), (56, .if_icmp .ge 130, 3), (59, .iload_n 1, 1), (60, .ifCond .le 126, 3), (63, .iload_n 3, 1), (64, .iconst 1, 1), (65, .iadd, 1), (66, .istore 4, 2), (68, .iload 4, 2), (70, .aload_n 0, 1), (71, .getfield 129, 3), (74, .if_icmp .ge 106, 3), (77, .iconst 0, 1), (78, .istore 5, 2), (80, .iconst 0, 1), (81, .istore 6, 2), (83, .iload 6, 2), (85, .sipush 256, 3), (88, .if_icmp .ge 48, 3), (91, .iload 5, 2), (93, .aload_n 0, 1), (94, .getfield 101, 3), (97, .iload 6, 2), (99, .baload, 1), (100, .ifCond .eq 23, 3), (103, .aload_n 0, 1), (104, .aload_n 0, 1), (105, .getfield 35, 3), (108, .iload_n 3, 1), (109, .iload 4, 2), (111, .iload 6, 2), (113, .invokevirtual 273, 3), (116, .ifCond .eq 7, 3), (119, .iconst 1, 1), (120, .goto 4, 3), (123, .iconst 0, 1), (124, .invokestatic 146, 3), (127, .iadd, 1), (128, .istore 5, 2), (130, .iinc 6 1, 3), (133, .goto (-50), 3), (136, .iload 5, 2), (138, .iload_n 1, 1), (139, .iload 5, 2), (141, .isub, 1), (142, .invokestatic 293, 3), (145, .istore 6, 2), (147, .iload 6, 2), (149, .iload_n 2, 1), (150, .if_icmp .ge 24, 3), (153, .iload 6, 2), (155, .istore_n 2, 1), (156, .aload_n 0, 1), (157, .iconst 0, 1), (158, .putfield 15, 3), (161, .aload_n 0, 1), (162, .iload_n 3, 1), (163, .i2l, 1), (164, .invokevirtual 18, 3), (167, .aload_n 0, 1), (168, .iload 4, 2), (170, .i2l, 1), (171, .invokevirtual 18, 3), (174, .iinc 4 1, 3), (177, .goto (-109), 3), (180, .iinc 3 1, 3), (183, .goto (-132), 3), (186, .iload_n 2, 1), (187, .ldc_w 368, 3), (190, .if_icmp .ne 8, 3), (193, .bipush (-2), 2), (195, .goto 4, 3), (198, .iload_n 2, 1), (199, .ireturn, 1)], [(9, [3, 4, 5, 6]), (51, [4, 5, 6]), (68, [5, 6]), (83, []), (124, [5]), (186, [0, 1, 3, 4, 5, 6])])
def M_Mo_cost : ev_Me := (yX11_cost, cX11_cost, 3, (some .int), 11, [(0, .iconst 0, 1), (1, .istore_n 2, 1), (2, .iload_n 2, 1), (3, .aload_n 0, 1), (4, .getfield 35, 3), (7, .bipush 16, 2), (9, .iload_n 1, 1), (10, .iadd, 1), (11, .iaload, 1), (12, .iadd, 1), (13, .bipush 9, 2), (15, .if_icmp .gt 34, 3), (18, .aload_n 0, 1), (19, .aload_n 0, 1), (20, .getfield 35, 3), (23, .iload_n 1, 1), (24, .aload_n 0, 1), (25, .getfield 35, 3), (28, .bipush 16, 2), (30, .iload_n 1, 1), (31, .iadd, 1), (32, .iaload, 1), (33, .iload_n 2, 1), (34, .iadd, 1), (35, .invokevirtual 265, 3), (38, .ifCond .gt 5, 3), (41, .iload_n 2, 1), (42, .ireturn, 1), (43, .iinc 2 1, 3), (46, .goto (-44), 3), (49, .ldc_w 368, 3), (52, .ireturn, 1)], [(2, [])])
def M_Mo_calms : ev_Me := (yX11_calms, cX11_calms, 4, (some .int), 11, [(0, .aload_n 0, 1), (1, .iconst 0, 1), (2, .putfield 3, 3), (5, .aload_n 0, 1), (6, .aload_n 0, 1), (7, .getfield 35, 3), (10, .invokevirtual 302, 3), (13, .istore_n 1, 1), (14, .iconst 0, 1), (15, .istore_n 2, 1), (16, .iconst 0, 1), (17, .istore_n 3, 1), (18, .iload_n 3, 1), (19, .bipush 8, 2), (21, .if_icmp .ge 41, 3), (24, .aload_n 0, 1), (25, .getfield 105, 3), (28, .iload_n 3, 1), (29, .iload_n 1, 1), (30, .iload_n 3, 1), (31, .invokestatic 142, 3), (34, .ifCond .eq 11, 3), (37, .aload_n 0, 1), (38, .iload_n 3, 1), (39, .invokevirtual 396, 3), (42, .goto 4, 3), (45, .iconst 0, 1), (46, .iastore, 1), (47, .iload_n 2, 1), (48, .aload_n 0, 1), (49, .getfield 105, 3), (52, .iload_n 3, 1), (53, .iaload, 1), (54, .iadd, 1), (55, .istore_n 2, 1), (56, .iinc 3 1, 3), (59, .goto (-41), 3), (62, .iload_n 2, 1), (63, .ldc_w 368, 3), (66, .if_icmp .lt 6, 3), (69, .bipush (-2), 2), (71, .ireturn, 1), (72, .aload_n 0, 1), (73, .iconst 0, 1), (74, .putfield 15, 3), (77, .iconst 0, 1), (78, .istore_n 3, 1), (79, .iload_n 3, 1), (80, .bipush 8, 2), (82, .if_icmp .ge 20, 3), (85, .aload_n 0, 1), (86, .aload_n 0, 1), (87, .getfield 105, 3), (90, .iload_n 3, 1), (91, .iaload, 1), (92, .i2l, 1), (93, .invokevirtual 18, 3), (96, .iinc 3 1, 3), (99, .goto (-20), 3), (102, .iload_n 2, 1), (103, .ireturn, 1)], [(18, []), (46, []), (79, [1])])
def M_Mo_buys : ev_Me := (yX11_buys, cX11_buys, 8, (some .int), 11, [(0, .aload_n 0, 1), (1, .iconst 0, 1), (2, .putfield 3, 3), (5, .iload_n 1, 1), (6, .i2l, 1), (7, .lconst 0, 1), (8, .ldc2_w 369, 3), (11, .invokestatic 132, 3), (14, .ifCond .ne 5, 3), (17, .iconst (-1), 1), (18, .ireturn, 1), (19, .aload_n 0, 1), (20, .aload_n 0, 1), (21, .getfield 35, 3), (24, .invokevirtual 306, 3), (27, .istore_n 2, 1), (28, .iconst 0, 1), (29, .istore_n 3, 1), (30, .iload_n 3, 1), (31, .bipush 8, 2), (33, .if_icmp .ge 32, 3), (36, .aload_n 0, 1), (37, .getfield 105, 3), (40, .iload_n 3, 1), (41, .iload_n 2, 1), (42, .iload_n 3, 1), (43, .invokestatic 142, 3), (46, .ifCond .eq 11, 3), (49, .aload_n 0, 1), (50, .iload_n 3, 1), (51, .invokevirtual 396, 3), (54, .goto 4, 3), (57, .iconst 0, 1), (58, .iastore, 1), (59, .iinc 3 1, 3), (62, .goto (-32), 3), (65, .iconst 0, 1), (66, .istore_n 3, 1), (67, .iconst 0, 1), (68, .istore 4, 2), (70, .iconst 0, 1), (71, .istore 5, 2), (73, .iload 5, 2), (75, .iload_n 2, 1), (76, .if_icmp .gt 105, 3), (79, .iconst 0, 1), (80, .istore 6, 2), (82, .iconst 0, 1), (83, .istore 7, 2), (85, .iload 7, 2), (87, .bipush 8, 2), (89, .if_icmp .ge 35, 3), (92, .iload 6, 2), (94, .iload 5, 2), (96, .iload 7, 2), (98, .invokestatic 142, 3), (101, .ifCond .eq 13, 3), (104, .aload_n 0, 1), (105, .getfield 105, 3), (108, .iload 7, 2), (110, .iaload, 1), (111, .goto 4, 3), (114, .iconst 0, 1), (115, .iadd, 1), (116, .istore 6, 2), (118, .iinc 7 1, 3), (121, .goto (-36), 3), (124, .iload 5, 2), (126, .invokestatic 199, 3), (129, .iload_n 3, 1), (130, .invokestatic 199, 3), (133, .isub, 1), (134, .istore 7, 2), (136, .iload 5, 2), (138, .iload_n 2, 1), (139, .iconst (-1), 1), (140, .ixor, 1), (141, .iand, 1), (142, .ifCond .ne 33, 3), (145, .iload 6, 2), (147, .iload_n 1, 1), (148, .if_icmp .gt 27, 3), (151, .iload 7, 2), (153, .ifCond .gt 15, 3), (156, .iload 7, 2), (158, .ifCond .ne 17, 3), (161, .iload 6, 2), (163, .iload 4, 2), (165, .if_icmp .ge 10, 3), (168, .iload 5, 2), (170, .istore_n 3, 1), (171, .iload 6, 2), (173, .istore 4, 2), (175, .iinc 5 1, 3), (178, .goto (-105), 3), (181, .aload_n 0, 1), (182, .iconst 0, 1), (183, .putfield 15, 3), (186, .aload_n 0, 1), (187, .iload_n 3, 1), (188, .i2l, 1), (189, .invokevirtual 18, 3), (192, .aload_n 0, 1), (193, .iload_n 1, 1), (194, .iload 4, 2), (196, .isub, 1), (197, .i2l, 1), (198, .invokevirtual 18, 3), (201, .iload_n 3, 1), (202, .invokestatic 199, 3), (205, .ireturn, 1)], [(30, [4, 5, 6, 7]), (73, [6, 7]), (85, [])])
def M_Mo_tips : ev_Me := (yX11_tips, cX11_tips, 7, (some .int), 11, [(0, .iconst 0, 1), (1, .istore_n 2, 1), (2, .iconst 0, 1), (3, .istore_n 3, 1), (4, .iconst 0, 1), (5, .istore 4, 2), (7, .iload 4, 2), (9, .bipush 8, 2), (11, .if_icmp .ge 19, 3), (14, .iload_n 2, 1), (15, .aload_n 0, 1), (16, .getfield 108, 3), (19, .iload 4, 2), (21, .iaload, 1), (22, .iadd, 1), (23, .istore_n 2, 1), (24, .iinc 4 1, 3), (27, .goto (-20), 3), (30, .iconst 0, 1), (31, .istore 4, 2), (33, .iload 4, 2), (35, .sipush 256, 3), (38, .if_icmp .ge 97, 3), (41, .iconst 0, 1), (42, .istore 5, 2), (44, .iconst 0, 1), (45, .istore 6, 2), (47, .iload 6, 2), (49, .bipush 8, 2), (51, .if_icmp .ge 35, 3), (54, .iload 5, 2), (56, .iload 4, 2), (58, .iload 6, 2), (60, .invokestatic 142, 3), (63, .ifCond .eq 13, 3), (66, .aload_n 0, 1), (67, .getfield 108, 3), (70, .iload 6, 2), (72, .iaload, 1), (73, .goto 4, 3), (76, .iconst 0, 1), (77, .iadd, 1), (78, .istore 5, 2), (80, .iinc 6 1, 3), (83, .goto (-36), 3), (86, .iload_n 3, 1), (87, .iload 4, 2), (89, .iload_n 1, 1), (90, .invokestatic 142, 3), (93, .ifCond .ne 30, 3), (96, .iconst 2, 1), (97, .iload 5, 2), (99, .imul, 1), (100, .iload_n 2, 1), (101, .if_icmp .gt 22, 3), (104, .iconst 2, 1), (105, .iload 5, 2), (107, .aload_n 0, 1), (108, .getfield 108, 3), (111, .iload_n 1, 1), (112, .iaload, 1), (113, .iadd, 1), (114, .imul, 1), (115, .iload_n 2, 1), (116, .if_icmp .le 7, 3), (119, .iconst 1, 1), (120, .goto 4, 3), (123, .iconst 0, 1), (124, .invokestatic 146, 3), (127, .iadd, 1), (128, .istore_n 3, 1), (129, .iinc 4 1, 3), (132, .goto (-99), 3), (135, .iload_n 3, 1), (136, .ireturn, 1)], [(7, [5, 6]), (33, [5, 6]), (47, []), (124, [3, 5, 6])])
def M_Mo_power : ev_Me := (yX11_power, cX11_power, 4, (some .int), 11, [(0, .aload_n 0, 1), (1, .iconst 0, 1), (2, .putfield 3, 3), (5, .iload_n 1, 1), (6, .invokestatic 282, 3), (9, .ifCond .ne 5, 3), (12, .iconst (-1), 1), (13, .ireturn, 1), (14, .iconst 0, 1), (15, .istore_n 2, 1), (16, .iload_n 2, 1), (17, .bipush 8, 2), (19, .if_icmp .ge 25, 3), (22, .aload_n 0, 1), (23, .getfield 108, 3), (26, .iload_n 2, 1), (27, .aload_n 0, 1), (28, .aload_n 0, 1), (29, .getfield 35, 3), (32, .iload_n 2, 1), (33, .iconst 1, 1), (34, .invokevirtual 150, 3), (37, .iastore, 1), (38, .iinc 2 1, 3), (41, .goto (-25), 3), (44, .iconst 0, 1), (45, .istore_n 2, 1), (46, .iconst 0, 1), (47, .istore_n 3, 1), (48, .iload_n 3, 1), (49, .bipush 8, 2), (51, .if_icmp .ge 17, 3), (54, .iload_n 2, 1), (55, .aload_n 0, 1), (56, .iload_n 3, 1), (57, .invokevirtual 399, 3), (60, .iadd, 1), (61, .istore_n 2, 1), (62, .iinc 3 1, 3), (65, .goto (-17), 3), (68, .aload_n 0, 1), (69, .aload_n 0, 1), (70, .iload_n 1, 1), (71, .invokevirtual 399, 3), (74, .i2l, 1), (75, .iconst 1, 1), (76, .iload_n 2, 1), (77, .invokestatic 293, 3), (80, .i2l, 1), (81, .invokevirtual 402, 3), (84, .aload_n 0, 1), (85, .iload_n 1, 1), (86, .invokevirtual 399, 3), (89, .ireturn, 1)], [(16, [3]), (48, [])])
def M_Mo_misread : ev_Me := (yX11_misread, cX11_misread, 10, (some .int), 11, [(0, .aload_n 0, 1), (1, .iconst 0, 1), (2, .putfield 3, 3), (5, .aload_n 0, 1), (6, .iload_n 1, 1), (7, .iload_n 2, 1), (8, .invokevirtual 357, 3), (11, .ifCond .eq 15, 3), (14, .iload_n 3, 1), (15, .i2l, 1), (16, .lconst 0, 1), (17, .ldc2_w 406, 3), (20, .invokestatic 132, 3), (23, .ifCond .ne 5, 3), (26, .iconst (-1), 1), (27, .ireturn, 1), (28, .lconst 0, 1), (29, .lstore 4, 2), (31, .iconst 0, 1), (32, .istore 6, 2), (34, .iload 6, 2), (36, .sipush 256, 3), (39, .if_icmp .ge 75, 3), (42, .aload_n 0, 1), (43, .aload_n 0, 1), (44, .getfield 35, 3), (47, .iload_n 1, 1), (48, .iload_n 2, 1), (49, .iload 6, 2), (51, .invokevirtual 273, 3), (54, .invokestatic 146, 3), (57, .i2l, 1), (58, .lstore 7, 2), (60, .iconst 0, 1), (61, .istore 9, 2), (63, .iload 9, 2), (65, .bipush 8, 2), (67, .if_icmp .ge 34, 3), (70, .lload 7, 2), (72, .iload 6, 2), (74, .iload 9, 2), (76, .invokestatic 142, 3), (79, .ifCond .eq 8, 3), (82, .iload_n 3, 1), (83, .i2l, 1), (84, .goto 8, 3), (87, .bipush 10, 2), (89, .iload_n 3, 1), (90, .isub, 1), (91, .i2l, 1), (92, .lmul, 1), (93, .lstore 7, 2), (95, .iinc 9 1, 3), (98, .goto (-35), 3), (101, .lload 4, 2), (103, .lload 7, 2), (105, .ladd, 1), (106, .lstore 4, 2), (108, .iinc 6 1, 3), (111, .goto (-77), 3), (114, .aload_n 0, 1), (115, .lload 4, 2), (117, .ldc2_w 408, 3), (120, .invokevirtual 402, 3), (123, .iconst 0, 1), (124, .ireturn, 1)], [(34, [5, 7, 8, 9]), (63, [5, 8])])
def M_Mo_game : ev_Me := (yX11_game, cX11_game, 5, (some .int), 11, [(0, .aload_n 0, 1), (1, .iconst 0, 1), (2, .putfield 3, 3), (5, .iload_n 1, 1), (6, .i2l, 1), (7, .lconst 0, 1), (8, .ldc2_w 316, 3), (11, .invokestatic 132, 3), (14, .ifCond .eq 31, 3), (17, .iload_n 2, 1), (18, .i2l, 1), (19, .ldc2_w 410, 3), (22, .ldc2_w 312, 3), (25, .invokestatic 132, 3), (28, .ifCond .eq 17, 3), (31, .iload_n 3, 1), (32, .i2l, 1), (33, .ldc2_w 410, 3), (36, .ldc2_w 312, 3), (39, .invokestatic 132, 3), (42, .ifCond .ne 5, 3), (45, .iconst (-1), 1), (46, .ireturn, 1), (47, .iload_n 1, 1), (48, .ifCond .ne 6, 3), (51, .bipush (-2), 2), (53, .ireturn, 1), (54, .aload_n 0, 1), (55, .getfield 111, 3), (58, .iconst 0, 1), (59, .iconst 1, 1), (60, .bastore, 1), (61, .aload_n 0, 1), (62, .getfield 114, 3), (65, .iconst 0, 1), (66, .iconst 1, 1), (67, .bastore, 1), (68, .iconst 1, 1), (69, .istore 4, 2), (71, .iload 4, 2), (73, .iload_n 1, 1), (74, .if_icmp .gt 93, 3), (77, .aload_n 0, 1), (78, .getfield 111, 3), (81, .iload 4, 2), (83, .aload_n 0, 1), (84, .getfield 114, 3), (87, .iload 4, 2), (89, .iconst 1, 1), (90, .isub, 1), (91, .baload, 1), (92, .ifCond .eq 21, 3), (95, .iload 4, 2), (97, .iload_n 2, 1), (98, .if_icmp .lt 19, 3), (101, .aload_n 0, 1), (102, .getfield 114, 3), (105, .iload 4, 2), (107, .iload_n 2, 1), (108, .isub, 1), (109, .baload, 1), (110, .ifCond .ne 7, 3), (113, .iconst 1, 1), (114, .goto 4, 3), (117, .iconst 0, 1), (118, .bastore, 1), (119, .aload_n 0, 1), (120, .getfield 114, 3), (123, .iload 4, 2), (125, .aload_n 0, 1), (126, .getfield 111, 3), (129, .iload 4, 2), (131, .iconst 1, 1), (132, .isub, 1), (133, .baload, 1), (134, .ifCond .eq 21, 3), (137, .iload 4, 2), (139, .iload_n 3, 1), (140, .if_icmp .lt 19, 3), (143, .aload_n 0, 1), (144, .getfield 111, 3), (147, .iload 4, 2), (149, .iload_n 3, 1), (150, .isub, 1), (151, .baload, 1), (152, .ifCond .ne 7, 3), (155, .iconst 1, 1), (156, .goto 4, 3), (159, .iconst 0, 1), (160, .bastore, 1), (161, .iinc 4 1, 3), (164, .goto (-93), 3), (167, .aload_n 0, 1), (168, .getfield 114, 3), (171, .iload_n 1, 1), (172, .iconst 1, 1), (173, .isub, 1), (174, .baload, 1), (175, .ifCond .ne 5, 3), (178, .iconst 1, 1), (179, .ireturn, 1), (180, .iload_n 1, 1), (181, .iload_n 2, 1), (182, .if_icmp .lt 18, 3), (185, .aload_n 0, 1), (186, .getfield 114, 3), (189, .iload_n 1, 1), (190, .iload_n 2, 1), (191, .isub, 1), (192, .baload, 1), (193, .ifCond .ne 7, 3), (196, .iload_n 2, 1), (197, .goto 4, 3), (200, .iconst 0, 1), (201, .ireturn, 1)], [(71, []), (118, [])])
def M_Mo_law : ev_Me := (yX11_law, cX11_law, 6, (some .int), 11, [(0, .aload_n 0, 1), (1, .iconst 0, 1), (2, .putfield 3, 3), (5, .aload_n 0, 1), (6, .invokevirtual 251, 3), (9, .istore_n 1, 1), (10, .iload_n 1, 1), (11, .ifCond .ge 11, 3), (14, .iload_n 1, 1), (15, .iconst 1, 1), (16, .iadd, 1), (17, .sipush 10000, 3), (20, .isub, 1), (21, .ireturn, 1), (22, .aload_n 0, 1), (23, .aload_n 0, 1), (24, .getfield 35, 3), (27, .invokevirtual 306, 3), (30, .istore_n 2, 1), (31, .aload_n 0, 1), (32, .getfield 248, 3), (35, .istore_n 3, 1), (36, .iconst 0, 1), (37, .istore 4, 2), (39, .iload 4, 2), (41, .aload_n 0, 1), (42, .getfield 248, 3), (45, .if_icmp .ge 23, 3), (48, .aload_n 0, 1), (49, .getfield 117, 3), (52, .iload 4, 2), (54, .aload_n 0, 1), (55, .getfield 53, 3), (58, .iload 4, 2), (60, .iaload, 1), (61, .iastore, 1), (62, .iinc 4 1, 3), (65, .goto (-26), 3), (68, .aload_n 0, 1), (69, .aload_n 0, 1), (70, .getfield 56, 3), (73, .aload_n 0, 1), (74, .getfield 224, 3), (77, .invokevirtual 254, 3), (80, .aload_n 0, 1), (81, .aload_n 0, 1), (82, .getfield 35, 3), (85, .invokevirtual 306, 3), (88, .istore 4, 2), (90, .aload_n 0, 1), (91, .iconst 0, 1), (92, .putfield 15, 3), (95, .aload_n 0, 1), (96, .iload_n 2, 1), (97, .i2l, 1), (98, .invokevirtual 18, 3), (101, .iconst 0, 1), (102, .istore 5, 2), (104, .iload 5, 2), (106, .bipush 8, 2), (108, .if_icmp .ge 24, 3), (111, .aload_n 0, 1), (112, .aload_n 0, 1), (113, .aload_n 0, 1), (114, .getfield 35, 3), (117, .iload 5, 2), (119, .invokevirtual 287, 3), (122, .i2l, 1), (123, .invokevirtual 18, 3), (126, .iinc 5 1, 3), (129, .goto (-25), 3), (132, .aload_n 0, 1), (133, .aload_n 0, 1), (134, .getfield 117, 3), (137, .iload_n 3, 1), (138, .invokevirtual 254, 3), (141, .iload 4, 2), (143, .ireturn, 1)], [(39, [1, 5]), (104, [1, 2])])
def M_Mo_gets : ev_Me := (yX11_gets, cX11_gets, 4, (some .int), 11, [(0, .iload_n 0, 1), (1, .iload_n 1, 1), (2, .if_icmp .le 7, 3), (5, .iload_n 2, 1), (6, .goto 17, 3), (9, .iload_n 0, 1), (10, .iload_n 1, 1), (11, .if_icmp .ne 9, 3), (14, .iload_n 2, 1), (15, .iconst 2, 1), (16, .idiv, 1), (17, .goto 6, 3), (20, .iload_n 2, 1), (21, .iconst 3, 1), (22, .idiv, 1), (23, .istore_n 3, 1), (24, .iload_n 3, 1), (25, .iload_n 0, 1), (26, .isub, 1), (27, .iconst 0, 1), (28, .iload_n 0, 1), (29, .iconst 5, 1), (30, .isub, 1), (31, .invokestatic 293, 3), (34, .isub, 1), (35, .ireturn, 1)], [(23, [1, 2, 3])])
def M_Mo_isRest : ev_Me := (yX11_isRest, cX11_isRest, 5, (some .boolean), 11, [(0, .iconst 1, 1), (1, .istore_n 3, 1), (2, .iconst 0, 1), (3, .istore 4, 2), (5, .iload 4, 2), (7, .bipush 9, 2), (9, .if_icmp .gt 35, 3), (12, .iload_n 3, 1), (13, .ifCond .eq 23, 3), (16, .iload 4, 2), (18, .iload_n 1, 1), (19, .iload_n 2, 1), (20, .invokestatic 412, 3), (23, .iload_n 0, 1), (24, .iload_n 1, 1), (25, .iload_n 2, 1), (26, .invokestatic 412, 3), (29, .if_icmp .gt 7, 3), (32, .iconst 1, 1), (33, .goto 4, 3), (36, .iconst 0, 1), (37, .istore_n 3, 1), (38, .iinc 4 1, 3), (41, .goto (-36), 3), (44, .iload_n 3, 1), (45, .ireturn, 1)], [(5, [])])
def M_Mo_rests : ev_Me := (yX11_rests, cX11_rests, 5, (some .int), 11, [(0, .aload_n 0, 1), (1, .iconst 0, 1), (2, .putfield 3, 3), (5, .iload_n 1, 1), (6, .i2l, 1), (7, .lconst 0, 1), (8, .ldc2_w 415, 3), (11, .invokestatic 132, 3), (14, .ifCond .ne 5, 3), (17, .iconst (-1), 1), (18, .ireturn, 1), (19, .iconst 0, 1), (20, .istore_n 2, 1), (21, .aload_n 0, 1), (22, .iconst 0, 1), (23, .putfield 15, 3), (26, .iconst 0, 1), (27, .istore_n 3, 1), (28, .iload_n 3, 1), (29, .bipush 9, 2), (31, .if_icmp .gt 65, 3), (34, .iconst 0, 1), (35, .istore 4, 2), (37, .iload 4, 2), (39, .bipush 9, 2), (41, .if_icmp .gt 49, 3), (44, .iload_n 3, 1), (45, .iload 4, 2), (47, .iload_n 1, 1), (48, .invokestatic 417, 3), (51, .ifCond .eq 33, 3), (54, .iload 4, 2), (56, .iload_n 3, 1), (57, .iload_n 1, 1), (58, .invokestatic 417, 3), (61, .ifCond .eq 23, 3), (64, .iload_n 2, 1), (65, .ifCond .ne 16, 3), (68, .aload_n 0, 1), (69, .iload_n 3, 1), (70, .i2l, 1), (71, .invokevirtual 18, 3), (74, .aload_n 0, 1), (75, .iload 4, 2), (77, .i2l, 1), (78, .invokevirtual 18, 3), (81, .iinc 2 1, 3), (84, .iinc 4 1, 3), (87, .goto (-50), 3), (90, .iinc 3 1, 3), (93, .goto (-65), 3), (96, .iload_n 2, 1), (97, .ireturn, 1)], [(28, [4]), (37, [])])
def M_Mo_draws : ev_Me := (yX11_draws, cX11_draws, 2, (some .int), 11, [(0, .aload_n 0, 1), (1, .aload_n 0, 1), (2, .getfield 421, 3), (5, .ldc_w 424, 3), (8, .imul, 1), (9, .sipush 12345, 3), (12, .iadd, 1), (13, .putfield 421, 3), (16, .aload_n 0, 1), (17, .getfield 421, 3), (20, .bipush 16, 2), (22, .iushr, 1), (23, .iload_n 1, 1), (24, .irem, 1), (25, .ireturn, 1)], [])
def M_Mo_years : ev_Me := (yX11_years, cX11_years, 7, (some .int), 11, [(0, .aload_n 0, 1), (1, .iconst 0, 1), (2, .putfield 3, 3), (5, .iload_n 2, 1), (6, .i2l, 1), (7, .lconst 1, 1), (8, .ldc2_w 316, 3), (11, .invokestatic 132, 3), (14, .ifCond .ne 5, 3), (17, .iconst (-1), 1), (18, .ireturn, 1), (19, .aload_n 0, 1), (20, .iload_n 1, 1), (21, .putfield 421, 3), (24, .aload_n 0, 1), (25, .invokevirtual 371, 3), (28, .iconst 0, 1), (29, .istore_n 3, 1), (30, .iconst 0, 1), (31, .istore 4, 2), (33, .iload 4, 2), (35, .iload_n 2, 1), (36, .if_icmp .ge 109, 3), (39, .aload_n 0, 1), (40, .iconst 4, 1), (41, .invokevirtual 425, 3), (44, .istore 5, 2), (46, .iload 5, 2), (48, .iconst 2, 1), (49, .if_icmp .ge 17, 3), (52, .iload_n 3, 1), (53, .aload_n 0, 1), (54, .aload_n 0, 1), (55, .getfield 38, 3), (58, .invokevirtual 321, 3), (61, .iadd, 1), (62, .istore_n 3, 1), (63, .goto 76, 3), (66, .iload 5, 2), (68, .iconst 2, 1), (69, .if_icmp .ne 31, 3), (72, .aload_n 0, 1), (73, .bipush 8, 2), (75, .invokevirtual 425, 3), (78, .istore 6, 2), (80, .aload_n 0, 1), (81, .aload_n 0, 1), (82, .getfield 38, 3), (85, .iload 6, 2), (87, .aload_n 0, 1), (88, .bipush 10, 2), (90, .invokevirtual 425, 3), (93, .invokevirtual 324, 3), (96, .pop, 1), (97, .goto 42, 3), (100, .aload_n 0, 1), (101, .getfield 129, 3), (104, .ifCond .le 35, 3), (107, .aload_n 0, 1), (108, .aload_n 0, 1), (109, .getfield 129, 3), (112, .invokevirtual 425, 3), (115, .istore 6, 2), (117, .aload_n 0, 1), (118, .aload_n 0, 1), (119, .getfield 38, 3), (122, .iload 6, 2), (124, .aload_n 0, 1), (125, .aload_n 0, 1), (126, .getfield 32, 3), (129, .iload 6, 2), (131, .iaload, 1), (132, .invokevirtual 425, 3), (135, .invokevirtual 333, 3), (138, .pop, 1), (139, .iinc 4 1, 3), (142, .goto (-109), 3), (145, .aload_n 0, 1), (146, .iconst 0, 1), (147, .putfield 15, 3), (150, .aload_n 0, 1), (151, .aload_n 0, 1), (152, .getfield 38, 3), (155, .bipush 24, 2), (157, .iaload, 1), (158, .i2l, 1), (159, .invokevirtual 18, 3), (162, .aload_n 0, 1), (163, .aload_n 0, 1), (164, .getfield 38, 3), (167, .bipush 8, 2), (169, .invokestatic 296, 3), (172, .i2l, 1), (173, .invokevirtual 18, 3), (176, .iload_n 3, 1), (177, .ireturn, 1)], [(33, [1, 5, 6])])
def M_Mo_keep : ev_Me := (yX11_keep, cX11_keep, 3, (some .boolean), 11, [(0, .aload_n 0, 1), (1, .iconst 0, 1), (2, .putfield 3, 3), (5, .iload_n 1, 1), (6, .i2l, 1), (7, .lconst 0, 1), (8, .ldc2_w 410, 3), (11, .invokestatic 132, 3), (14, .ifCond .ne 5, 3), (17, .iconst 0, 1), (18, .ireturn, 1), (19, .aload_n 0, 1), (20, .getfield 120, 3), (23, .iload_n 1, 1), (24, .iconst 1, 1), (25, .bastore, 1), (26, .aload_n 0, 1), (27, .getfield 123, 3), (30, .iload_n 1, 1), (31, .aload_n 0, 1), (32, .getfield 221, 3), (35, .iastore, 1), (36, .iconst 0, 1), (37, .istore_n 2, 1), (38, .iload_n 2, 1), (39, .bipush 27, 2), (41, .if_icmp .ge 26, 3), (44, .aload_n 0, 1), (45, .getfield 126, 3), (48, .bipush 27, 2), (50, .iload_n 1, 1), (51, .imul, 1), (52, .iload_n 2, 1), (53, .iadd, 1), (54, .aload_n 0, 1), (55, .getfield 35, 3), (58, .iload_n 2, 1), (59, .iaload, 1), (60, .iastore, 1), (61, .iinc 2 1, 3), (64, .goto (-26), 3), (67, .iconst 1, 1), (68, .ireturn, 1)], [(38, [])])
def M_Mo_again : ev_Me := (yX11_again, cX11_again, 3, (some .boolean), 11, [(0, .aload_n 0, 1), (1, .iconst 0, 1), (2, .putfield 3, 3), (5, .iload_n 1, 1), (6, .i2l, 1), (7, .lconst 0, 1), (8, .ldc2_w 410, 3), (11, .invokestatic 132, 3), (14, .ifCond .eq 25, 3), (17, .aload_n 0, 1), (18, .getfield 120, 3), (21, .iload_n 1, 1), (22, .baload, 1), (23, .ifCond .eq 16, 3), (26, .aload_n 0, 1), (27, .getfield 123, 3), (30, .iload_n 1, 1), (31, .iaload, 1), (32, .aload_n 0, 1), (33, .getfield 221, 3), (36, .if_icmp .eq 5, 3), (39, .iconst 0, 1), (40, .ireturn, 1), (41, .iconst 0, 1), (42, .istore_n 2, 1), (43, .iload_n 2, 1), (44, .bipush 27, 2), (46, .if_icmp .ge 26, 3), (49, .aload_n 0, 1), (50, .getfield 35, 3), (53, .iload_n 2, 1), (54, .aload_n 0, 1), (55, .getfield 126, 3), (58, .bipush 27, 2), (60, .iload_n 1, 1), (61, .imul, 1), (62, .iload_n 2, 1), (63, .iadd, 1), (64, .iaload, 1), (65, .iastore, 1), (66, .iinc 2 1, 3), (69, .goto (-26), 3), (72, .aload_n 0, 1), (73, .iconst 0, 1), (74, .putfield 218, 3), (77, .iconst 1, 1), (78, .ireturn, 1)], [(43, [])])
def M_Mo_allSigns : ev_Me := (yX11_allSigns, cX11_allSigns, 4, (some .int), 11, [(0, .iconst 0, 1), (1, .istore_n 2, 1), (2, .iconst 0, 1), (3, .istore_n 3, 1), (4, .iload_n 3, 1), (5, .bipush 8, 2), (7, .if_icmp .ge 22, 3), (10, .iload_n 2, 1), (11, .aload_n 0, 1), (12, .aload_n 0, 1), (13, .getfield 35, 3), (16, .iload_n 3, 1), (17, .iload_n 1, 1), (18, .invokevirtual 150, 3), (21, .iadd, 1), (22, .istore_n 2, 1), (23, .iinc 3 1, 3), (26, .goto (-22), 3), (29, .iload_n 2, 1), (30, .ireturn, 1)], [(4, [])])
def M_Mo_count : ev_Me := (yX11_count, cX11_count, 2, (some .int), 11, [(0, .aload_n 0, 1), (1, .iconst 0, 1), (2, .putfield 3, 3), (5, .iload_n 1, 1), (6, .tableswitch 143 0 11 #[62, 67, 75, 83, 91, 101, 111, 117, 123, 128, 133, 138], 62), (68, .aload_n 0, 1), (69, .getfield 129, 3), (72, .ireturn, 1), (73, .aload_n 0, 1), (74, .getfield 35, 3), (77, .bipush 25, 2), (79, .iaload, 1), (80, .ireturn, 1), (81, .aload_n 0, 1), (82, .getfield 35, 3), (85, .bipush 24, 2), (87, .iaload, 1), (88, .ireturn, 1), (89, .aload_n 0, 1), (90, .getfield 35, 3), (93, .bipush 26, 2), (95, .iaload, 1), (96, .ireturn, 1), (97, .aload_n 0, 1), (98, .getfield 35, 3), (101, .bipush 8, 2), (103, .invokestatic 296, 3), (106, .ireturn, 1), (107, .aload_n 0, 1), (108, .getfield 35, 3), (111, .bipush 16, 2), (113, .invokestatic 296, 3), (116, .ireturn, 1), (117, .aload_n 0, 1), (118, .iconst 1, 1), (119, .invokevirtual 428, 3), (122, .ireturn, 1), (123, .aload_n 0, 1), (124, .iconst 0, 1), (125, .invokevirtual 428, 3), (128, .ireturn, 1), (129, .aload_n 0, 1), (130, .getfield 390, 3), (133, .ireturn, 1), (134, .aload_n 0, 1), (135, .getfield 218, 3), (138, .ireturn, 1), (139, .aload_n 0, 1), (140, .getfield 15, 3), (143, .ireturn, 1), (144, .aload_n 0, 1), (145, .getfield 154, 3), (148, .ireturn, 1), (149, .bipush (-100), 2), (151, .ireturn, 1)], [])
def M_Mo_row : ev_Me := (yX11_row, cX11_row, 2, (some .long), 11, [(0, .aload_n 0, 1), (1, .iconst 0, 1), (2, .putfield 3, 3), (5, .iload_n 1, 1), (6, .i2l, 1), (7, .lconst 0, 1), (8, .aload_n 0, 1), (9, .getfield 15, 3), (12, .iconst 1, 1), (13, .isub, 1), (14, .i2l, 1), (15, .invokestatic 132, 3), (18, .ifCond .ne 10, 3), (21, .aload_n 0, 1), (22, .iconst 1, 1), (23, .putfield 3, 3), (26, .lconst 0, 1), (27, .lreturn, 1), (28, .aload_n 0, 1), (29, .getfield 11, 3), (32, .iload_n 1, 1), (33, .laload, 1), (34, .lreturn, 1)], [])
def M_Int_compare : ev_Me := (yJ6_compare_7cf53, cJ6_compare_7cf53, 2, (some .int), 16, [(0, .iload_n 0, 1), (1, .iload_n 1, 1), (2, .if_icmp .ge 7, 3), (5, .iconst (-1), 1), (6, .goto 13, 3), (9, .iload_n 0, 1), (10, .iload_n 1, 1), (11, .if_icmp .ne 7, 3), (14, .iconst 0, 1), (15, .goto 4, 3), (18, .iconst 1, 1), (19, .ireturn, 1)], [])
def M_Int_bitCount : ev_Me := (yJ6_bitCount_0f7a4, cJ6_bitCount_0f7a4, 1, (some .int), 16, [(0, .iload_n 0, 1), (1, .iload_n 0, 1), (2, .iconst 1, 1), (3, .iushr, 1), (4, .ldc_w 265, 3), (7, .iand, 1), (8, .isub, 1), (9, .istore_n 0, 1), (10, .iload_n 0, 1), (11, .ldc_w 266, 3), (14, .iand, 1), (15, .iload_n 0, 1), (16, .iconst 2, 1), (17, .iushr, 1), (18, .ldc_w 266, 3), (21, .iand, 1), (22, .iadd, 1), (23, .istore_n 0, 1), (24, .iload_n 0, 1), (25, .iload_n 0, 1), (26, .iconst 4, 1), (27, .iushr, 1), (28, .iadd, 1), (29, .ldc_w 267, 3), (32, .iand, 1), (33, .istore_n 0, 1), (34, .iload_n 0, 1), (35, .iload_n 0, 1), (36, .bipush 8, 2), (38, .iushr, 1), (39, .iadd, 1), (40, .istore_n 0, 1), (41, .iload_n 0, 1), (42, .iload_n 0, 1), (43, .bipush 16, 2), (45, .iushr, 1), (46, .iadd, 1), (47, .istore_n 0, 1), (48, .iload_n 0, 1), (49, .bipush 63, 2), (51, .iand, 1), (52, .ireturn, 1)], [])
def M_Mat_max : ev_Me := (yJ9_max_7cf53, cJ9_max_7cf53, 2, (some .int), 17, [(0, .iload_n 0, 1), (1, .iload_n 1, 1), (2, .if_icmp .lt 7, 3), (5, .iload_n 0, 1), (6, .goto 4, 3), (9, .iload_n 1, 1), (10, .ireturn, 1)], [])
def M_Mat_min : ev_Me := (yJ9_min_7cf53, cJ9_min_7cf53, 2, (some .int), 17, [(0, .iload_n 0, 1), (1, .iload_n 1, 1), (2, .if_icmp .gt 7, 3), (5, .iload_n 0, 1), (6, .goto 4, 3), (9, .iload_n 1, 1), (10, .ireturn, 1)], [])
def M_Str_length : ev_Me := (yJ0_length_8abf5, cJ0_length_8abf5, 1, (some .int), 13, [(0, .aload_n 0, 1), (1, .getfield 9, 3), (4, .arraylength, 1), (5, .aload_n 0, 1), (6, .invokevirtual 335, 3), (9, .ishr, 1), (10, .ireturn, 1)], [])
def M_Str_charAt : ev_Me := (yJ0_charAt_5068e, cJ0_charAt_5068e, 2, (some .char), 13, [(0, .aload_n 0, 1), (1, .invokevirtual 492, 3), (4, .ifCond .eq 12, 3), (7, .aload_n 0, 1), (8, .getfield 9, 3), (11, .iload_n 1, 1), (12, .invokestatic 495, 3), (15, .ireturn, 1), (16, .aload_n 0, 1), (17, .getfield 9, 3), (20, .iload_n 1, 1), (21, .invokestatic 498, 3), (24, .ireturn, 1)], [])
def M_Str_indexOf : ev_Me := (yJ0_indexOf_0f7a4, cJ0_indexOf_0f7a4, 2, (some .int), 13, [(0, .aload_n 0, 1), (1, .iload_n 1, 1), (2, .iconst 0, 1), (3, .invokevirtual 633, 3), (6, .ireturn, 1)], [])
def M_Str_indexOf2 : ev_Me := (yJ0_indexOf_7cf53, cJ0_indexOf_7cf53, 3, (some .int), 13, [(0, .aload_n 0, 1), (1, .invokevirtual 492, 3), (4, .ifCond .eq 19, 3), (7, .aload_n 0, 1), (8, .getfield 9, 3), (11, .iload_n 1, 1), (12, .iload_n 2, 1), (13, .aload_n 0, 1), (14, .invokevirtual 505, 3), (17, .invokestatic 637, 3), (20, .goto 16, 3), (23, .aload_n 0, 1), (24, .getfield 9, 3), (27, .iload_n 1, 1), (28, .iload_n 2, 1), (29, .aload_n 0, 1), (30, .invokevirtual 505, 3), (33, .invokestatic 640, 3), (36, .ireturn, 1)], [])
def M_Str_coder : ev_Me := (yJ0_coder_7d493, cJ0_coder_7d493, 1, (some .byte), 13, [(0, .getstatic 38, 3), (3, .ifCond .eq 10, 3), (6, .aload_n 0, 1), (7, .getfield 15, 3), (10, .goto 4, 3), (13, .iconst 1, 1), (14, .ireturn, 1)], [])
def M_Str_isLatin1 : ev_Me := (yJ0_isLatin1_aae02, cJ0_isLatin1_aae02, 1, (some .boolean), 13, [(0, .getstatic 38, 3), (3, .ifCond .eq 14, 3), (6, .aload_n 0, 1), (7, .getfield 15, 3), (10, .ifCond .ne 7, 3), (13, .iconst 1, 1), (14, .goto 4, 3), (17, .iconst 0, 1), (18, .ireturn, 1)], [])
def M_Str_checkIndex : ev_Me := (yJ0_checkIndex_df160, cJ0_checkIndex_df160, 2, none, 13, [(0, .iload_n 0, 1), (1, .iload_n 1, 1), (2, .getstatic 1053, 3), (5, .invokestatic 1059, 3), (8, .pop, 1), (9, .return_, 1)], [])
def M_Str_checkBoundsBeginEnd : ev_Me := (yJ0_checkBoundsBeginEnd_23922, cJ0_checkBoundsBeginEnd_23922, 3, none, 13, [(0, .iload_n 0, 1), (1, .iload_n 1, 1), (2, .iload_n 2, 1), (3, .getstatic 1053, 3), (6, .invokestatic 1062, 3), (9, .pop, 1), (10, .return_, 1)], [])
def M_Lat_charAt : ev_Me := (yJ1_charAt_3b067, cJ1_charAt_3b067, 2, (some .char), 14, [(0, .iload_n 1, 1), (1, .aload_n 0, 1), (2, .arraylength, 1), (3, .invokestatic 9, 3), (6, .aload_n 0, 1), (7, .iload_n 1, 1), (8, .baload, 1), (9, .sipush 255, 3), (12, .iand, 1), (13, .i2c, 1), (14, .ireturn, 1)], [])
def M_Lat_canEncode : ev_Me := (yJ1_canEncode_9a6ad, cJ1_canEncode_9a6ad, 1, (some .boolean), 14, [(0, .iload_n 0, 1), (1, .ifCond .lt 14, 3), (4, .iload_n 0, 1), (5, .sipush 255, 3), (8, .if_icmp .gt 7, 3), (11, .iconst 1, 1), (12, .goto 4, 3), (15, .iconst 0, 1), (16, .ireturn, 1)], [])
def M_Lat_indexOf : ev_Me := (yJ1_indexOf_4cfef, cJ1_indexOf_4cfef, 4, (some .int), 14, [(0, .iload_n 1, 1), (1, .invokestatic 88, 3), (4, .ifCond .ne 5, 3), (7, .iconst (-1), 1), (8, .ireturn, 1), (9, .iload_n 2, 1), (10, .iconst 0, 1), (11, .invokestatic 92, 3), (14, .istore_n 2, 1), (15, .iload_n 3, 1), (16, .aload_n 0, 1), (17, .arraylength, 1), (18, .invokestatic 38, 3), (21, .istore_n 3, 1), (22, .iload_n 2, 1), (23, .iload_n 3, 1), (24, .if_icmp .lt 5, 3), (27, .iconst (-1), 1), (28, .ireturn, 1), (29, .aload_n 0, 1), (30, .iload_n 1, 1), (31, .iload_n 2, 1), (32, .iload_n 3, 1), (33, .invokestatic 95, 3), (36, .ireturn, 1)], [])
def M_Lat_indexOfChar : ev_Me := (yJ1_indexOfChar_4cfef, cJ1_indexOfChar_4cfef, 6, (some .int), 14, [(0, .iload_n 1, 1), (1, .i2b, 1), (2, .istore 4, 2), (4, .iload_n 2, 1), (5, .istore 5, 2), (7, .iload 5, 2), (9, .iload_n 3, 1), (10, .if_icmp .ge 21, 3), (13, .aload_n 0, 1), (14, .iload 5, 2), (16, .baload, 1), (17, .iload 4, 2), (19, .if_icmp .ne 6, 3), (22, .iload 5, 2), (24, .ireturn, 1), (25, .iinc 5 1, 3), (28, .goto (-21), 3), (31, .iconst (-1), 1), (32, .ireturn, 1)], [(7, [1, 2])])
def M_Arr_fill : ev_Me := (yJ7_fill_53178, cJ7_fill_53178, 4, none, 18, [(0, .iconst 0, 1), (1, .istore_n 2, 1), (2, .aload_n 0, 1), (3, .arraylength, 1), (4, .istore_n 3, 1), (5, .iload_n 2, 1), (6, .iload_n 3, 1), (7, .if_icmp .ge 13, 3), (10, .aload_n 0, 1), (11, .iload_n 2, 1), (12, .iload_n 1, 1), (13, .iastore, 1), (14, .iinc 2 1, 3), (17, .goto (-12), 3), (20, .return_, 1)], [(5, [])])
def M_Pre_checkIndex : ev_Me := (yJ3_checkIndex_8e157, cJ3_checkIndex_8e157, 3, (some .int), 15, [(0, .iload_n 0, 1), (1, .ifCond .lt 8, 3), (4, .iload_n 0, 1), (5, .iload_n 1, 1), (6, .if_icmp .lt 10, 3), (9, .aload_n 2, 1), (10, .iload_n 0, 1), (11, .iload_n 1, 1), (12, .invokestatic 95, 3), (15, .athrow, 1), (16, .iload_n 0, 1), (17, .ireturn, 1)], [(9, [])])
def M_Pre_checkFromToIndex : ev_Me := (yJ3_checkFromToIndex_8c36e, cJ3_checkFromToIndex_8c36e, 4, (some .int), 15, [(0, .iload_n 0, 1), (1, .ifCond .lt 13, 3), (4, .iload_n 0, 1), (5, .iload_n 1, 1), (6, .if_icmp .gt 8, 3), (9, .iload_n 1, 1), (10, .iload_n 2, 1), (11, .if_icmp .le 11, 3), (14, .aload_n 3, 1), (15, .iload_n 0, 1), (16, .iload_n 1, 1), (17, .iload_n 2, 1), (18, .invokestatic 99, 3), (21, .athrow, 1), (22, .iload_n 0, 1), (23, .ireturn, 1)], [(14, [])])
/-- a field: (place in the pool, (class of the world, its place, 0 an int, 1 a truth, 2 a reference, 1 if final)) by the number of the class that asks -/
def ev_fl : Nat → List (Nat × Nat × Nat × Nat × Nat)
  | 0 => [(9, 7, 1, 0, 0)]
  | 1 => [(31, 7, 1, 0, 0), (11, 0, 0, 2, 1), (16, 0, 1, 2, 1), (20, 0, 2, 2, 1), (23, 0, 3, 0, 0), (55, 6, 0, 2, 1)]
  | 2 => [(43, 0, 0, 2, 1), (40, 0, 1, 2, 1), (86, 0, 3, 0, 0), (92, 6, 3, 0, 0), (30, 1, 0, 2, 1), (9, 1, 1, 2, 1), (15, 1, 2, 2, 1), (50, 1, 3, 0, 0), (54, 1, 4, 0, 0), (20, 1, 5, 2, 1), (23, 1, 6, 2, 1), (27, 1, 7, 2, 1)]
  | 3 => [(9, 2, 0, 2, 1), (13, 2, 1, 2, 1), (16, 2, 2, 2, 1), (20, 2, 3, 0, 0)]
  | 4 => [(11, 3, 0, 2, 1), (15, 3, 1, 2, 1), (18, 3, 2, 2, 1), (23, 3, 3, 0, 0), (31, 3, 4, 0, 0)]
  | 5 => [(9, 4, 0, 2, 1), (15, 4, 1, 0, 0)]
  | 6 => [(55, 7, 1, 0, 0), (11, 5, 0, 2, 1), (51, 5, 1, 0, 0), (15, 5, 2, 2, 1), (77, 5, 3, 0, 0), (18, 5, 4, 2, 1), (74, 5, 5, 0, 0), (80, 5, 6, 0, 0), (70, 5, 7, 1, 0)]
  | 7 => [(9, 6, 0, 2, 1), (15, 6, 1, 2, 1), (18, 6, 2, 2, 1), (33, 6, 3, 0, 0), (37, 6, 4, 0, 0), (40, 6, 5, 0, 0)]
  | 8 => [(9, 7, 0, 2, 1), (13, 7, 1, 0, 0)]
  | 9 => [(43, 0, 0, 2, 1), (40, 0, 1, 2, 1), (34, 0, 3, 0, 0), (47, 6, 0, 2, 1), (50, 6, 1, 2, 1), (71, 6, 2, 2, 1), (53, 6, 3, 0, 0), (62, 6, 4, 0, 0), (103, 6, 5, 0, 0), (24, 8, 0, 2, 1), (9, 8, 1, 2, 1), (15, 8, 2, 2, 1), (18, 8, 3, 2, 1), (21, 8, 4, 2, 1), (82, 8, 5, 0, 0), (85, 8, 6, 0, 0)]
  | 10 => [(106, 7, 1, 0, 0), (426, 4, 0, 2, 1), (270, 4, 1, 0, 0), (170, 0, 0, 2, 1), (138, 0, 1, 2, 1), (279, 0, 3, 0, 0), (158, 6, 0, 2, 1), (183, 6, 1, 2, 1), (186, 6, 2, 2, 1), (141, 6, 3, 0, 0), (417, 6, 4, 0, 0), (300, 6, 5, 0, 0), (266, 3, 4, 0, 0), (189, 8, 3, 2, 1), (190, 8, 4, 2, 1), (225, 8, 5, 0, 0), (228, 8, 6, 0, 0), (294, 1, 7, 2, 1), (354, 2, 3, 0, 0), (10, 9, 0, 2, 1), (19, 9, 1, 2, 1), (26, 9, 2, 2, 1), (33, 9, 3, 2, 1), (37, 9, 4, 2, 1), (43, 9, 5, 2, 1), (50, 9, 6, 2, 1), (54, 9, 7, 2, 1), (62, 9, 8, 2, 1), (69, 9, 9, 2, 1), (76, 9, 10, 2, 1), (80, 9, 11, 2, 1), (84, 9, 12, 2, 1), (87, 9, 13, 2, 1), (90, 9, 14, 2, 1), (93, 9, 15, 2, 1), (96, 9, 16, 2, 1), (404, 9, 17, 0, 0)]
  | 11 => [(3, 10, 0, 0, 0), (15, 10, 1, 0, 0), (11, 10, 2, 2, 1), (129, 10, 3, 0, 0), (221, 10, 4, 0, 0), (28, 10, 5, 2, 1), (32, 10, 6, 2, 1), (35, 10, 7, 2, 1), (38, 10, 8, 2, 1), (41, 10, 9, 2, 1), (154, 10, 10, 0, 0), (157, 10, 11, 0, 0), (169, 10, 12, 0, 0), (160, 10, 13, 0, 0), (44, 10, 14, 2, 1), (47, 10, 15, 2, 1), (50, 10, 16, 2, 1), (190, 10, 17, 0, 0), (53, 10, 18, 2, 1), (56, 10, 19, 2, 1), (248, 10, 20, 0, 0), (224, 10, 21, 0, 0), (59, 10, 22, 2, 1), (62, 10, 23, 2, 1), (65, 10, 24, 2, 1), (68, 10, 25, 2, 1), (218, 10, 26, 0, 0), (71, 10, 27, 2, 1), (74, 10, 28, 2, 1), (77, 10, 29, 2, 1), (80, 10, 30, 2, 1), (336, 10, 31, 0, 0), (83, 10, 32, 2, 1), (86, 10, 33, 2, 1), (89, 10, 34, 2, 1), (390, 10, 35, 0, 0), (92, 10, 36, 2, 1), (95, 10, 37, 2, 1), (98, 10, 38, 2, 1), (101, 10, 39, 2, 1), (105, 10, 40, 2, 1), (108, 10, 41, 2, 1), (111, 10, 42, 2, 1), (114, 10, 43, 2, 1), (117, 10, 44, 2, 1), (421, 10, 45, 0, 0), (120, 10, 46, 2, 1), (123, 10, 47, 2, 1), (126, 10, 48, 2, 1)]
  | 13 => [(9, 20, 0, 2, 1), (15, 20, 1, 0, 1)]
  | _ => []
/-- a call: (place in the pool, (kind, how many it takes, the receiver's class, the method)); kinds: 0 virtual, 1 a constructor, 2 static, 3 and 4 these of a nest mate, 6 max, 7 min, 8 Object's constructor, 9 arraycopy -/
def ev_ml : Nat → List (Nat × Nat × Nat × Nat × ev_Me)
  | 0 => [(17, 7, 2, 99, M_Mat_min), (23, 0, 2, 7, M_Text_signAt), (27, 2, 3, 99, M_Acts_canStand), (31, 2, 1, 99, M_Acts_lengthOf)]
  | 1 => [(3, 8, 1, 99, M_Mat_max), (34, 7, 2, 99, M_Mat_min), (40, 0, 2, 7, M_Text_signAt), (44, 2, 1, 0, M_Book_letterOf), (48, 2, 1, 0, M_Book_isSaid), (52, 0, 1, 0, M_Book_closeLine), (60, 0, 3, 0, M_Book_bare), (83, 0, 4, 0, M_Book_spell), (79, 0, 4, 0, M_Book_gone), (76, 0, 3, 0, M_Book_placesOf), (63, 0, 3, 0, M_Book_hasSign), (27, 0, 2, 0, M_Book_has), (67, 2, 1, 99, M_Int_bitCount), (73, 0, 3, 0, M_Book_lettersAt)]
  | 2 => [(3, 8, 1, 99, M_Mat_max), (57, 0, 5, 1, M_Measure_layBoth), (46, 0, 5, 1, M_Measure_lay), (34, 0, 4, 0, M_Book_gone), (61, 0, 3, 1, M_Measure_editsAt), (65, 7, 2, 99, M_Mat_min), (76, 0, 3, 1, M_Measure_markNear), (97, 0, 5, 1, M_Measure_edits), (80, 2, 2, 99, M_Arr_fill), (89, 0, 3, 1, M_Measure_stepFrom), (70, 0, 3, 1, M_Measure_inCommonAt), (73, 6, 2, 99, M_Mat_max)]
  | 3 => [(1, 8, 1, 99, M_Mat_max)]
  | 4 => [(1, 8, 1, 99, M_Mat_max), (22, 1, 1, 6, M_State_init), (27, 0, 2, 6, M_State_copy), (34, 7, 2, 99, M_Mat_min)]
  | 5 => [(3, 8, 1, 99, M_Mat_max), (19, 0, 2, 4, M_Row_tell), (23, 0, 3, 4, M_Row_tellTwo)]
  | 6 => [(3, 8, 1, 99, M_Mat_max), (22, 0, 1, 5, M_Rule_begin), (27, 0, 1, 20, M_Str_length), (33, 0, 2, 20, M_Str_charAt), (37, 0, 2, 5, M_Rule_accepts), (83, 0, 2, 5, M_Rule_acceptsDigit), (106, 0, 2, 5, M_Rule_emit), (87, 0, 1, 5, M_Rule_closes), (41, 0, 2, 5, M_Rule_moveDownTo), (112, 2, 1, 5, M_Rule_rankOf), (109, 0, 1, 5, M_Rule_pop), (91, 0, 2, 5, M_Rule_acceptsBetween), (94, 0, 2, 5, M_Rule_push), (97, 0, 1, 5, M_Rule_opens), (102, 0, 2, 20, M_Str_indexOf), (58, 0, 1, 5, M_Rule_bePlain), (61, 7, 2, 99, M_Mat_min), (67, 0, 2, 7, M_Text_signAt), (45, 9, 5, 99, M_Mat_max), (115, 2, 3, 5, M_Rule_between)]
  | 7 => [(3, 8, 1, 99, M_Mat_max), (21, 2, 2, 99, M_Arr_fill), (43, 4, 1, 9, M_SL_sum), (27, 9, 5, 99, M_Mat_max), (47, 4, 1, 9, M_SL_isLetter)]
  | 8 => [(1, 8, 1, 99, M_Mat_max)]
  | 9 => [(3, 8, 1, 99, M_Mat_max), (88, 0, 3, 8, M_Union_passDay), (92, 0, 3, 8, M_Union_strikers), (78, 0, 2, 8, M_Union_tally), (28, 2, 2, 99, M_Arr_fill), (74, 0, 5, 8, M_Union_grudge), (56, 2, 1, 99, M_Int_bitCount), (65, 0, 2, 5, M_Rule_workOut), (95, 0, 4, 0, M_Book_spellAll), (99, 0, 1, 8, M_Union_pairsThatFall), (115, 0, 3, 0, M_Book_areTwins), (106, 7, 2, 99, M_Mat_min), (112, 6, 2, 99, M_Mat_max)]
  | 10 => [(1, 8, 1, 99, M_Mat_max), (9, 3, 1, 7, M_Text_init), (18, 3, 1, 4, M_Row_init), (25, 3, 1, 0, M_Book_init), (32, 1, 1, 6, M_State_init), (42, 1, 1, 3, M_Past_init), (49, 3, 1, 5, M_Rule_init), (59, 1, 2, 8, M_Union_init), (68, 1, 2, 1, M_Measure_init), (75, 3, 1, 2, M_Notices_init), (99, 0, 1, 5, M_Rule_bePlain), (102, 0, 2, 7, M_Text_takeFour), (110, 0, 2, 0, M_Book_faultIn), (114, 0, 3, 0, M_Book_takeLines), (118, 0, 1, 3, M_Past_forgetAll), (121, 0, 2, 5, M_Rule_read), (124, 0, 2, 5, M_Rule_copy), (197, 2, 2, 99, M_Arr_fill), (203, 2, 2, 9, M_SL_cutTo), (206, 7, 2, 99, M_Mat_min), (211, 6, 2, 99, M_Mat_max), (214, 0, 1, 6, M_State_moodsTogether), (218, 0, 2, 3, M_Past_remember), (221, 0, 4, 8, M_Union_passDays), (231, 0, 3, 4, M_Row_tellTwo), (235, 0, 2, 6, M_State_copy), (237, 0, 3, 6, M_State_putOffer), (240, 0, 2, 9, M_SL_rememberIfDone), (243, 0, 3, 6, M_State_stir), (246, 0, 4, 0, M_Book_mute), (249, 2, 1, 99, M_Acts_faultIn), (252, 0, 2, 9, M_SL_doAct), (255, 0, 2, 7, M_Text_signAt), (303, 0, 3, 8, M_Union_passDay), (259, 2, 1, 99, M_Acts_lengthOf), (262, 0, 2, 3, M_Past_bringBack), (128, 0, 2, 0, M_Book_has), (267, 2, 1, 9, M_SL_isSet), (144, 0, 4, 0, M_Book_gone), (271, 0, 2, 4, M_Row_tell), (275, 0, 4, 0, M_Book_spellAll), (280, 0, 2, 9, M_SL_firstLike), (283, 0, 3, 0, M_Book_hasBoth), (286, 0, 5, 1, M_Measure_edits), (290, 0, 4, 1, M_Measure_stepsTo), (297, 0, 3, 1, M_Measure_stepFrom), (307, 0, 1, 9, M_SL_tellFirstFallen), (431, 0, 3, 0, M_Book_areTwins), (174, 2, 1, 9, M_SL_isLetter), (310, 0, 5, 1, M_Measure_inCommon), (179, 0, 2, 8, M_Union_tally), (193, 0, 5, 8, M_Union_grudge), (148, 2, 1, 99, M_Int_bitCount), (313, 0, 3, 9, M_SL_tellsApart), (316, 0, 2, 9, M_SL_tellSet), (319, 0, 2, 0, M_Book_unsaidLetters), (323, 0, 5, 0, M_Book_areOne), (327, 0, 2, 9, M_SL_countPairsThatAreOne), (331, 0, 2, 9, M_SL_neverMeet), (334, 0, 3, 0, M_Book_placesOf), (337, 0, 3, 0, M_Book_bare), (340, 0, 4, 0, M_Book_spell), (343, 0, 2, 9, M_SL_neverTaken), (346, 0, 1, 2, M_Notices_hasRoom), (350, 0, 4, 2, M_Notices_take), (355, 0, 2, 9, M_SL_agrees), (434, 0, 2, 2, M_Notices_agreeWith), (358, 0, 2, 9, M_SL_tellBestLook), (361, 0, 4, 8, M_Union_priceOf), (365, 0, 1, 9, M_SL_priceStrikers), (368, 0, 2, 9, M_SL_sumOver), (371, 9, 5, 99, M_Mat_max), (377, 0, 2, 9, M_SL_setsTurnedBy), (380, 0, 3, 4, M_Row_tellFraction), (383, 2, 2, 9, M_SL_chanceOf), (389, 2, 2, 9, M_SL_raised), (393, 2, 3, 9, M_SL_winningTake), (397, 0, 3, 8, M_Union_strikers), (400, 2, 3, 9, M_SL_isBest), (438, 2, 3, 9, M_SL_gainOf), (407, 0, 2, 9, M_SL_draw), (410, 0, 3, 3, M_Past_keepUnder), (414, 0, 3, 3, M_Past_takeUp), (420, 2, 1, 9, M_SL_sum), (154, 0, 3, 0, M_Book_lettersAt), (161, 0, 2, 9, M_SL_oneWith), (164, 0, 3, 0, M_Book_hasSign)]
  | 11 => [(22, 8, 1, 99, M_Mat_max), (132, 2, 3, 10, M_Mo_in), (205, 0, 2, 10, M_Mo_begins), (163, 7, 2, 99, M_Mat_min), (208, 0, 1, 10, M_Mo_readsWord), (195, 0, 2, 10, M_Mo_takesOf), (176, 0, 1, 20, M_Str_length), (182, 0, 2, 20, M_Str_charAt), (199, 2, 1, 99, M_Int_bitCount), (211, 0, 2, 10, M_Mo_takes), (146, 2, 1, 10, M_Mo_flag), (214, 0, 4, 10, M_Mo_faultOf), (251, 0, 1, 10, M_Mo_readsRule), (239, 0, 2, 10, M_Mo_readsRank), (227, 0, 1, 10, M_Mo_readsThing), (230, 0, 2, 10, M_Mo_codes), (186, 0, 1, 10, M_Mo_isDigit), (234, 0, 2, 10, M_Mo_number), (254, 0, 3, 10, M_Mo_laysCode), (136, 0, 2, 10, M_Mo_isWord), (279, 0, 1, 10, M_Mo_refuse), (142, 2, 2, 10, M_Mo_has), (273, 0, 5, 10, M_Mo_isOneBy), (269, 0, 5, 10, M_Mo_lays), (282, 2, 1, 10, M_Mo_isLetter), (150, 0, 4, 10, M_Mo_signsOf), (287, 0, 3, 10, M_Mo_grudge), (265, 0, 4, 10, M_Mo_grudgeAt), (262, 0, 1, 10, M_Mo_ruled), (258, 2, 3, 10, M_Mo_worked), (293, 6, 2, 99, M_Mat_max), (296, 2, 2, 10, M_Mo_sumOf), (318, 0, 1, 10, M_Mo_putsBy), (321, 0, 2, 10, M_Mo_dayGoes), (302, 0, 2, 10, M_Mo_unsaid), (306, 0, 2, 10, M_Mo_strikeNext), (309, 0, 3, 10, M_Mo_fallen), (18, 0, 2, 10, M_Mo_enters), (299, 0, 2, 10, M_Mo_adds), (324, 0, 4, 10, M_Mo_offers), (327, 0, 2, 10, M_Mo_counted), (330, 0, 3, 10, M_Mo_stirsOne), (333, 0, 4, 10, M_Mo_mutesOne), (346, 0, 1, 10, M_Mo_readsAct), (343, 0, 3, 10, M_Mo_digitIn), (349, 0, 2, 10, M_Mo_does), (357, 0, 3, 10, M_Mo_arePair), (360, 0, 4, 10, M_Mo_apartBy), (354, 2, 2, 10, M_Mo_square), (363, 0, 4, 10, M_Mo_sharedBy), (371, 0, 1, 10, M_Mo_copies), (374, 2, 2, 99, M_Int_compare), (377, 2, 2, 10, M_Mo_isFewer), (380, 0, 3, 10, M_Mo_areApart), (383, 0, 2, 10, M_Mo_tellsSet), (386, 0, 4, 10, M_Mo_canBeOne), (393, 0, 2, 10, M_Mo_isAsNoticed), (396, 0, 2, 10, M_Mo_cost), (399, 0, 2, 10, M_Mo_tips), (402, 0, 3, 10, M_Mo_tellsFraction), (7, 2, 2, 10, M_Mo_common), (417, 2, 3, 10, M_Mo_isRest), (412, 2, 3, 10, M_Mo_gets), (425, 0, 2, 10, M_Mo_draws), (428, 0, 2, 10, M_Mo_allSigns)]
  | 12 => [(25, 1, 1, 9, M_SL_init), (29, 0, 2, 9, M_SL_sign), (34, 0, 2, 9, M_SL_end), (39, 0, 1, 9, M_SL_words), (44, 0, 1, 9, M_SL_rule), (63, 0, 5, 9, M_SL_sheet), (68, 0, 2, 9, M_SL_days), (72, 0, 3, 9, M_SL_offer), (76, 0, 3, 9, M_SL_stirs), (80, 0, 3, 9, M_SL_mutes), (84, 0, 1, 9, M_SL_year), (88, 0, 1, 9, M_SL_undo), (92, 0, 3, 9, M_SL_looks), (96, 0, 2, 9, M_SL_kinds), (100, 0, 3, 9, M_SL_apart), (104, 0, 4, 9, M_SL_chain), (109, 0, 2, 9, M_SL_ahead), (113, 0, 1, 9, M_SL_falls), (117, 0, 2, 9, M_SL_when), (121, 0, 3, 9, M_SL_shared), (125, 0, 1, 9, M_SL_crossest), (129, 0, 2, 9, M_SL_must), (133, 0, 1, 9, M_SL_most), (137, 0, 3, 9, M_SL_joins), (141, 0, 1, 9, M_SL_safe), (145, 0, 3, 9, M_SL_parts), (149, 0, 4, 9, M_SL_noticed), (153, 0, 1, 9, M_SL_forget), (157, 0, 1, 9, M_SL_fits), (161, 0, 1, 9, M_SL_next), (165, 0, 1, 9, M_SL_calms), (169, 0, 2, 9, M_SL_buys), (173, 0, 2, 9, M_SL_power), (177, 0, 4, 9, M_SL_misread), (181, 0, 4, 9, M_SL_game), (185, 0, 1, 9, M_SL_law), (189, 0, 2, 9, M_SL_rests), (193, 0, 3, 9, M_SL_years), (197, 0, 2, 9, M_SL_keep), (201, 0, 2, 9, M_SL_again), (205, 0, 2, 9, M_SL_count), (7, 0, 3, 9, M_SL_word), (15, 0, 3, 9, M_SL_at), (18, 0, 3, 9, M_SL_letter), (21, 0, 2, 9, M_SL_row), (54, 0, 1, 10, M_Mo_thrown), (28, 1, 1, 10, M_Mo_init), (33, 0, 2, 10, M_Mo_sign), (38, 0, 2, 10, M_Mo_end), (43, 0, 1, 10, M_Mo_words), (47, 0, 1, 10, M_Mo_rule), (53, 0, 3, 10, M_Mo_word), (59, 0, 3, 10, M_Mo_at), (62, 0, 3, 10, M_Mo_letter), (67, 0, 5, 10, M_Mo_sheet), (91, 0, 1, 10, M_Mo_undo), (71, 0, 2, 10, M_Mo_days), (75, 0, 3, 10, M_Mo_offer), (79, 0, 3, 10, M_Mo_stirs), (83, 0, 3, 10, M_Mo_mutes), (87, 0, 1, 10, M_Mo_year), (95, 0, 3, 10, M_Mo_looks), (99, 0, 2, 10, M_Mo_kinds), (103, 0, 3, 10, M_Mo_apart), (124, 0, 3, 10, M_Mo_shared), (108, 0, 4, 10, M_Mo_chain), (112, 0, 2, 10, M_Mo_ahead), (116, 0, 1, 10, M_Mo_falls), (120, 0, 2, 10, M_Mo_when), (128, 0, 1, 10, M_Mo_crossest), (132, 0, 2, 10, M_Mo_must), (136, 0, 1, 10, M_Mo_most), (140, 0, 3, 10, M_Mo_joins), (144, 0, 1, 10, M_Mo_safe), (148, 0, 3, 10, M_Mo_parts), (152, 0, 4, 10, M_Mo_noticed), (156, 0, 1, 10, M_Mo_forget), (160, 0, 1, 10, M_Mo_fits), (164, 0, 1, 10, M_Mo_next), (168, 0, 1, 10, M_Mo_calms), (172, 0, 2, 10, M_Mo_buys), (176, 0, 2, 10, M_Mo_power), (180, 0, 4, 10, M_Mo_misread), (184, 0, 4, 10, M_Mo_game), (188, 0, 1, 10, M_Mo_law), (192, 0, 2, 10, M_Mo_rests), (196, 0, 3, 10, M_Mo_years), (200, 0, 2, 10, M_Mo_keep), (204, 0, 2, 10, M_Mo_again), (208, 0, 2, 10, M_Mo_count), (212, 0, 2, 10, M_Mo_row)]
  | 13 => [(335, 0, 1, 20, M_Str_coder), (492, 0, 1, 20, M_Str_isLatin1), (495, 2, 2, 99, M_Lat_charAt), (1059, 2, 3, 99, M_Pre_checkIndex), (633, 0, 3, 20, M_Str_indexOf2), (505, 0, 1, 20, M_Str_length), (637, 2, 4, 99, M_Lat_indexOf), (1062, 2, 4, 99, M_Pre_checkFromToIndex)]
  | 14 => [(9, 2, 2, 20, M_Str_checkIndex), (88, 2, 1, 99, M_Lat_canEncode), (92, 6, 2, 99, M_Mat_max), (38, 7, 2, 99, M_Mat_min), (95, 2, 4, 99, M_Lat_indexOfChar)]
  | _ => []
/-- int constants -/
def ev_ki : Nat → List (Nat × Int32)
  | 10 => [(430, 1103515245)]
  | 11 => [(368, 1000000), (424, 1103515245)]
  | 16 => [(265, 1431655765), (266, 858993459), (267, 252645135)]
  | _ => []
/-- long constants -/
def ev_kl : Nat → List (Nat × Int64)
  | 10 => [(387, 10)]
  | 11 => [(172, 48), (174, 57), (277, 4), (140, 7), (285, 5), (291, 3), (316, 60), (312, 9), (314, (-9)), (352, 255), (366, 8), (369, 99), (406, 10), (408, 100000000), (410, 2), (415, 20)]
  | _ => []
/-- text constants, by their number -/
def ev_ks : Nat → List (Nat × Nat)
  | 6 => [(25, 0), (100, 1)]
  | 10 => [(133, 2), (168, 3), (177, 4), (424, 5)]
  | 11 => [(193, 6), (237, 1), (242, 7), (244, 8), (246, 9), (339, 10), (341, 11)]
  | _ => []
/-- classes that are made: of the world, 50 the exception, 60 an array of int arrays -/
def ev_nl : Nat → List (Nat × Nat)
  | 1 => [(9, 60)]
  | 2 => [(18, 60)]
  | 4 => [(9, 6)]
  | 10 => [(7, 7), (16, 4), (23, 0), (30, 6), (40, 3), (47, 5), (57, 8), (66, 1), (73, 2), (131, 50)]
  | 12 => [(8, 9), (13, 50), (26, 10)]
  | _ => []
/-- the class that throws, and where its pool names the exception's constructor -/
def ev_thrC : Nat × Nat := (10, 135)
def ev_strs : List (List Int32) := [[109, 45, 111, 42, 50, 45, 51], [109, 111, 117, 115, 110, 100, 105], [110, 111, 32, 115, 117, 99, 104, 32, 119, 111, 114, 100, 32, 111, 114, 32, 113, 117, 101, 115, 116, 105, 111, 110], [110, 111, 32, 115, 117, 99, 104, 32, 115, 105, 103, 110], [110, 111, 32, 115, 117, 99, 104, 32, 108, 101, 116, 116, 101, 114, 32, 111, 114, 32, 113, 117, 101, 115, 116, 105, 111, 110], [110, 111, 32, 115, 117, 99, 104, 32, 110, 117, 109, 98, 101, 114], [97, 98, 99, 100, 101, 102, 103, 104, 65, 66, 67, 68, 69, 70, 71, 72], [60, 62, 61], [43, 45], [42, 47], [110, 120, 111, 114, 113], [97, 98, 99, 100, 101, 102, 103, 104]]
end
section
/-! rows on bits, shifts and unsigned numbers, to paste: each family out of a closed proof of our own, whole with what it rests on; each by itself clean at Lean in its own claim (generation 39, form 5). Take a family whole -/
/-! ===== Int32 by its bits: bt x i ===== -/
def bt (x : Int32) (i : Nat) : Bool := x.toBitVec.getLsbD i
theorem b_ext {x y : Int32} (h : ∀ i, i < 32 → bt x i = bt y i) : x = y := Int32.toBitVec_inj.mp (BitVec.eq_of_getLsbD_eq (fun i hi => h i hi))
theorem b_or (x y : Int32) (i : Nat) : bt (x ||| y) i = (bt x i || bt y i) := by unfold bt; rw [Int32.toBitVec_or, BitVec.getLsbD_or]
theorem b_and (x y : Int32) (i : Nat) : bt (x &&& y) i = (bt x i && bt y i) := by unfold bt; rw [Int32.toBitVec_and, BitVec.getLsbD_and]
theorem b_xor (x y : Int32) (i : Nat) : bt (x ^^^ y) i = (bt x i ^^ bt y i) := by unfold bt; rw [Int32.toBitVec_xor, BitVec.getLsbD_xor]
theorem b_big {x : Int32} {i : Nat} (h : 32 ≤ i) : bt x i = false := BitVec.getLsbD_of_ge _ _ h
theorem b_255 (i : Nat) : bt 255 i = decide (i < 8) := by
  rcases Nat.lt_or_ge i 32 with h | h
  · exact (by decide +kernel : ∀ i, i < 32 → bt 255 i = decide (i < 8)) i h
  · rw [b_big h, decide_eq_false (by omega)]
theorem b_65535 (i : Nat) : bt 65535 i = decide (i < 16) := by
  rcases Nat.lt_or_ge i 32 with h | h
  · exact (by decide +kernel : ∀ i, i < 32 → bt 65535 i = decide (i < 16)) i h
  · rw [b_big h, decide_eq_false (by omega)]
theorem b_m1 : ∀ i, i < 32 → bt (-1) i = true := by decide +kernel
theorem b_0 (i : Nat) : bt 0 i = false := BitVec.getLsbD_zero
theorem s_l : ∀ n, n < 32 → ((nI n &&& 31).toBitVec.smod 32).toNat = n := by decide +kernel
theorem s_u : ∀ n, n < 32 → (((nI n).toUInt32 &&& Int32.toUInt32 31).toBitVec % 32).toNat = n := by decide +kernel
theorem b_shl (n : Nat) (hn : n < 32) (x : Int32) {i : Nat} (hi : i < 32) : bt (x <<< (nI n &&& 31)) i = (decide (n ≤ i) && bt x (i - n)) := by
  unfold bt
  rw [Int32.toBitVec_shiftLeft]
  show (x.toBitVec <<< ((nI n &&& 31).toBitVec.smod 32).toNat).getLsbD i = _
  rw [s_l n hn, BitVec.getLsbD_shiftLeft]
  rcases Nat.lt_or_ge i n with h | h
  · simp [h, Nat.not_le.mpr h]
  · simp [hi, h, Nat.not_lt.mpr h]
theorem b_ushr (n : Nat) (hn : n < 32) (x : Int32) (i : Nat) : bt ((x.toUInt32 >>> ((nI n).toUInt32 &&& Int32.toUInt32 31)).toInt32) i = bt x (n + i) := by
  show (x.toUInt32 >>> ((nI n).toUInt32 &&& Int32.toUInt32 31)).toBitVec.getLsbD i = x.toUInt32.toBitVec.getLsbD (n + i)
  rw [UInt32.toBitVec_shiftRight]
  show (x.toUInt32.toBitVec >>> (((nI n).toUInt32 &&& Int32.toUInt32 31).toBitVec % 32).toNat).getLsbD i = _
  rw [s_u n hn, BitVec.getLsbD_ushiftRight]
theorem b_sshr (n : Nat) (hn : n < 32) (x : Int32) {i : Nat} (hi : i < 32) : bt (x >>> (nI n &&& 31)) i = if n + i < 32 then bt x (n + i) else bt x 31 := by
  unfold bt
  rw [Int32.toBitVec_shiftRight]
  show (x.toBitVec.sshiftRight ((nI n &&& 31).toBitVec.smod 32).toNat).getLsbD i = _
  rw [s_l n hn, BitVec.getLsbD_sshiftRight, BitVec.msb_eq_getLsbD_last]
  simp [hi]
theorem b_shl8 (x : Int32) {i : Nat} (hi : i < 32) : bt (x <<< ((8 : Int32) &&& 31)) i = (decide (8 ≤ i) && bt x (i - 8)) := b_shl 8 (by omega) x hi
theorem b_shl16 (x : Int32) {i : Nat} (hi : i < 32) : bt (x <<< ((16 : Int32) &&& 31)) i = (decide (16 ≤ i) && bt x (i - 16)) := b_shl 16 (by omega) x hi
theorem b_shl24 (x : Int32) {i : Nat} (hi : i < 32) : bt (x <<< ((24 : Int32) &&& 31)) i = (decide (24 ≤ i) && bt x (i - 24)) := b_shl 24 (by omega) x hi
theorem b_sshr8 (x : Int32) {i : Nat} (hi : i < 32) : bt (x >>> ((8 : Int32) &&& 31)) i = if 8 + i < 32 then bt x (8 + i) else bt x 31 := b_sshr 8 (by omega) x hi
/-! ===== nI under and, xor, >>>, one bit, 65535 ===== -/
theorem nx_and (a b : Nat) : nI a &&& nI b = nI (a &&& b) := by
  apply Int32.toBitVec_inj.1
  show BitVec.ofNat 32 a &&& BitVec.ofNat 32 b = BitVec.ofNat 32 (a &&& b)
  apply BitVec.eq_of_getLsbD_eq
  intro i hi
  simp [hi]
theorem nx_xor (a b : Nat) : nI a ^^^ nI b = nI (a ^^^ b) := by
  apply Int32.toBitVec_inj.1
  show BitVec.ofNat 32 a ^^^ BitVec.ofNat 32 b = BitVec.ofNat 32 (a ^^^ b)
  apply BitVec.eq_of_getLsbD_eq
  intro i hi
  simp [hi]
theorem nx_cnt : ∀ j : Fin 32, (UInt32.ofNat j.val &&& Int32.toUInt32 31).toNat % 32 = j.val := by decide +kernel
theorem nx_ush {k j : Nat} (hk : k < 65536) (hj : j < 32) : ((nI k).toUInt32 >>> ((nI j).toUInt32 &&& Int32.toUInt32 31)).toInt32 = nI (k >>> j) := by
  have hs : k >>> j ≤ k := by
    rw [Nat.shiftRight_eq_div_pow]
    exact Nat.div_le_self _ _
  have e2 : UInt32.ofNat k >>> (UInt32.ofNat j &&& Int32.toUInt32 31) = UInt32.ofNat (k >>> j) := by
    apply UInt32.toNat_inj.1
    have h1 : (UInt32.ofNat k).toNat = k := Nat.mod_eq_of_lt (by omega)
    have h2 : (UInt32.ofNat (k >>> j)).toNat = k >>> j := Nat.mod_eq_of_lt (by omega)
    rw [UInt32.toNat_shiftRight, nx_cnt ⟨j, hj⟩, h1, h2]
  show (UInt32.ofNat k >>> (UInt32.ofNat j &&& Int32.toUInt32 31)).toInt32 = _
  rw [e2]
  rfl
theorem nx_bit {k j : Nat} (hk : k < 65536) (hj : j < 16) : (((nI k).toUInt32 >>> ((nI j).toUInt32 &&& Int32.toUInt32 31)).toInt32 &&& 1) = 0 ↔ k.testBit j = false := by
  rw [nx_ush hk (by omega)]
  show nI (k >>> j) &&& nI 1 = 0 ↔ _
  rw [nx_and, Nat.and_one_is_mod, ← nI_0, nI_eq (by omega) (by omega), Nat.testBit_eq_decide_div_mod_eq, Nat.shiftRight_eq_div_pow, decide_eq_false_iff_not]
  generalize k / 2 ^ j = z
  omega
theorem nx_mod (k : Nat) : nI k &&& 65535 = nI (k % 65536) := by
  show nI k &&& nI 65535 = _
  rw [nx_and, show (65535 : Nat) = 2 ^ 16 - 1 from rfl, Nat.and_two_pow_sub_one_eq_mod]
theorem nx_m16 {k : Nat} (h : k < 65536) : nI k &&& 65535 = nI k := by rw [nx_mod, Nat.mod_eq_of_lt h]
theorem nx_mask (x : Int32) : ∃ k, k < 65536 ∧ x &&& 65535 = nI k := by
  have e : x = nI x.toBitVec.toNat := by
    apply Int32.toBitVec_inj.1
    show x.toBitVec = BitVec.ofNat 32 x.toBitVec.toNat
    simp
  refine ⟨x.toBitVec.toNat % 65536, Nat.mod_lt _ (by omega), ?_⟩
  rw [← nx_mod, ← e]
/-! ===== Int32 as a set of bits: test, set ===== -/
def nf_M (m : Int32) : Nat := 4294967296 - m.toBitVec.toNat
theorem nf_sh : ∀ l, l < 32 → ((1 : Int32) <<< (nI l &&& 31)).toBitVec = BitVec.twoPow 32 l := by decide +kernel
theorem nf_sl : ∀ l, l < 32 → (((nI l).toUInt32 &&& Int32.toUInt32 31).toBitVec % 32).toNat = l := by decide +kernel
theorem nf_tp : ∀ l, l < 32 → BitVec.twoPow 32 l ≠ 0#32 := by decide +kernel
theorem nf_bit (m : Int32) (l : Nat) (hl : l < 32) : ((m.toUInt32 >>> ((nI l).toUInt32 &&& Int32.toUInt32 31)).toInt32 &&& 1) = 0 ↔ (m &&& ((1 : Int32) <<< (nI l &&& 31))) = 0 := by
  have e : ((m.toUInt32 >>> ((nI l).toUInt32 &&& Int32.toUInt32 31)).toInt32).toBitVec = m.toBitVec >>> l := by
    show m.toBitVec >>> (((nI l).toUInt32 &&& Int32.toUInt32 31).toBitVec % 32) = m.toBitVec >>> l
    rw [BitVec.ushiftRight_eq', nf_sl l hl]
  rw [← Int32.toBitVec_inj, ← Int32.toBitVec_inj, Int32.toBitVec_and, Int32.toBitVec_and, nf_sh l hl, e, BitVec.and_twoPow]
  show (m.toBitVec >>> l &&& 1#32) = 0#32 ↔ _ = 0#32
  rw [BitVec.and_one_eq_setWidth_ofBool_getLsbD, BitVec.getLsbD_ushiftRight, Nat.add_zero]
  cases hb : m.toBitVec.getLsbD l
  · exact ⟨fun _ => by simp, fun _ => by decide⟩
  · exact ⟨fun z => absurd z (by decide), fun z => absurd ((if_pos rfl).symm.trans z) (nf_tp l hl)⟩
theorem nf_gr (m k : Int32) (h : m &&& k = 0) (hk : k ≠ 0) : nf_M (m ||| k) < nf_M m := by
  have hm := m.toBitVec.isLt
  have hm' := (m ||| k).toBitVec.isLt
  have h1 : m.toBitVec.toNat ≤ (m ||| k).toBitVec.toNat := by
    rw [Int32.toBitVec_or, BitVec.toNat_or]
    exact Nat.left_le_or
  have h2 : m.toBitVec.toNat ≠ (m ||| k).toBitVec.toNat := by
    intro e
    have e2 : m = m ||| k := Int32.toBitVec_inj.mp (BitVec.eq_of_toNat_eq e)
    apply hk
    apply Int32.toBitVec_inj.mp
    show k.toBitVec = 0#32
    apply BitVec.eq_of_getLsbD_eq
    intro i hi
    have a : m.toBitVec.getLsbD i = (m.toBitVec.getLsbD i || k.toBitVec.getLsbD i) := by rw [← BitVec.getLsbD_or, ← Int32.toBitVec_or, ← e2]
    have b : (m.toBitVec.getLsbD i && k.toBitVec.getLsbD i) = false := by
      rw [← BitVec.getLsbD_and, ← Int32.toBitVec_and, h]
      exact BitVec.getLsbD_zero
    rw [BitVec.getLsbD_zero]
    revert a b
    cases m.toBitVec.getLsbD i <;> cases k.toBitVec.getLsbD i <;> simp
  unfold nf_M
  omega
/-! ===== a byte read unsigned ===== -/
theorem bp_b (x : Int32) : x.toInt8.toInt32 &&& 255 = x &&& 255 := by
  apply Int32.toBitVec_inj.mp
  rw [Int32.toBitVec_and, Int32.toBitVec_and, Int8.toBitVec_toInt32, Int32.toBitVec_toInt8]
  apply BitVec.eq_of_getLsbD_eq
  intro i hi
  rw [BitVec.getLsbD_and, BitVec.getLsbD_and]
  have hm : ∀ i < 32, 8 ≤ i → (255 : Int32).toBitVec.getLsbD i = false := by decide
  rcases Nat.lt_or_ge i 8 with z | z
  · rw [BitVec.getLsbD_signExtend, BitVec.getLsbD_signExtend, if_pos z, if_pos hi]
    simp only [z, hi, decide_true, Bool.true_and]
  · rw [hm i hi z]; simp
/-! ===== Int64 as a set of bits: test, set, clear ===== -/
theorem ts_nf {x : Bool} (h : ¬ x = false) : x = true := by cases x <;> first | rfl | exact absurd rfl h
theorem ts_nt {x : Bool} (h : ¬ x = true) : x = false := by cases x <;> first | rfl | exact absurd rfl h
theorem ts_bit {w : Int64} {s : UInt64} {j : Nat} (hj : j < 64) (hs : s.toNat = j) : ((w.toUInt64 >>> s).toInt64 &&& 1) = 0 ↔ w.toBitVec.getLsbD j = false := by
  have e : (w.toUInt64 >>> s).toInt64.toBitVec = w.toBitVec >>> j := by
    apply BitVec.eq_of_toNat_eq
    show (w.toUInt64 >>> s).toNat = _
    rw [UInt64.toNat_shiftRight, hs, Nat.mod_eq_of_lt hj, BitVec.toNat_ushiftRight]
    rfl
  rw [← Int64.toBitVec_inj, Int64.toBitVec_and, e]
  show w.toBitVec >>> j &&& 1#64 = 0#64 ↔ _
  constructor
  · intro h
    have t := congrArg (fun x => x.getLsbD 0) h
    simpa using t
  · intro h
    apply BitVec.eq_of_getLsbD_eq
    intro i hi
    cases i with
    | zero => simp [h]
    | succ i => simp
theorem ts_or {w m : Int64} {j : Nat} (hj : j < 64) (hm : m.toBitVec = BitVec.twoPow 64 j) : (w ||| m) = w ↔ w.toBitVec.getLsbD j = true := by
  rw [← Int64.toBitVec_inj, Int64.toBitVec_or, hm]
  constructor
  · intro h
    have t := congrArg (fun x => x.getLsbD j) h
    simp only [BitVec.getLsbD_or, BitVec.getLsbD_twoPow] at t
    simpa [hj] using t.symm
  · intro h
    apply BitVec.eq_of_getLsbD_eq
    intro i hi
    rw [BitVec.getLsbD_or, BitVec.getLsbD_twoPow]
    by_cases e : j = i
    · subst e; rw [h, Bool.true_or]
    · simp [e]
theorem ts_and {w m : Int64} {j : Nat} (hj : j < 64) (hm : m.toBitVec = BitVec.twoPow 64 j) : (w &&& (m ^^^ (-1))) = w ↔ w.toBitVec.getLsbD j = false := by
  have ha : (-1 : Int64).toBitVec = BitVec.allOnes 64 := by decide
  rw [← Int64.toBitVec_inj, Int64.toBitVec_and, Int64.toBitVec_xor, hm, ha]
  constructor
  · intro h
    have t := congrArg (fun x => x.getLsbD j) h
    simp only [BitVec.getLsbD_and, BitVec.getLsbD_xor, BitVec.getLsbD_twoPow, BitVec.getLsbD_allOnes] at t
    simpa [hj] using t.symm
  · intro h
    apply BitVec.eq_of_getLsbD_eq
    intro i hi
    rw [BitVec.getLsbD_and, BitVec.getLsbD_xor, BitVec.getLsbD_twoPow, BitVec.getLsbD_allOnes]
    by_cases e : j = i
    · subst e; rw [h, Bool.false_and]
    · simp [e, hi]
/-! ===== lN n to 2^64: shifts, and, or, masks, one bit ===== -/
theorem wb_tb (n : Nat) : (lN n).toBitVec = BitVec.ofNat 64 n := rfl
theorem wb_inj {a b : Int64} (h : a.toBitVec = b.toBitVec) : a = b := Int64.toBitVec_inj.mp h
theorem wb_tn {n : Nat} (h : n < 2 ^ 64) : (lN n).toBitVec.toNat = n := by rw [wb_tb, BitVec.toNat_ofNat, Nat.mod_eq_of_lt h]
theorem wb_of (x : Int64) : ∃ n, n < 2 ^ 64 ∧ x = lN n := ⟨x.toBitVec.toNat, x.toBitVec.isLt, wb_inj (by rw [wb_tb]; simp)⟩
theorem wb_of32 (x : Int32) : ∃ n, n < 2 ^ 32 ∧ x = nI n := ⟨x.toBitVec.toNat, x.toBitVec.isLt, Int32.toBitVec_inj.mp (by show _ = BitVec.ofNat 32 _; simp)⟩
theorem wb_c : ∀ k, k < 64 → ((nI k).toInt64 &&& 63) = lN k := by decide +kernel
theorem wb_cu : ∀ k, k < 64 → ((nI k).toInt64.toUInt64 &&& Int64.toUInt64 63) = UInt64.ofNat k := by decide +kernel
theorem wb_sm : ∀ k, k < 64 → (BitVec.ofNat 64 k).smod 64 = BitVec.ofNat 64 k := by decide +kernel
theorem wb_pw {a b : Nat} (h : a ≤ b) : 2 ^ b = 2 ^ a * 2 ^ (b - a) := by rw [← Nat.pow_add]; congr 1; omega
theorem wb_lt2 {a b : Nat} (h : a < b) : 2 ^ a < 2 ^ b := Nat.pow_lt_pow_right (by decide) h
theorem wb_mod (n : Nat) : lN n = lN (n % 2 ^ 64) := wb_inj (by rw [wb_tb, wb_tb]; apply BitVec.eq_of_toNat_eq; rw [BitVec.toNat_ofNat, BitVec.toNat_ofNat, Nat.mod_mod])
theorem wb_shr {n k : Nat} (hn : n < 2 ^ 64) (hk : k < 64) : ((lN n).toUInt64 >>> ((nI k).toInt64.toUInt64 &&& Int64.toUInt64 63)).toInt64 = lN (n / 2 ^ k) := by
  rw [wb_cu k hk]
  apply wb_inj
  apply BitVec.eq_of_toNat_eq
  show ((lN n).toUInt64 >>> UInt64.ofNat k).toNat = (BitVec.ofNat 64 _).toNat
  have h1 : (UInt64.ofNat k).toNat = k := by
    show (BitVec.ofNat 64 k).toNat = k
    rw [BitVec.toNat_ofNat, Nat.mod_eq_of_lt (by omega)]
  have h2 : (lN n).toUInt64.toNat = n := wb_tn hn
  rw [UInt64.toNat_shiftRight, h1, h2, Nat.mod_eq_of_lt hk, Nat.shiftRight_eq_div_pow, BitVec.toNat_ofNat, Nat.mod_eq_of_lt (Nat.lt_of_le_of_lt (Nat.div_le_self _ _) hn)]
theorem wb_shl (n : Nat) {k : Nat} (hk : k < 64) : lN n <<< ((nI k).toInt64 &&& 63) = lN (n * 2 ^ k) := by
  rw [wb_c k hk]
  apply wb_inj
  rw [Int64.toBitVec_shiftLeft, wb_tb, wb_tb, wb_tb, wb_sm k hk]
  apply BitVec.eq_of_toNat_eq
  rw [BitVec.shiftLeft_eq', BitVec.toNat_shiftLeft, BitVec.toNat_ofNat, BitVec.toNat_ofNat, BitVec.toNat_ofNat, Nat.mod_eq_of_lt (show k < 2 ^ 64 by omega), Nat.shiftLeft_eq, Nat.mul_mod, Nat.mod_mod, ← Nat.mul_mod]
theorem wb_and {a b : Nat} (ha : a < 2 ^ 64) (hb : b < 2 ^ 64) : lN a &&& lN b = lN (a &&& b) := by
  apply wb_inj
  rw [Int64.toBitVec_and, wb_tb, wb_tb, wb_tb]
  apply BitVec.eq_of_toNat_eq
  rw [BitVec.toNat_and, BitVec.toNat_ofNat, BitVec.toNat_ofNat, BitVec.toNat_ofNat, Nat.mod_eq_of_lt ha, Nat.mod_eq_of_lt hb, Nat.mod_eq_of_lt (Nat.and_lt_two_pow _ hb)]
theorem wb_or {a b : Nat} (ha : a < 2 ^ 64) (hb : b < 2 ^ 64) : lN a ||| lN b = lN (a ||| b) := by
  apply wb_inj
  rw [Int64.toBitVec_or, wb_tb, wb_tb, wb_tb]
  apply BitVec.eq_of_toNat_eq
  rw [BitVec.toNat_or, BitVec.toNat_ofNat, BitVec.toNat_ofNat, BitVec.toNat_ofNat, Nat.mod_eq_of_lt ha, Nat.mod_eq_of_lt hb, Nat.mod_eq_of_lt (Nat.or_lt_two_pow ha hb)]
theorem wb_mask {n k : Nat} (hn : n < 2 ^ 64) (hk : k < 64) : lN n &&& lN (2 ^ k - 1) = lN (n % 2 ^ k) := by
  rw [wb_and hn (by have := wb_lt2 hk; omega), Nat.and_two_pow_sub_one_eq_mod]
theorem wb_a1 {n : Nat} (hn : n < 2 ^ 64) : lN n &&& 1 = lN (n % 2) := wb_mask (k := 1) hn (by decide)
theorem wb_bit {n k : Nat} (hn : n < 2 ^ 64) (hk : k < 64) : ((lN n).toUInt64 >>> ((nI k).toInt64.toUInt64 &&& Int64.toUInt64 63)).toInt64 &&& 1 = lN (n / 2 ^ k % 2) := by
  rw [wb_shr hn hk, wb_a1 (Nat.lt_of_le_of_lt (Nat.div_le_self _ _) hn)]
theorem wb_xor {q k : Nat} (hk : k < 63) (h : 2 ^ k ≤ q) (h2 : q < 2 ^ (k + 1)) : lN q ^^^ lN (2 ^ k) = lN (q - 2 ^ k) := by
  obtain ⟨r, rfl⟩ : ∃ r, q = 2 ^ k + r := ⟨q - 2 ^ k, by omega⟩
  have hr : r < 2 ^ k := by rw [Nat.pow_succ] at h2; omega
  have hx : (2 ^ k + r) ^^^ 2 ^ k = r := by
    apply Nat.eq_of_testBit_eq
    intro i
    rw [Nat.testBit_xor, Nat.testBit_two_pow]
    rcases Nat.lt_trichotomy i k with h | h | h
    · rw [Nat.testBit_two_pow_add_gt h]
      simp [show ¬ k = i by omega]
    · subst h
      rw [Nat.testBit_two_pow_add_eq]
      simp
    · have a1 : 2 ^ (k + 1) ≤ 2 ^ i := Nat.pow_le_pow_right (by decide) h
      rw [Nat.testBit_lt_two_pow (show 2 ^ k + r < 2 ^ i by omega), Nat.testBit_lt_two_pow (show r < 2 ^ i by omega)]
      simp [show ¬ k = i by omega]
  have b1 := wb_lt2 (show k + 1 < 64 by omega)
  have b2 := wb_lt2 (show k < 64 by omega)
  apply wb_inj
  rw [Int64.toBitVec_xor, wb_tb, wb_tb, wb_tb]
  apply BitVec.eq_of_toNat_eq
  rw [BitVec.toNat_xor, BitVec.toNat_ofNat, BitVec.toNat_ofNat, BitVec.toNat_ofNat, Nat.mod_eq_of_lt (by omega : 2 ^ k + r < 2 ^ 64), Nat.mod_eq_of_lt b2, hx, Nat.add_sub_cancel_left, Nat.mod_eq_of_lt (by omega)]
/-! ===== lN: masks, 'or' of parts that don't overlap is a sum ===== -/
theorem u_tn {n : Nat} (h : n < 2 ^ 64) : (UInt64.ofNat n).toNat = n := Nat.mod_eq_of_lt h
theorem g_and {a b c : Nat} (ha : a < 2 ^ 64) (hb : b < 2 ^ 64) (hc : a &&& b = c) : lN a &&& lN b = lN c := by
  subst hc
  have h : UInt64.ofNat a &&& UInt64.ofNat b = UInt64.ofNat (a &&& b) := UInt64.toNat_inj.mp (by rw [UInt64.toNat_and, u_tn ha, u_tn hb, u_tn (Nat.and_lt_two_pow a hb)])
  have h2 := congrArg UInt64.toInt64 h
  exact h2
theorem g_and1 {a : Nat} (ha : a < 2 ^ 64) : lN a &&& 1 = lN (a % 2) := g_and (b := 1) ha (by decide) (Nat.and_two_pow_sub_one_eq_mod a 1)
theorem g_mask {a s p : Nat} (hp : 2 ^ s = p) (hs : s < 64) (ha : a < 2 ^ 64) : lN a &&& lN (p - 1) = lN (a % p) := by
  subst hp
  have := Nat.pow_lt_pow_right (show 1 < 2 by decide) hs
  exact g_and ha (by omega) (Nat.and_two_pow_sub_one_eq_mod a s)
theorem g_or {k p a b : Nat} (hp : 2 ^ k = p) (ha : a < p) (h : b * p + a < 2 ^ 64) : lN (b * p) ||| lN a = lN (b * p + a) := by
  subst hp
  have h1 : b * 2 ^ k ||| a = b * 2 ^ k + a := by rw [← Nat.shiftLeft_eq, Nat.shiftLeft_add_eq_or_of_lt ha]
  have h3 : UInt64.ofNat (b * 2 ^ k) ||| UInt64.ofNat a = UInt64.ofNat (b * 2 ^ k + a) := UInt64.toNat_inj.mp (by rw [UInt64.toNat_or, u_tn (by omega), u_tn (by omega), u_tn h, h1])
  have h2 := congrArg UInt64.toInt64 h3
  exact h2
theorem g_or' {k p a b : Nat} (hp : 2 ^ k = p) (ha : a < p) (h : a + b * p < 2 ^ 64) : lN a ||| lN (b * p) = lN (a + b * p) := by
  rw [Int64.or_comm, g_or hp ha (by omega), Nat.add_comm]
theorem g_ushr {a k p : Nat} {y : UInt64} (hy : y = UInt64.ofNat k) (hk : k < 64) (hp : 2 ^ k = p) (ha : a < 2 ^ 64) : ((lN a).toUInt64 >>> y).toInt64 = lN (a / p) := by
  subst hy hp
  have h : UInt64.ofNat a >>> UInt64.ofNat k = UInt64.ofNat (a / 2 ^ k) := UInt64.toNat_inj.mp (by rw [UInt64.toNat_shiftRight, u_tn ha, u_tn (by omega), u_tn (Nat.lt_of_le_of_lt (Nat.div_le_self _ _) ha), Nat.mod_eq_of_lt hk, Nat.shiftRight_eq_div_pow])
  have h2 := congrArg UInt64.toInt64 h
  exact h2
theorem g_shl {a k p : Nat} {y : Int64} (hy : y.toBitVec.smod 64 = BitVec.ofNat 64 k) (hk : k < 64) (hp : 2 ^ k = p) (ha : a < 2 ^ 64) : lN a <<< y = lN (a * p) := by
  subst hp
  apply Int64.toBitVec_inj.mp
  rw [Int64.toBitVec_shiftLeft, hy]
  apply BitVec.eq_of_toNat_eq
  have hb : (lN a).toBitVec.toNat = a := Nat.mod_eq_of_lt ha
  have hk' : (BitVec.ofNat 64 k).toNat = k := Nat.mod_eq_of_lt (by omega)
  have h : ((lN a).toBitVec <<< BitVec.ofNat 64 k).toNat = (a * 2 ^ k) % 2 ^ 64 := by simp only [BitVec.shiftLeft_eq', BitVec.toNat_shiftLeft, hb, hk', Nat.shiftLeft_eq]
  exact h
/-! ===== lN to 2^62 under >> and >>> ===== -/
theorem pf_lI {a : Nat} (h : a < 2 ^ 63) : (lN a).toInt = (a : Int) := lg_ofNat_toInt h
theorem pf_shr {a d : Nat} {D : Int64} (hD : (D.toBitVec.smod 64).toNat = d) (h : a < 2 ^ 62) : lN a >>> D = lN (a / 2 ^ d) := by
  have hd : a / 2 ^ d ≤ a := Nat.div_le_self _ _
  apply Int64.toInt_inj.mp
  have e : (lN a >>> D).toInt = (lN a).toInt >>> d := by
    rw [← hD]
    exact BitVec.toInt_sshiftRight ..
  rw [e, Int.shiftRight_eq_div_pow, pf_lI (by omega), pf_lI (by omega)]
  rfl
theorem pf_ushr {a d : Nat} {D : UInt64} (hD : D.toNat % 64 = d) (h : a < 2 ^ 62) : ((lN a).toUInt64 >>> D).toInt64 = lN (a / 2 ^ d) := by
  have hd : a / 2 ^ d ≤ a := Nat.div_le_self _ _
  have e : (lN a).toUInt64 >>> D = UInt64.ofNat (a / 2 ^ d) := UInt64.toNat_inj.mp (by
    rw [UInt64.toNat_shiftRight, hD, Nat.shiftRight_eq_div_pow, UInt64.toNat_ofNat']
    show (UInt64.ofNat a).toNat / 2 ^ d = _
    rw [UInt64.toNat_ofNat', Nat.mod_eq_of_lt (by omega), Nat.mod_eq_of_lt (by omega)])
  rw [e]
  rfl
theorem pf_andw (x : Int64) : ∃ m, m < 2 ^ 32 ∧ x &&& 4294967295 = lN m := ⟨x.toBitVec.toNat % 2 ^ 32, Nat.mod_lt _ (by decide), Int64.toBitVec_inj.mp (BitVec.eq_of_toNat_eq (by
  show (x.toBitVec &&& 4294967295#64).toNat = (BitVec.ofNat 64 (x.toBitVec.toNat % 2 ^ 32)).toNat
  rw [BitVec.toNat_and, show (4294967295#64).toNat = 2 ^ 32 - 1 from by decide, Nat.and_two_pow_sub_one_eq_mod, BitVec.toNat_ofNat]
  omega))⟩
/-! ===== Int64 as an unsigned number: uN x ===== -/
def uN (x : Int64) : Nat := x.toUInt64.toNat
theorem uN_lt (x : Int64) : uN x < 18446744073709551616 := x.toUInt64.toNat_lt
theorem uN_inj {x y : Int64} (h : uN x = uN y) : x = y := congrArg UInt64.toInt64 (UInt64.toNat_inj.mp h)
theorem uN_add (x y : Int64) : uN (x + y) = (uN x + uN y) % 18446744073709551616 := by
  show (x.toUInt64 + y.toUInt64).toNat = _
  exact UInt64.toNat_add _ _
theorem uN_mul (x y : Int64) : uN (x * y) = (uN x * uN y) % 18446744073709551616 := by
  show (x.toUInt64 * y.toUInt64).toNat = _
  exact UInt64.toNat_mul _ _
theorem uN_shl (x : Int64) : uN (x <<< ((1 : Int32).toInt64 &&& 63)) = (2 * uN x) % 18446744073709551616 := by
  have h : (((1 : Int32).toInt64 &&& 63).toBitVec.smod 64).toNat = 1 := by decide
  show (x.toBitVec <<< (((1 : Int32).toInt64 &&& 63).toBitVec.smod 64).toNat).toNat = _
  rw [h, BitVec.toNat_shiftLeft, Nat.shiftLeft_eq, Nat.mul_comm]
  rfl
theorem uN_shr (x : Int64) (s : UInt64) : uN (x.toUInt64 >>> s).toInt64 = uN x / 2 ^ (s.toNat % 64) := by
  show (x.toUInt64 >>> s).toNat = _
  rw [UInt64.toNat_shiftRight, Nat.shiftRight_eq_div_pow]
  rfl
theorem uN_s32 (x : Int64) : uN (x.toUInt64 >>> ((32 : Int32).toInt64.toUInt64 &&& Int64.toUInt64 63)).toInt64 = uN x / 4294967296 := by
  have h : ((32 : Int32).toInt64.toUInt64 &&& Int64.toUInt64 63).toNat % 64 = 32 := by decide
  rw [uN_shr, h]
theorem uN_s63 (x : Int64) : uN (x.toUInt64 >>> ((63 : Int32).toInt64.toUInt64 &&& Int64.toUInt64 63)).toInt64 = uN x / 9223372036854775808 := by
  have h : ((63 : Int32).toInt64.toUInt64 &&& Int64.toUInt64 63).toNat % 64 = 63 := by decide
  rw [uN_shr, h]
theorem uN_lo (x : Int64) : uN (x &&& 4294967295) = uN x % 4294967296 := by
  show (x.toUInt64 &&& Int64.toUInt64 4294967295).toNat = _
  rw [UInt64.toNat_and]
  exact Nat.and_two_pow_sub_one_eq_mod _ 32
theorem uN_bit (x : Int64) : (x &&& 1) = 0 ↔ uN x % 2 = 0 := by
  have h : uN (x &&& 1) = uN x % 2 := by
    show (x.toUInt64 &&& Int64.toUInt64 1).toNat = _
    rw [UInt64.toNat_and]
    exact Nat.and_two_pow_sub_one_eq_mod _ 1
  rw [← h]
  exact ⟨fun z => by rw [z]; rfl, fun z => uN_inj (z.trans rfl)⟩
theorem uN_or {x y : Int64} (hy : uN y < 2) : uN ((x <<< ((1 : Int32).toInt64 &&& 63)) ||| y) = (2 * uN x) % 18446744073709551616 + uN y := by
  have h1 : uN ((x <<< ((1 : Int32).toInt64 &&& 63)) ||| y) = uN (x <<< ((1 : Int32).toInt64 &&& 63)) ||| uN y := UInt64.toNat_or _ _
  have h2 : (2 * uN x) % 18446744073709551616 = 2 ^ 1 * (uN x % 9223372036854775808) := by omega
  rw [h1, uN_shl, h2]
  exact (Nat.two_pow_add_eq_or_of_lt (i := 1) hy _).symm
theorem nat_xor {a : Nat} (h : a < 18446744073709551616) : a ^^^ 2 ^ 63 = (a + 9223372036854775808) % 18446744073709551616 := by
  have h1 : (a ^^^ 2 ^ 63) % 2 ^ 63 = a % 2 ^ 63 := by rw [Nat.xor_mod_two_pow, Nat.mod_self, Nat.xor_zero]
  have h2 : (a ^^^ 2 ^ 63) / 2 ^ 63 = (a / 2 ^ 63) ^^^ 1 := by rw [Nat.xor_div_two_pow, Nat.div_self (Nat.two_pow_pos 63)]
  have h3 : a / 2 ^ 63 = 0 ∨ a / 2 ^ 63 = 1 := by omega
  generalize a ^^^ 2 ^ 63 = t at h1 h2
  rcases h3 with h3 | h3
  · rw [h3] at h2
    have h2 : t / 2 ^ 63 = 1 := h2
    omega
  · rw [h3] at h2
    have h2 : t / 2 ^ 63 = 0 := h2
    omega
theorem uN_xor (x : Int64) : uN (x ^^^ (-9223372036854775808)) = (uN x + 9223372036854775808) % 18446744073709551616 := by
  rw [← nat_xor (uN_lt x)]
  exact UInt64.toNat_xor _ _
theorem uN_int (x : Int64) : x.toInt = if 2 * uN x < 18446744073709551616 then (uN x : Int) else (uN x : Int) - 18446744073709551616 := BitVec.toInt_eq_toNat_cond _
theorem uN_le (x y : Int64) : (x ^^^ (-9223372036854775808)) ≤ (y ^^^ (-9223372036854775808)) ↔ uN x ≤ uN y := by
  have hx := uN_lt x
  have hy := uN_lt y
  rw [Int64.le_iff_toInt_le, uN_int, uN_int, uN_xor, uN_xor]
  omega
theorem uN_sk (x : Int64) {k : Nat} (hk : k < 64) : uN (x.toUInt64 >>> ((nI k).toInt64.toUInt64 &&& Int64.toUInt64 63)).toInt64 = uN x / 2 ^ k := by
  have h : ((nI k).toInt64.toUInt64 &&& Int64.toUInt64 63).toNat % 64 = k := by
    rw [nI_l (by omega), UInt64.toNat_and]
    have e : (lN k).toUInt64.toNat = k % 2 ^ 64 := rfl
    have e2 : (Int64.toUInt64 63).toNat = 2 ^ 6 - 1 := by decide
    rw [e, e2, Nat.and_two_pow_sub_one_eq_mod]
    omega
  rw [uN_shr, h]
/-! ===== unsigned comparison by xor with the least ===== -/
theorem lN_bv (n : Nat) : (lN n).toBitVec = BitVec.ofNat 64 n := rfl
theorem lN_nat {n : Nat} (h : n < 2 ^ 64) : (lN n).toBitVec.toNat = n := by rw [lN_bv, BitVec.toNat_ofNat]; exact Nat.mod_eq_of_lt h
theorem lN_xor (a b : Nat) : lN a ^^^ lN b = lN (a ^^^ b) := by
  apply Int64.toBitVec_inj.mp; rw [Int64.toBitVec_xor, lN_bv, lN_bv, lN_bv]; apply BitVec.eq_of_getLsbD_eq; intro i hi; simp [BitVec.getLsbD_ofNat, Nat.testBit_xor, hi]
theorem lN_ti {m : Nat} (h : m < 2 ^ 64) : (lN m).toInt = if m < 2 ^ 63 then (m : Int) else (m : Int) - 2 ^ 64 := by
  have c := BitVec.toInt_eq_toNat_cond (lN m).toBitVec
  rw [lN_nat h] at c
  show (lN m).toBitVec.toInt = _
  rw [c]
  split <;> split <;> omega
theorem xor63 {x : Nat} (h : x < 2 ^ 63) : x ^^^ 2 ^ 63 = 2 ^ 63 + x := by
  apply Nat.eq_of_testBit_eq
  intro i
  rw [Nat.testBit_xor, Nat.testBit_two_pow]
  rcases Nat.lt_trichotomy i 63 with z | z | z
  · rw [Nat.testBit_two_pow_add_gt z, decide_eq_false (by omega)]; simp
  · subst z; rw [Nat.testBit_two_pow_add_eq]; simp
  · have hp : 2 ^ 64 ≤ 2 ^ i := Nat.pow_le_pow_right (by decide) z
    rw [Nat.testBit_lt_two_pow (show x < 2 ^ i by omega), Nat.testBit_lt_two_pow (show 2 ^ 63 + x < 2 ^ i by omega), decide_eq_false (by omega)]; rfl
theorem xorS {a : Nat} (h : a < 2 ^ 64) : (lN a ^^^ (-9223372036854775808)).toInt = (a : Int) - 2 ^ 63 := by
  rw [show (-9223372036854775808 : Int64) = lN (2 ^ 63) from by decide +kernel, lN_xor]
  rcases Nat.lt_or_ge a (2 ^ 63) with z | z
  · rw [xor63 z, lN_ti (by omega), if_neg (by omega)]; omega
  · obtain ⟨x, rfl⟩ : ∃ x, a = 2 ^ 63 + x := ⟨a - 2 ^ 63, by omega⟩
    rw [← xor63 (by omega), Nat.xor_assoc, Nat.xor_self, Nat.xor_zero, lN_ti (by omega), if_pos (by omega), xor63 (by omega)]; omega
theorem ultL {a b : Nat} (ha : a < 2 ^ 64) (hb : b < 2 ^ 64) : ((lN b ^^^ (-9223372036854775808)) ≤ (lN a ^^^ (-9223372036854775808))) ↔ b ≤ a := by
  rw [Int64.le_iff_toInt_le, xorS ha, xorS hb]; omega
/-! ===== Int64 masks of n low bits ===== -/
theorem cr_bits (W U M : BitVec 64) : ((W &&& U) &&& (U &&& (M ^^^ BitVec.allOnes 64))) = 0#64 ↔ (W &&& U) &&& M = W &&& U := by
  constructor
  · intro h
    apply BitVec.eq_of_getLsbD_eq
    intro i hi
    have e := congrArg (fun x => BitVec.getLsbD x i) h
    simp only [BitVec.getLsbD_and, BitVec.getLsbD_xor, BitVec.getLsbD_allOnes, BitVec.getLsbD_zero, hi, decide_true] at e ⊢
    revert e
    cases W.getLsbD i <;> cases U.getLsbD i <;> cases M.getLsbD i <;> decide
  · intro h
    apply BitVec.eq_of_getLsbD_eq
    intro i hi
    have e := congrArg (fun x => BitVec.getLsbD x i) h
    simp only [BitVec.getLsbD_and, BitVec.getLsbD_xor, BitVec.getLsbD_allOnes, BitVec.getLsbD_zero, hi, decide_true] at e ⊢
    revert e
    cases W.getLsbD i <;> cases U.getLsbD i <;> cases M.getLsbD i <;> decide
theorem cr_mask (w U m : Int64) (n : Nat) (hm : m.toBitVec.toNat = 2 ^ n - 1) : ((w &&& U) &&& (U &&& (m ^^^ (-1)))) = 0 ↔ (w &&& U).toBitVec.toNat < 2 ^ n := by
  have e0 : (-1 : Int64).toBitVec = BitVec.allOnes 64 := by decide
  have z0 : (0 : Int64).toBitVec = 0#64 := by decide
  rw [← Int64.toBitVec_inj, z0, Int64.toBitVec_and, Int64.toBitVec_and, Int64.toBitVec_and, Int64.toBitVec_xor, e0, cr_bits]
  generalize w.toBitVec &&& U.toBitVec = T
  rw [← BitVec.toNat_inj, BitVec.toNat_and, hm, Nat.and_two_pow_sub_one_eq_mod]
  constructor
  · intro h
    have t := Nat.mod_lt T.toNat (Nat.two_pow_pos n)
    rw [h] at t
    exact t
  · exact Nat.mod_eq_of_lt
theorem cr_shr (t : Int64) (x : UInt64) (n : Nat) (hx : x.toNat % 64 = n) : (t.toUInt64 >>> x).toInt64 = 0 ↔ t.toBitVec.toNat < 2 ^ n := by
  rw [← Int64.toBitVec_inj, ← BitVec.toNat_inj]
  show (t.toUInt64 >>> x).toNat = 0 ↔ t.toUInt64.toNat < 2 ^ n
  rw [UInt64.toNat_shiftRight, hx, Nat.shiftRight_eq_div_pow]
  constructor
  · intro h
    have d : t.toUInt64.toNat / 2 ^ n < 1 := by
      rw [h]
      decide
    have e := (Nat.div_lt_iff_lt_mul (Nat.two_pow_pos n)).mp d
    rw [Nat.one_mul] at e
    exact e
  · exact Nat.div_eq_of_lt
theorem cr_amt (s : Int64) : ∃ n, n < 64 ∧ s &&& 63 = lN n ∧ (s.toUInt64 &&& Int64.toUInt64 63).toNat % 64 = n := by
  have e : (s.toUInt64 &&& Int64.toUInt64 63).toNat = s.toUInt64.toNat % 2 ^ 6 := by
    rw [UInt64.toNat_and, show (Int64.toUInt64 63).toNat = 2 ^ 6 - 1 from by decide, Nat.and_two_pow_sub_one_eq_mod]
  refine ⟨s.toUInt64.toNat % 2 ^ 6, by omega, ?_, by omega⟩
  rw [← Int64.toBitVec_inj, ← BitVec.toNat_inj]
  show (s.toUInt64 &&& Int64.toUInt64 63).toNat = (BitVec.ofNat 64 (s.toUInt64.toNat % 2 ^ 6)).toNat
  rw [e, BitVec.toNat_ofNat]
  omega
/-! plain facts on numbers and arrays, to paste: each family by itself; over the kit's rows on nI and upd -/
/-! ===== order of ints, in all its forms, and through longs ===== -/
theorem fa_lt (a b : Int32) : a < b ↔ a.toInt < b.toInt := Int32.lt_iff_toInt_lt
theorem fa_le (a b : Int32) : a ≤ b ↔ a.toInt ≤ b.toInt := Int32.le_iff_toInt_le
theorem fa_eq (a b : Int32) : a = b ↔ a.toInt = b.toInt := Int32.toInt_inj.symm
theorem fa_lt64 (a b : Int64) : a < b ↔ a.toInt < b.toInt := Int64.lt_iff_toInt_lt
theorem fa_le64 (a b : Int64) : a ≤ b ↔ a.toInt ≤ b.toInt := Int64.le_iff_toInt_le
theorem fa_eq64 (a b : Int64) : a = b ↔ a.toInt = b.toInt := Int64.toInt_inj.symm
/-- a comparison of two ints taken as longs -/
theorem fa_wide_lt (a b : Int32) : a.toInt64 < b.toInt64 ↔ a < b := by rw [fa_lt64, fa_lt, Int32.toInt_toInt64, Int32.toInt_toInt64]
theorem fa_wide_le (a b : Int32) : a.toInt64 ≤ b.toInt64 ↔ a ≤ b := by rw [fa_le64, fa_le, Int32.toInt_toInt64, Int32.toInt_toInt64]
theorem fa_wide_eq (a b : Int32) : a.toInt64 = b.toInt64 ↔ a = b := by rw [fa_eq64, fa_eq, Int32.toInt_toInt64, Int32.toInt_toInt64]
/-- one strict comparison gives all the others -/
theorem fa_of_lt {a b : Int32} (h : a < b) : a ≤ b ∧ ¬ b ≤ a ∧ ¬ b < a ∧ a ≠ b ∧ b ≠ a := by
  rw [fa_lt] at h
  refine ⟨?_, ?_, ?_, ?_, ?_⟩
  · rw [fa_le]; omega
  · rw [fa_le]; omega
  · rw [fa_lt]; omega
  · intro e; rw [fa_eq] at e; omega
  · intro e; rw [fa_eq] at e; omega
theorem fa_of_nlt {a b : Int32} (h : ¬ a < b) : b ≤ a := by
  rw [fa_lt] at h
  rw [fa_le]
  omega
theorem fa_of_nle {a b : Int32} (h : ¬ a ≤ b) : b < a := by
  rw [fa_le] at h
  rw [fa_lt]
  omega
theorem fa_le_ne {a b : Int32} (h : a ≤ b) (h2 : a ≠ b) : a < b := by
  rw [fa_le] at h
  rw [fa_lt]
  have h3 : a.toInt ≠ b.toInt := fun e => h2 ((fa_eq a b).mpr e)
  omega
theorem fa_three (a b : Int32) : a < b ∨ a = b ∨ b < a := by
  rw [fa_lt, fa_lt, fa_eq]
  omega
theorem fa_trans {a b c : Int32} (h : a < b) (h2 : b ≤ c) : a < c := by
  rw [fa_lt] at *
  rw [fa_le] at h2
  omega
/-! ===== small literals as numbers ===== -/
theorem fa_lit (n : Nat) : (OfNat.ofNat n : Int32) = nI n := rfl
theorem fa_litL (n : Nat) : (OfNat.ofNat n : Int64) = lN n := rfl
/-! ===== bits of a number: 'or', masks, one bit ===== -/
theorem fa_and (a b : Nat) : nI a &&& nI b = nI (a &&& b) := by
  apply Int32.toBitVec_inj.1
  show BitVec.ofNat 32 a &&& BitVec.ofNat 32 b = BitVec.ofNat 32 (a &&& b)
  apply BitVec.eq_of_getLsbD_eq
  intro i hi
  simp [hi]
theorem fa_or (a b : Nat) : nI a ||| nI b = nI (a ||| b) := by
  apply Int32.toBitVec_inj.1
  show BitVec.ofNat 32 a ||| BitVec.ofNat 32 b = BitVec.ofNat 32 (a ||| b)
  apply BitVec.eq_of_getLsbD_eq
  intro i hi
  simp [hi]
/-- a remainder by a power of two, as a mask -/
theorem fa_mask (n k : Nat) : nI n &&& nI (2 ^ k - 1) = nI (n % 2 ^ k) := by rw [fa_and, Nat.and_two_pow_sub_one_eq_mod]
/-- 'or' of a high part and a low one that don't meet is their sum -/
theorem fa_or_sum {a k : Nat} (b : Nat) (h : a < 2 ^ k) : nI (2 ^ k * b) ||| nI a = nI (2 ^ k * b + a) := by rw [fa_or, Nat.two_pow_add_eq_or_of_lt h]
/-- one bit, by 'and' with a power of two -/
theorem fa_bit {n j : Nat} (hj : j < 31) : nI n &&& nI (2 ^ j) = 0 ↔ n.testBit j = false := by
  have h2 : (2 : Nat) ^ j < 2 ^ 31 := Nat.pow_lt_pow_right (by decide) hj
  have hle : n &&& 2 ^ j ≤ 2 ^ j := Nat.and_le_right
  have e : n &&& 2 ^ j = 0 ↔ n.testBit j = false := by
    constructor
    · intro h
      have h1 : (n &&& 2 ^ j).testBit j = false := by rw [h]; simp
      rw [Nat.testBit_and] at h1
      first | simpa using h1 | simpa [Nat.testBit_two_pow_self] using h1 | simpa [Nat.testBit_two_pow] using h1
    · intro h
      apply Nat.eq_of_testBit_eq
      intro i
      rw [Nat.testBit_and]
      by_cases hi : j = i
      · subst hi; simp [h]
      · first | (simp [Nat.testBit_two_pow, hi]; done) | (simp [Nat.testBit_two_pow_of_ne hi]; done)
  rw [fa_and]
  constructor
  · intro h
    apply e.mp
    rcases Nat.eq_zero_or_pos (n &&& 2 ^ j) with z | z
    · exact z
    · exact absurd h (nI_ne0 z (Nat.lt_of_le_of_lt hle h2))
  · intro h
    rw [e.mpr h]; exact nI_0
/-- a remainder by a power of two of a number that isn't negative, as Java divides -/
theorem fa_rem {a k : Nat} (ha : a < 2 ^ 31) (hk : k < 31) : nI a - nI a / nI (2 ^ k) * nI (2 ^ k) = nI (a % 2 ^ k) := pk_rem ha (Nat.two_pow_pos k) (Nat.pow_lt_pow_right (by decide) hk)
/-! ===== cuts to a byte, a short ===== -/
theorem fa_byte_xor (x y : Int32) : (x ^^^ y).toInt8 = x.toInt8 ^^^ y.toInt8 := by
  apply Int8.toBitVec_inj.1
  apply BitVec.eq_of_getLsbD_eq
  intro i hi
  first | (simp [hi]; done) | (simp [hi, BitVec.getLsbD_setWidth, BitVec.getLsbD_signExtend]; done)
theorem fa_short_xor (x y : Int32) : (x ^^^ y).toInt16 = x.toInt16 ^^^ y.toInt16 := by
  apply Int16.toBitVec_inj.1
  apply BitVec.eq_of_getLsbD_eq
  intro i hi
  first | (simp [hi]; done) | (simp [hi, BitVec.getLsbD_setWidth, BitVec.getLsbD_signExtend]; done)
/-- the cut to a byte sees the low byte alone -/
theorem fa_byte_low (x : Int32) : (x &&& 255).toInt8 = x.toInt8 := by
  apply Int8.toBitVec_inj.1
  apply BitVec.eq_of_getLsbD_eq
  intro i hi
  have h2 : (255 : Int32).toBitVec.getLsbD i = true := by
    have : ∀ j : Fin 8, (255 : Int32).toBitVec.getLsbD j.val = true := by decide +kernel
    exact this ⟨i, hi⟩
  have h4 : (x &&& 255).toBitVec.getLsbD i = x.toBitVec.getLsbD i := by
    show (x.toBitVec &&& (255 : Int32).toBitVec).getLsbD i = _
    rw [BitVec.getLsbD_and, h2, Bool.and_true]
  have h3 : i < 32 := by omega
  first
    | (show (((x &&& 255).toBitVec).signExtend 8).getLsbD i = (x.toBitVec.signExtend 8).getLsbD i; rw [BitVec.getLsbD_signExtend, BitVec.getLsbD_signExtend, if_pos h3, if_pos h3, h4])
    | (show (((x &&& 255).toBitVec).setWidth 8).getLsbD i = (x.toBitVec.setWidth 8).getLsbD i; rw [BitVec.getLsbD_setWidth, BitVec.getLsbD_setWidth, h4])
    | (simp [hi, h3, h4]; done)
theorem fa_short_low (x : Int32) : (x &&& 65535).toInt16 = x.toInt16 := by
  apply Int16.toBitVec_inj.1
  apply BitVec.eq_of_getLsbD_eq
  intro i hi
  have h2 : (65535 : Int32).toBitVec.getLsbD i = true := by
    have : ∀ j : Fin 16, (65535 : Int32).toBitVec.getLsbD j.val = true := by decide +kernel
    exact this ⟨i, hi⟩
  have h4 : (x &&& 65535).toBitVec.getLsbD i = x.toBitVec.getLsbD i := by
    show (x.toBitVec &&& (65535 : Int32).toBitVec).getLsbD i = _
    rw [BitVec.getLsbD_and, h2, Bool.and_true]
  have h3 : i < 32 := by omega
  first
    | (show (((x &&& 65535).toBitVec).signExtend 16).getLsbD i = (x.toBitVec.signExtend 16).getLsbD i; rw [BitVec.getLsbD_signExtend, BitVec.getLsbD_signExtend, if_pos h3, if_pos h3, h4])
    | (show (((x &&& 65535).toBitVec).setWidth 16).getLsbD i = (x.toBitVec.setWidth 16).getLsbD i; rw [BitVec.getLsbD_setWidth, BitVec.getLsbD_setWidth, h4])
    | (simp [hi, h3, h4]; done)
/-- a small number is its own byte, its own short -/
theorem fa_byte_small {n : Nat} (h : n < 128) : (nI n).toInt8.toInt32 = nI n := by
  have : ∀ j : Fin 128, (nI j.val).toInt8.toInt32 = nI j.val := by decide +kernel
  exact this ⟨n, h⟩
/-! ===== absolute difference ===== -/
theorem fa_absdiff {a b : Nat} (ha : a < 2 ^ 31) (hb : b < 2 ^ 31) : (if nI a < nI b then nI b - nI a else nI a - nI b) = nI (if a < b then b - a else a - b) := by
  by_cases h : a < b
  · rw [if_pos (nI_lt h hb), if_pos h]
    exact pk_sub (Nat.le_of_lt h)
  · rw [if_neg (nI_nlt (Nat.le_of_not_lt h) ha), if_neg h]
    exact pk_sub (Nat.le_of_not_lt h)
/-! ===== an array behind i stores, a conditional store, a row copied ===== -/
/-- f where k < i, what stood there else -/
def fa_fill {α : Type} (f g : Nat → α) (i : Nat) : Nat → α := fun k => if k < i then f k else g k
theorem fa_fill_0 {α : Type} (f g : Nat → α) : fa_fill f g 0 = g := funext fun k => if_neg (Nat.not_lt_zero k)
theorem fa_fill_in {α : Type} {f g : Nat → α} {i k : Nat} (h : k < i) : fa_fill f g i k = f k := if_pos h
theorem fa_fill_out {α : Type} {f g : Nat → α} {i k : Nat} (h : i ≤ k) : fa_fill f g i k = g k := if_neg (Nat.not_lt.mpr h)
theorem fa_fill_succ (f g : Nat → Int32) (i : Nat) : upd (fa_fill f g i) i (f i) = fa_fill f g (i + 1) := by
  funext k
  by_cases e : k = i
  · subst e
    rw [pk_us]
    exact (if_pos (Nat.lt_succ_self k)).symm
  · rw [pk_un e]
    by_cases h : k < i
    · rw [fa_fill_in h, fa_fill_in (Nat.lt_succ_of_lt h)]
    · rw [fa_fill_out (Nat.le_of_not_lt h), fa_fill_out (by omega)]
/-- a store that changes nothing -/
theorem fa_upd_same {f : Nat → Int32} {i : Nat} {x : Int32} (h : f i = x) : upd f i x = f := by
  funext k
  by_cases e : k = i
  · subst e
    rw [pk_us, h]
  · rw [pk_un e]
/-- a store under a condition, told as one -/
theorem fa_upd_if (c : Prop) [Decidable c] (f : Nat → Int32) (i : Nat) (x : Int32) : (if c then upd f i x else f) = upd f i (if c then x else f i) := by
  by_cases h : c
  · rw [if_pos h, if_pos h]
  · rw [if_neg h, if_neg h, fa_upd_same rfl]
/-- two stores at one place, at two -/
theorem fa_upd_twice (f : Nat → Int32) (i : Nat) (x y : Int32) : upd (upd f i x) i y = upd f i y := by
  funext k
  by_cases e : k = i
  · subst e
    rw [pk_us, pk_us]
  · rw [pk_un e, pk_un e, pk_un e]
theorem fa_upd_swap (f : Nat → Int32) {i j : Nat} (h : i ≠ j) (x y : Int32) : upd (upd f i x) j y = upd (upd f j y) i x := by
  funext k
  by_cases e : k = i
  · subst e
    rw [pk_un h, pk_us, pk_us]
  · by_cases e2 : k = j
    · subst e2
      rw [pk_us, pk_un e, pk_us]
    · rw [pk_un e2, pk_un e, pk_un e, pk_un e2]
/-! ===== the first index with a property; a count ===== -/
/-- the first k < n with p k, n if there is none -/
def fa_first (p : Nat → Bool) : Nat → Nat
  | 0 => 0
  | n + 1 => if fa_first p n < n then fa_first p n else if p n then n else n + 1
theorem fa_first_le (p : Nat → Bool) : ∀ n, fa_first p n ≤ n
  | 0 => Nat.le_refl 0
  | n + 1 => by
    have ih := fa_first_le p n
    unfold fa_first
    split
    · omega
    · split
      · omega
      · omega
theorem fa_first_no (p : Nat → Bool) : ∀ n k, k < fa_first p n → p k = false
  | 0, k, h => absurd h (Nat.not_lt_zero k)
  | n + 1, k, h => by
    have ih := fa_first_no p n
    have hl := fa_first_le p n
    unfold fa_first at h
    split at h
    · exact ih k h
    · rename_i h1
      split at h
      · exact ih k (by omega)
      · rename_i h2
        by_cases e : k = n
        · subst e
          exact Bool.eq_false_iff.mpr h2
        · exact ih k (by omega)
theorem fa_first_yes (p : Nat → Bool) : ∀ n, fa_first p n < n → p (fa_first p n) = true
  | 0, h => absurd h (Nat.not_lt_zero _)
  | n + 1, h => by
    have ih := fa_first_yes p n
    have hl := fa_first_le p n
    unfold fa_first at h ⊢
    split at h
    · rename_i h1
      rw [if_pos h1]
      exact ih h1
    · rename_i h1
      rw [if_neg h1]
      split at h
      · rename_i h2
        rw [if_pos h2]
        exact h2
      · omega
/-- how many k < n have p k -/
def fa_cnt (p : Nat → Bool) : Nat → Nat
  | 0 => 0
  | n + 1 => fa_cnt p n + if p n then 1 else 0
theorem fa_cnt_le (p : Nat → Bool) : ∀ n, fa_cnt p n ≤ n
  | 0 => Nat.le_refl 0
  | n + 1 => by
    have ih := fa_cnt_le p n
    unfold fa_cnt
    split
    · omega
    · omega
theorem fa_cnt_yes {p : Nat → Bool} {n : Nat} (h : p n = true) : fa_cnt p (n + 1) = fa_cnt p n + 1 := by rw [fa_cnt, if_pos h]
theorem fa_cnt_no {p : Nat → Bool} {n : Nat} (h : p n = false) : fa_cnt p (n + 1) = fa_cnt p n := by rw [fa_cnt, if_neg (by rw [h]; decide)]; rfl
theorem fa_cnt_cong {p q : Nat → Bool} : ∀ {n : Nat}, (∀ k, k < n → p k = q k) → fa_cnt p n = fa_cnt q n
  | 0, _ => rfl
  | n + 1, h => by rw [fa_cnt, fa_cnt, fa_cnt_cong (fun k hk => h k (Nat.lt_succ_of_lt hk)), h n (Nat.lt_succ_self n)]
/-! ===== an answer carried into a post; a branch on a boolean answer ===== -/
theorem fa_post {α : Type} {P : α → Prop} {x y : α} (h : x = y) (hp : P y) : P x := h ▸ hp
theorem fa_post2 {α β : Type} {P : α → β → Prop} {x y : α} {u v : β} (h : x = y) (h2 : u = v) (hp : P y v) : P x u := h ▸ h2 ▸ hp
theorem fa_bool {r : Int32} {b : Bool} (h : r = if b then 1 else 0) : (r = 0 ↔ b = false) ∧ (¬ r = 0 ↔ b = true) := by
  subst h
  cases b
  · exact ⟨⟨fun _ => rfl, fun _ => rfl⟩, ⟨fun h => absurd rfl h, fun h => absurd h (by decide)⟩⟩
  · exact ⟨⟨fun h => absurd h (by decide), fun h => absurd h (by decide)⟩, ⟨fun _ => rfl, fun _ => by decide⟩⟩
/-- a boolean's narrowing changes nothing -/
theorem fa_bool_and {r : Int32} (h : r = 0 ∨ r = 1) : r &&& 1 = r := by
  rcases h with rfl | rfl
  · decide
  · decide
theorem fa_bool_prop {c : Prop} [Decidable c] {r : Int32} (h : r = if c then 1 else 0) : (r = 0 ↔ ¬ c) ∧ (¬ r = 0 ↔ c) := by
  subst h
  by_cases hc : c
  · rw [if_pos hc]
    exact ⟨⟨fun h => absurd h (by decide), fun h => absurd hc h⟩, ⟨fun _ => hc, fun _ => by decide⟩⟩
  · rw [if_neg hc]
    exact ⟨⟨fun _ => hc, fun _ => rfl⟩, ⟨fun h => absurd rfl h, fun h => absurd h hc⟩⟩
/-! plain facts to paste, each family by itself; over the kit's nI, lN and upd -/
/-! ===== drawers: more things than places ===== -/
theorem fb_holes : ∀ (m n : Nat) (f : Nat → Nat), (∀ i, i < n → f i < m) → (∀ i j, i < j → j < n → f i ≠ f j) → n ≤ m := by
  intro m
  induction m with
  | zero =>
    intro n f h1 _
    rcases Nat.eq_zero_or_pos n with h | h
    · omega
    · exact absurd (h1 0 h) (Nat.not_lt_zero _)
  | succ m ih =>
    intro n f h1 h2
    by_cases hx : ∃ i, i < n ∧ f i = m
    · obtain ⟨a, ha, hfa⟩ := hx
      have hg := ih (n - 1) (fun i => if i < a then f i else f (i + 1)) (by
        intro i hi
        by_cases q : i < a
        · simp only [if_pos q]
          have b1 := h1 i (by omega)
          have b2 := h2 i a q ha
          omega
        · simp only [if_neg q]
          have b1 := h1 (i + 1) (by omega)
          have b2 := h2 a (i + 1) (by omega) (by omega)
          omega) (by
        intro i j hij hj
        by_cases q : i < a
        · by_cases r : j < a
          · simp only [if_pos q, if_pos r]
            exact h2 i j hij (by omega)
          · simp only [if_pos q, if_neg r]
            exact h2 i (j + 1) (by omega) (by omega)
        · have r : ¬ j < a := by omega
          simp only [if_neg q, if_neg r]
          exact h2 (i + 1) (j + 1) (by omega) (by omega))
      omega
    · have hg := ih n f (fun i hi => by
        have b1 := h1 i hi
        have b2 : f i ≠ m := fun e => hx ⟨i, hi, e⟩
        omega) h2
      omega
/-- two of them in one place -/
theorem fb_twice {m n : Nat} {f : Nat → Nat} (h : ∀ i, i < n → f i < m) (hm : m < n) : ∃ i j, i < j ∧ j < n ∧ f i = f j := by
  refine Classical.byContradiction fun hx => ?_
  have := fb_holes m n f h (fun i j hij hj e => hx ⟨i, j, hij, hj, e⟩)
  omega
/-- as many as places, none twice: each place is taken -/
theorem fb_onto {n : Nat} {f : Nat → Nat} (h : ∀ i, i < n → f i < n) (h2 : ∀ i j, i < j → j < n → f i ≠ f j) {y : Nat} (hy : y < n) : ∃ i, i < n ∧ f i = y := by
  refine Classical.byContradiction fun hx => ?_
  have hne : ∀ i, i < n → f i ≠ y := fun i hi e => hx ⟨i, hi, e⟩
  have := fb_holes (n - 1) n (fun i => if f i < y then f i else f i - 1) (by
    intro i hi
    have b1 := h i hi
    have b2 := hne i hi
    by_cases q : f i < y
    · simp only [if_pos q]; omega
    · simp only [if_neg q]; omega) (by
    intro i j hij hj
    have b1 := hne i (by omega)
    have b2 := hne j hj
    have b3 := h2 i j hij hj
    by_cases q : f i < y
    · by_cases r : f j < y
      · simp only [if_pos q, if_pos r]; exact b3
      · simp only [if_pos q, if_neg r]; omega
    · by_cases r : f j < y
      · simp only [if_neg q, if_pos r]; omega
      · simp only [if_neg q, if_neg r]; omega)
  omega
/-! ===== how many places have a property ===== -/
def fb_ct (p : Nat → Bool) : Nat → Nat
  | 0 => 0
  | n + 1 => fb_ct p n + (if p n then 1 else 0)
theorem fb_ct_succ (p : Nat → Bool) (n : Nat) : fb_ct p (n + 1) = fb_ct p n + (if p n then 1 else 0) := rfl
theorem fb_ct_le (p : Nat → Bool) : ∀ n, fb_ct p n ≤ n
  | 0 => Nat.le_refl _
  | n + 1 => by
    have h := fb_ct_le p n
    rw [fb_ct_succ]
    split <;> omega
theorem fb_ct_step (p : Nat → Bool) (m : Nat) : ∀ n, fb_ct p m ≤ fb_ct p (m + n)
  | 0 => Nat.le_refl _
  | n + 1 => by
    have h := fb_ct_step p m n
    show fb_ct p m ≤ fb_ct p (m + n + 1)
    rw [fb_ct_succ]
    omega
theorem fb_ct_mono (p : Nat → Bool) {m n : Nat} (h : m ≤ n) : fb_ct p m ≤ fb_ct p n := by
  have := fb_ct_step p m (n - m)
  rwa [Nat.add_sub_cancel' h] at this
theorem fb_ct_cong {p q : Nat → Bool} : ∀ {n : Nat}, (∀ k, k < n → p k = q k) → fb_ct p n = fb_ct q n
  | 0, _ => rfl
  | n + 1, h => by
    rw [fb_ct_succ, fb_ct_succ, fb_ct_cong (fun k hk => h k (by omega)), h n (by omega)]
/-- one place changed -/
theorem fb_ct_out (p : Nat → Bool) (b : Bool) {i n : Nat} (h : n ≤ i) : fb_ct (fun k => if k = i then b else p k) n = fb_ct p n :=
  fb_ct_cong fun k hk => if_neg (by omega)
theorem fb_ct_upd (p : Nat → Bool) (b : Bool) {i : Nat} : ∀ {n : Nat}, i < n → fb_ct (fun k => if k = i then b else p k) n + (if p i then 1 else 0) = fb_ct p n + (if b then 1 else 0)
  | 0, h => absurd h (Nat.not_lt_zero i)
  | n + 1, h => by
    rw [fb_ct_succ, fb_ct_succ]
    rcases Nat.lt_or_ge i n with q | q
    · have := fb_ct_upd p b q
      have e : (if n = i then b else p n) = p n := if_neg (by omega)
      rw [e]
      omega
    · have e : i = n := by omega
      subst e
      rw [fb_ct_out p b (Nat.le_refl _)]
      simp only [if_true]
      omega
theorem fb_ct_sub {p q : Nat → Bool} : ∀ {n : Nat}, (∀ k, k < n → p k = true → q k = true) → fb_ct p n ≤ fb_ct q n
  | 0, _ => Nat.le_refl _
  | n + 1, h => by
    have h1 := fb_ct_sub (n := n) (p := p) (q := q) (fun k hk => h k (by omega))
    have h2 := h n (by omega)
    rw [fb_ct_succ, fb_ct_succ]
    cases hp : p n <;> cases hq : q n <;> simp_all <;> omega
theorem fb_ct_or {p q : Nat → Bool} : ∀ {n : Nat}, (∀ k, k < n → ¬ (p k = true ∧ q k = true)) → fb_ct (fun k => p k || q k) n = fb_ct p n + fb_ct q n
  | 0, _ => rfl
  | n + 1, h => by
    have h1 := fb_ct_or (n := n) (p := p) (q := q) (fun k hk => h k (by omega))
    have h2 := h n (by omega)
    rw [fb_ct_succ, fb_ct_succ, fb_ct_succ, h1]
    cases hp : p n <;> cases hq : q n <;> simp_all <;> omega
theorem fb_ct_not (p : Nat → Bool) : ∀ n, fb_ct p n + fb_ct (fun k => !p k) n = n
  | 0 => rfl
  | n + 1 => by
    have h := fb_ct_not p n
    rw [fb_ct_succ, fb_ct_succ]
    cases p n <;> simp <;> omega
theorem fb_ct_split (p : Nat → Bool) (m : Nat) : ∀ n, fb_ct p (m + n) = fb_ct p m + fb_ct (fun k => p (m + k)) n
  | 0 => rfl
  | n + 1 => by
    have h := fb_ct_split p m n
    show fb_ct p (m + n + 1) = _
    rw [fb_ct_succ, fb_ct_succ, h, Nat.add_assoc]
theorem fb_ct_zero {p : Nat → Bool} : ∀ {n : Nat}, fb_ct p n = 0 ↔ ∀ k, k < n → p k = false
  | 0 => ⟨fun _ k hk => absurd hk (Nat.not_lt_zero k), fun _ => rfl⟩
  | n + 1 => by
    have h := fb_ct_zero (p := p) (n := n)
    rw [fb_ct_succ]
    constructor
    · intro e k hk
      have e1 : fb_ct p n = 0 := by omega
      rcases Nat.lt_or_ge k n with q | q
      · exact h.mp e1 k q
      · have ek : k = n := by omega
        subst ek
        cases hp : p k
        · rfl
        · simp [hp] at e
    · intro a
      rw [h.mpr (fun k hk => a k (by omega)), a n (by omega)]
      rfl
theorem fb_ct_pos {p : Nat → Bool} {n : Nat} : 0 < fb_ct p n ↔ ∃ k, k < n ∧ p k = true := by
  constructor
  · intro h
    refine Classical.byContradiction fun hx => ?_
    have := fb_ct_zero.mpr (fun k hk => by
      cases hp : p k
      · rfl
      · exact absurd ⟨k, hk, hp⟩ hx : ∀ k, k < n → p k = false)
    omega
  · rintro ⟨k, hk, hp⟩
    rcases Nat.eq_zero_or_pos (fb_ct p n) with e | e
    · have := fb_ct_zero.mp e k hk
      rw [this] at hp
      cases hp
    · exact e
theorem fb_ct_all {p : Nat → Bool} {n : Nat} : fb_ct p n = n ↔ ∀ k, k < n → p k = true := by
  have h := fb_ct_not p n
  constructor
  · intro e k hk
    have z : fb_ct (fun k => !p k) n = 0 := by omega
    have := fb_ct_zero.mp z k hk
    cases hp : p k
    · simp [hp] at this
    · rfl
  · intro a
    have z : fb_ct (fun k => !p k) n = 0 := fb_ct_zero.mpr (fun k hk => by simp [a k hk])
    omega
/-- the k-th place with the property -/
theorem fb_ct_kth {p : Nat → Bool} {k : Nat} : ∀ {n : Nat}, k < fb_ct p n → ∃ i, i < n ∧ p i = true ∧ fb_ct p i = k
  | 0, h => absurd h (Nat.not_lt_zero k)
  | n + 1, h => by
    rcases Nat.lt_or_ge k (fb_ct p n) with q | q
    · obtain ⟨i, h1, h2⟩ := fb_ct_kth q
      exact ⟨i, by omega, h2⟩
    · rw [fb_ct_succ] at h
      cases hp : p n
      · simp [hp] at h; omega
      · simp [hp] at h
        exact ⟨n, by omega, hp, by omega⟩
theorem fb_ct_kth_one {p : Nat → Bool} {i j : Nat} (hi : p i = true) (hj : p j = true) (e : fb_ct p i = fb_ct p j) : i = j := by
  have key : ∀ a b : Nat, a < b → p a = true → fb_ct p a < fb_ct p b := by
    intro a b hab ha
    have h := fb_ct_mono p (show a + 1 ≤ b from hab)
    rw [fb_ct_succ, ha] at h
    simp at h
    omega
  rcases Nat.lt_trichotomy i j with q | q | q
  · have := key i j q hi; omega
  · exact q
  · have := key j i q hj; omega
/-! ===== sums over a range: one place changed, parts, bounds ===== -/
def fb_sm (f : Nat → Nat) : Nat → Nat
  | 0 => 0
  | n + 1 => fb_sm f n + f n
theorem fb_sm_succ (f : Nat → Nat) (n : Nat) : fb_sm f (n + 1) = fb_sm f n + f n := rfl
theorem fb_sm_cong {f g : Nat → Nat} : ∀ {n : Nat}, (∀ k, k < n → f k = g k) → fb_sm f n = fb_sm g n
  | 0, _ => rfl
  | n + 1, h => by rw [fb_sm_succ, fb_sm_succ, fb_sm_cong (fun k hk => h k (by omega)), h n (by omega)]
theorem fb_sm_out (f : Nat → Nat) (v : Nat) {i n : Nat} (h : n ≤ i) : fb_sm (fun k => if k = i then v else f k) n = fb_sm f n :=
  fb_sm_cong fun k hk => if_neg (by omega)
theorem fb_sm_upd (f : Nat → Nat) (v : Nat) {i : Nat} : ∀ {n : Nat}, i < n → fb_sm (fun k => if k = i then v else f k) n + f i = fb_sm f n + v
  | 0, h => absurd h (Nat.not_lt_zero i)
  | n + 1, h => by
    rw [fb_sm_succ, fb_sm_succ]
    rcases Nat.lt_or_ge i n with q | q
    · have := fb_sm_upd f v q
      have e : (if n = i then v else f n) = f n := if_neg (by omega)
      rw [e]
      omega
    · have e : i = n := by omega
      subst e
      rw [fb_sm_out f v (Nat.le_refl _)]
      simp only [if_true]
      omega
theorem fb_sm_add (f g : Nat → Nat) : ∀ n, fb_sm (fun k => f k + g k) n = fb_sm f n + fb_sm g n
  | 0 => rfl
  | n + 1 => by
    have h := fb_sm_add f g n
    rw [fb_sm_succ, fb_sm_succ, fb_sm_succ, h]
    omega
theorem fb_sm_le {f g : Nat → Nat} : ∀ {n : Nat}, (∀ k, k < n → f k ≤ g k) → fb_sm f n ≤ fb_sm g n
  | 0, _ => Nat.le_refl _
  | n + 1, h => by
    have h1 := fb_sm_le (n := n) (f := f) (g := g) (fun k hk => h k (by omega))
    have h2 := h n (by omega)
    rw [fb_sm_succ, fb_sm_succ]
    omega
theorem fb_sm_const (c : Nat) : ∀ n, fb_sm (fun _ => c) n = n * c
  | 0 => by rw [Nat.zero_mul]; rfl
  | n + 1 => by rw [fb_sm_succ, fb_sm_const c n, Nat.succ_mul]
theorem fb_sm_bound {f : Nat → Nat} {c n : Nat} (h : ∀ k, k < n → f k ≤ c) : fb_sm f n ≤ n * c := by
  rw [← fb_sm_const c n]
  exact fb_sm_le h
theorem fb_sm_mono (f : Nat → Nat) (m : Nat) : ∀ n, fb_sm f m ≤ fb_sm f (m + n)
  | 0 => Nat.le_refl _
  | n + 1 => by
    have h := fb_sm_mono f m n
    show fb_sm f m ≤ fb_sm f (m + n + 1)
    rw [fb_sm_succ]
    omega
theorem fb_sm_part (f : Nat → Nat) {i n : Nat} (h : i < n) : fb_sm f i + f i ≤ fb_sm f n := by
  have := fb_sm_mono f (i + 1) (n - (i + 1))
  rw [fb_sm_succ, show i + 1 + (n - (i + 1)) = n by omega] at this
  exact this
theorem fb_sm_split (f : Nat → Nat) (m : Nat) : ∀ n, fb_sm f (m + n) = fb_sm f m + fb_sm (fun k => f (m + k)) n
  | 0 => rfl
  | n + 1 => by
    have h := fb_sm_split f m n
    show fb_sm f (m + n + 1) = _
    rw [fb_sm_succ, fb_sm_succ, h, Nat.add_assoc]
theorem fb_sm_zero {f : Nat → Nat} {n : Nat} (h : fb_sm f n = 0) : ∀ k, k < n → f k = 0 := fun k hk => by
  have := fb_sm_part f hk
  omega
/-- the same over whole numbers -/
def fb_si (f : Nat → Int) : Nat → Int
  | 0 => 0
  | n + 1 => fb_si f n + f n
theorem fb_si_succ (f : Nat → Int) (n : Nat) : fb_si f (n + 1) = fb_si f n + f n := rfl
theorem fb_si_cong {f g : Nat → Int} : ∀ {n : Nat}, (∀ k, k < n → f k = g k) → fb_si f n = fb_si g n
  | 0, _ => rfl
  | n + 1, h => by rw [fb_si_succ, fb_si_succ, fb_si_cong (fun k hk => h k (by omega)), h n (by omega)]
theorem fb_si_out (f : Nat → Int) (v : Int) {i n : Nat} (h : n ≤ i) : fb_si (fun k => if k = i then v else f k) n = fb_si f n :=
  fb_si_cong fun k hk => if_neg (by omega)
theorem fb_si_upd (f : Nat → Int) (v : Int) {i : Nat} : ∀ {n : Nat}, i < n → fb_si (fun k => if k = i then v else f k) n = fb_si f n - f i + v
  | 0, h => absurd h (Nat.not_lt_zero i)
  | n + 1, h => by
    rw [fb_si_succ, fb_si_succ]
    rcases Nat.lt_or_ge i n with q | q
    · have := fb_si_upd f v q
      have e : (if n = i then v else f n) = f n := if_neg (by omega)
      rw [e]
      omega
    · have e : i = n := by omega
      subst e
      rw [fb_si_out f v (Nat.le_refl _)]
      simp only [if_true]
      omega
theorem fb_si_add (f g : Nat → Int) : ∀ n, fb_si (fun k => f k + g k) n = fb_si f n + fb_si g n
  | 0 => rfl
  | n + 1 => by
    have h := fb_si_add f g n
    rw [fb_si_succ, fb_si_succ, fb_si_succ, h]
    omega
theorem fb_si_sub (f g : Nat → Int) : ∀ n, fb_si (fun k => f k - g k) n = fb_si f n - fb_si g n
  | 0 => rfl
  | n + 1 => by
    have h := fb_si_sub f g n
    rw [fb_si_succ, fb_si_succ, fb_si_succ, h]
    omega
theorem fb_si_mul (c : Int) (f : Nat → Int) : ∀ n, fb_si (fun k => c * f k) n = c * fb_si f n
  | 0 => (Int.mul_zero c).symm
  | n + 1 => by
    have h := fb_si_mul c f n
    rw [fb_si_succ, fb_si_succ, h, Int.mul_add]
theorem fb_si_split (f : Nat → Int) (m : Nat) : ∀ n, fb_si f (m + n) = fb_si f m + fb_si (fun k => f (m + k)) n
  | 0 => (Int.add_zero _).symm
  | n + 1 => by
    have h := fb_si_split f m n
    show fb_si f (m + n + 1) = _
    rw [fb_si_succ, fb_si_succ, h, Int.add_assoc]
theorem fb_si_nat (f : Nat → Nat) : ∀ n, fb_si (fun k => (f k : Int)) n = (fb_sm f n : Int)
  | 0 => rfl
  | n + 1 => by
    have h := fb_si_nat f n
    rw [fb_si_succ, fb_sm_succ, h]
    omega
theorem fb_si_bound {f : Nat → Int} {c : Int} (hc : 0 ≤ c) : ∀ {n : Nat}, (∀ k, k < n → -c ≤ f k ∧ f k ≤ c) → -(n * c) ≤ fb_si f n ∧ fb_si f n ≤ n * c
  | 0, _ => by simp [fb_si]
  | n + 1, h => by
    have h1 := fb_si_bound (n := n) (f := f) hc (fun k hk => h k (by omega))
    have h2 := h n (by omega)
    have e : ((n + 1 : Nat) : Int) * c = n * c + c := by rw [Int.natCast_add, Int.add_mul]; simp
    rw [fb_si_succ, e]
    omega
/-! ===== bits of a long that isn't negative ===== -/
theorem fb_andL (a b : Nat) : lN a &&& lN b = lN (a &&& b) := by
  apply Int64.toBitVec_inj.1
  show BitVec.ofNat 64 a &&& BitVec.ofNat 64 b = BitVec.ofNat 64 (a &&& b)
  apply BitVec.eq_of_getLsbD_eq
  intro i hi
  simp [hi]
theorem fb_orL (a b : Nat) : lN a ||| lN b = lN (a ||| b) := by
  apply Int64.toBitVec_inj.1
  show BitVec.ofNat 64 a ||| BitVec.ofNat 64 b = BitVec.ofNat 64 (a ||| b)
  apply BitVec.eq_of_getLsbD_eq
  intro i hi
  simp [hi]
theorem fb_xorL (a b : Nat) : lN a ^^^ lN b = lN (a ^^^ b) := by
  apply Int64.toBitVec_inj.1
  show BitVec.ofNat 64 a ^^^ BitVec.ofNat 64 b = BitVec.ofNat 64 (a ^^^ b)
  apply BitVec.eq_of_getLsbD_eq
  intro i hi
  simp [hi]
theorem fb_xorI (a b : Nat) : nI a ^^^ nI b = nI (a ^^^ b) := by
  apply Int32.toBitVec_inj.1
  show BitVec.ofNat 32 a ^^^ BitVec.ofNat 32 b = BitVec.ofNat 32 (a ^^^ b)
  apply BitVec.eq_of_getLsbD_eq
  intro i hi
  simp [hi]
theorem fb_maskL (n k : Nat) : lN n &&& lN (2 ^ k - 1) = lN (n % 2 ^ k) := by rw [fb_andL, Nat.and_two_pow_sub_one_eq_mod]
theorem fb_or_sumL {a k : Nat} (b : Nat) (h : a < 2 ^ k) : lN (2 ^ k * b) ||| lN a = lN (2 ^ k * b + a) := by rw [fb_orL, Nat.two_pow_add_eq_or_of_lt h]
theorem fb_lN_inj {a b : Nat} (ha : a < 2 ^ 63) (hb : b < 2 ^ 63) : lN a = lN b ↔ a = b := by
  constructor
  · intro h
    have h1 : (BitVec.ofNat 64 a).toNat = (BitVec.ofNat 64 b).toNat := congrArg (fun x : Int64 => x.toBitVec.toNat) h
    rw [BitVec.toNat_ofNat, BitVec.toNat_ofNat, Nat.mod_eq_of_lt (by omega), Nat.mod_eq_of_lt (by omega)] at h1
    exact h1
  · rintro rfl; rfl
theorem fb_bit_nat (n j : Nat) : n &&& 2 ^ j = 0 ↔ n.testBit j = false := by
  constructor
  · intro h
    have h1 : (n &&& 2 ^ j).testBit j = false := by rw [h]; simp
    rw [Nat.testBit_and] at h1
    simpa using h1
  · intro h
    apply Nat.eq_of_testBit_eq
    intro i
    rw [Nat.testBit_and]
    by_cases hi : j = i
    · subst hi; simp [h]
    · first | (simp [Nat.testBit_two_pow, hi]; done) | (simp [Nat.testBit_two_pow_of_ne hi]; done)
/-- one bit of a long -/
theorem fb_bitL {n j : Nat} (hj : j < 63) : lN n &&& lN (2 ^ j) = 0 ↔ n.testBit j = false := by
  have h2 : (2 : Nat) ^ j < 2 ^ 63 := Nat.pow_lt_pow_right (by decide) hj
  have hle : n &&& 2 ^ j ≤ 2 ^ j := Nat.and_le_right
  rw [fb_andL, ← fb_bit_nat, show (0 : Int64) = lN 0 from rfl]
  exact fb_lN_inj (by omega) (by decide)
/-- a bit set, a bit taken off -/
theorem fb_bit_set (n j i : Nat) : (n ||| 2 ^ j).testBit i = (n.testBit i || decide (i = j)) := by
  rw [Nat.testBit_or]
  by_cases h : j = i
  · subst h; simp
  · have h2 : ¬ i = j := fun e => h e.symm
    first | (simp [Nat.testBit_two_pow, h, h2]; done) | (simp [Nat.testBit_two_pow_of_ne h, h2]; done)
theorem fb_bit_flip (n j i : Nat) : (n ^^^ 2 ^ j).testBit i = (n.testBit i ^^ decide (i = j)) := by
  rw [Nat.testBit_xor]
  by_cases h : j = i
  · subst h; simp
  · have h2 : ¬ i = j := fun e => h e.symm
    first | (simp [Nat.testBit_two_pow, h, h2]; done) | (simp [Nat.testBit_two_pow_of_ne h, h2]; done)
/-! ===== a stretch of an array written over by a function ===== -/
def fb_put {α : Type} (f g : Nat → α) (a n : Nat) : Nat → α := fun k => if a ≤ k ∧ k < a + n then g (k - a) else f k
theorem fb_put_0 {α : Type} (f g : Nat → α) (a : Nat) : fb_put f g a 0 = f := funext fun k => if_neg (by omega)
theorem fb_put_in {α : Type} {f g : Nat → α} {a n k : Nat} (h1 : a ≤ k) (h2 : k < a + n) : fb_put f g a n k = g (k - a) := if_pos ⟨h1, h2⟩
theorem fb_put_out {α : Type} {f g : Nat → α} {a n k : Nat} (h : k < a ∨ a + n ≤ k) : fb_put f g a n k = f k := if_neg (by omega)
theorem fb_put_succ (f g : Nat → Int32) (a n : Nat) : upd (fb_put f g a n) (a + n) (g n) = fb_put f g a (n + 1) := by
  funext k
  by_cases h : k = a + n
  · subst h
    simp [upd, fb_put]
  · by_cases h1 : a ≤ k ∧ k < a + n
    · have h2 : a ≤ k ∧ k < a + (n + 1) := by omega
      simp only [upd, fb_put, if_neg h, if_pos h1, if_pos h2]
    · have h2 : ¬ (a ≤ k ∧ k < a + (n + 1)) := by omega
      simp only [upd, fb_put, if_neg h, if_neg h1, if_neg h2]
/-- .. from the far end down -/
theorem fb_put_down (f g : Nat → Int32) {a n m : Nat} (h : m < n) : upd (fb_put f (fun k => g (k + (m + 1))) (a + (m + 1)) (n - (m + 1))) (a + m) (g m) = fb_put f (fun k => g (k + m)) (a + m) (n - m) := by
  funext k
  by_cases h0 : k = a + m
  · subst h0
    simp only [upd, if_true]
    rw [fb_put_in (by omega) (by omega)]
    exact congrArg g (by omega)
  · simp only [upd, if_neg h0]
    by_cases h1 : a + (m + 1) ≤ k ∧ k < a + (m + 1) + (n - (m + 1))
    · rw [fb_put_in h1.1 h1.2, fb_put_in (by omega) (by omega)]
      exact congrArg g (by omega)
    · rw [fb_put_out (by omega), fb_put_out (by omega)]
theorem fb_put_cong {α : Type} {f f2 g g2 : Nat → α} {a n : Nat} (hf : ∀ k, (k < a ∨ a + n ≤ k) → f k = f2 k) (hg : ∀ k, k < n → g k = g2 k) : fb_put f g a n = fb_put f2 g2 a n := by
  funext k
  by_cases h : a ≤ k ∧ k < a + n
  · rw [fb_put_in h.1 h.2, fb_put_in h.1 h.2, hg _ (by omega)]
  · rw [fb_put_out (by omega), fb_put_out (by omega), hf _ (by omega)]
/-! ===== the least, the first, the best so far; that there is one alone ===== -/
theorem fb_first {p : Nat → Prop} [DecidablePred p] : ∀ {n : Nat}, (∃ i, i < n ∧ p i) → ∃ i, i < n ∧ p i ∧ ∀ j, j < i → ¬ p j
  | 0, h => by obtain ⟨i, hi, -⟩ := h; exact absurd hi (Nat.not_lt_zero i)
  | n + 1, h => by
    by_cases q : ∃ i, i < n ∧ p i
    · obtain ⟨i, h1, h2⟩ := fb_first q
      exact ⟨i, by omega, h2⟩
    · obtain ⟨i, h1, h2⟩ := h
      have e : i = n := by
        rcases Nat.lt_or_ge i n with r | r
        · exact absurd ⟨i, r, h2⟩ q
        · omega
      subst e
      exact ⟨i, by omega, h2, fun j hj hp => q ⟨j, hj, hp⟩⟩
theorem fb_first_one {p : Nat → Prop} {i j : Nat} (hi : p i) (hi2 : ∀ k, k < i → ¬ p k) (hj : p j) (hj2 : ∀ k, k < j → ¬ p k) : i = j := by
  rcases Nat.lt_trichotomy i j with q | q | q
  · exact absurd hi (hj2 i q)
  · exact q
  · exact absurd hj (hi2 j q)
theorem fb_last {p : Nat → Prop} [DecidablePred p] : ∀ {n : Nat}, (∃ i, i < n ∧ p i) → ∃ i, i < n ∧ p i ∧ ∀ j, i < j → j < n → ¬ p j
  | 0, h => by obtain ⟨i, hi, -⟩ := h; exact absurd hi (Nat.not_lt_zero i)
  | n + 1, h => by
    by_cases q : p n
    · exact ⟨n, by omega, q, fun j h1 h2 => by omega⟩
    · obtain ⟨i, h1, h2⟩ := h
      have hi : i < n := by
        rcases Nat.lt_or_ge i n with r | r
        · exact r
        · have e : i = n := by omega
          subst e
          exact absurd h2 q
      obtain ⟨i2, a1, a2, a3⟩ := fb_last (n := n) ⟨i, hi, h2⟩
      refine ⟨i2, by omega, a2, fun j b1 b2 => ?_⟩
      rcases Nat.lt_or_ge j n with r | r
      · exact a3 j b1 r
      · have e : j = n := by omega
        subst e
        exact q
/-- the first greatest -/
theorem fb_best (f : Nat → Int) : ∀ {n : Nat}, 0 < n → ∃ i, i < n ∧ (∀ j, j < n → f j ≤ f i) ∧ ∀ j, j < i → f j < f i
  | 0, h => absurd h (Nat.lt_irrefl 0)
  | 1, _ => ⟨0, by omega, fun j hj => by have e : j = 0 := by omega
                                         subst e; exact Int.le_refl _, fun j hj => absurd hj (Nat.not_lt_zero j)⟩
  | n + 2, _ => by
    obtain ⟨i, h1, h2, h3⟩ := fb_best f (n := n + 1) (by omega)
    by_cases q : f i < f (n + 1)
    · refine ⟨n + 1, by omega, fun j hj => ?_, fun j hj => ?_⟩
      · rcases Nat.lt_or_ge j (n + 1) with r | r
        · have := h2 j r; omega
        · have e : j = n + 1 := by omega
          subst e; exact Int.le_refl _
      · have := h2 j hj; omega
    · refine ⟨i, by omega, fun j hj => ?_, h3⟩
      rcases Nat.lt_or_ge j (n + 1) with r | r
      · exact h2 j r
      · have e : j = n + 1 := by omega
        subst e; omega
theorem fb_best_one {f : Nat → Int} {n i j : Nat} (hi : i < n) (hi2 : ∀ k, k < n → f k ≤ f i) (hi3 : ∀ k, k < i → f k < f i) (hj : j < n) (hj2 : ∀ k, k < n → f k ≤ f j) (hj3 : ∀ k, k < j → f k < f j) : i = j := by
  rcases Nat.lt_trichotomy i j with q | q | q
  · have a := hj3 i q
    have b := hi2 j hj
    omega
  · exact q
  · have a := hi3 j q
    have b := hj2 i hi
    omega
/-- the first least -/
theorem fb_low (f : Nat → Int) {n : Nat} (h : 0 < n) : ∃ i, i < n ∧ (∀ j, j < n → f i ≤ f j) ∧ ∀ j, j < i → f i < f j := by
  obtain ⟨i, h1, h2, h3⟩ := fb_best (fun k => -f k) h
  exact ⟨i, h1, fun j hj => by have := h2 j hj; omega, fun j hj => by have := h3 j hj; omega⟩
/-! ===== signed ints as whole numbers, within bounds ===== -/
theorem fb_rng (x : Int32) : -2147483648 ≤ x.toInt ∧ x.toInt < 2147483648 := by
  have h1 := Int32.le_toInt x
  have h2 := Int32.toInt_lt x
  omega
theorem fb_bmod {z : Int} (h1 : -2147483648 ≤ z) (h2 : z < 2147483648) : z.bmod (2 ^ 32) = z := by
  rw [Int.bmod_eq_of_le (by omega) (by omega)]
theorem fb_addI {x y : Int32} (h1 : -2147483648 ≤ x.toInt + y.toInt) (h2 : x.toInt + y.toInt < 2147483648) : (x + y).toInt = x.toInt + y.toInt := by
  rw [Int32.toInt_add, fb_bmod h1 h2]
theorem fb_subI {x y : Int32} (h1 : -2147483648 ≤ x.toInt - y.toInt) (h2 : x.toInt - y.toInt < 2147483648) : (x - y).toInt = x.toInt - y.toInt := by
  rw [Int32.toInt_sub, fb_bmod h1 h2]
theorem fb_mulI {x y : Int32} (h1 : -2147483648 ≤ x.toInt * y.toInt) (h2 : x.toInt * y.toInt < 2147483648) : (x * y).toInt = x.toInt * y.toInt := by
  rw [Int32.toInt_mul, fb_bmod h1 h2]
theorem fb_negI {x : Int32} (h : x.toInt ≠ -2147483648) : (-x).toInt = -x.toInt := by
  have := fb_rng x
  rw [Int32.toInt_neg, fb_bmod (by omega) (by omega)]
theorem fb_ofI {z : Int} (h1 : -2147483648 ≤ z) (h2 : z < 2147483648) : (Int32.ofInt z).toInt = z := by
  rw [Int32.toInt_ofInt, fb_bmod h1 h2]
theorem fb_asI (x : Int32) : Int32.ofInt x.toInt = x := Int32.ofInt_toInt x
theorem fb_rngL (x : Int64) : -9223372036854775808 ≤ x.toInt ∧ x.toInt < 9223372036854775808 := by
  have h1 := Int64.le_toInt x
  have h2 := Int64.toInt_lt x
  omega
theorem fb_bmodL {z : Int} (h1 : -9223372036854775808 ≤ z) (h2 : z < 9223372036854775808) : z.bmod (2 ^ 64) = z := by
  rw [Int.bmod_eq_of_le (by omega) (by omega)]
theorem fb_addL {x y : Int64} (h1 : -9223372036854775808 ≤ x.toInt + y.toInt) (h2 : x.toInt + y.toInt < 9223372036854775808) : (x + y).toInt = x.toInt + y.toInt := by
  rw [Int64.toInt_add, fb_bmodL h1 h2]
theorem fb_subL {x y : Int64} (h1 : -9223372036854775808 ≤ x.toInt - y.toInt) (h2 : x.toInt - y.toInt < 9223372036854775808) : (x - y).toInt = x.toInt - y.toInt := by
  rw [Int64.toInt_sub, fb_bmodL h1 h2]
theorem fb_mulL {x y : Int64} (h1 : -9223372036854775808 ≤ x.toInt * y.toInt) (h2 : x.toInt * y.toInt < 9223372036854775808) : (x * y).toInt = x.toInt * y.toInt := by
  rw [Int64.toInt_mul, fb_bmodL h1 h2]
/-! ===== cuts of what is narrow already ===== -/
theorem fb_byte {x : Int32} (h1 : -128 ≤ x.toInt) (h2 : x.toInt < 128) : x.toInt8.toInt32 = x := by
  apply Int32.toInt_inj.1
  rw [Int8.toInt_toInt32, Int32.toInt_toInt8, Int.bmod_eq_of_le (by omega) (by omega)]
theorem fb_short {x : Int32} (h1 : -32768 ≤ x.toInt) (h2 : x.toInt < 32768) : x.toInt16.toInt32 = x := by
  apply Int32.toInt_inj.1
  rw [Int16.toInt_toInt32, Int32.toInt_toInt16, Int.bmod_eq_of_le (by omega) (by omega)]
theorem fb_byte_rng (x : Int32) : -128 ≤ x.toInt8.toInt32.toInt ∧ x.toInt8.toInt32.toInt < 128 := by
  rw [Int8.toInt_toInt32]
  have h1 := Int8.le_toInt x.toInt8
  have h2 := Int8.toInt_lt x.toInt8
  omega
theorem fb_short_rng (x : Int32) : -32768 ≤ x.toInt16.toInt32.toInt ∧ x.toInt16.toInt32.toInt < 32768 := by
  rw [Int16.toInt_toInt32]
  have h1 := Int16.le_toInt x.toInt16
  have h2 := Int16.toInt_lt x.toInt16
  omega
theorem fb_byte_twice (x : Int32) : x.toInt8.toInt32.toInt8.toInt32 = x.toInt8.toInt32 := fb_byte (fb_byte_rng x).1 (fb_byte_rng x).2
theorem fb_short_twice (x : Int32) : x.toInt16.toInt32.toInt16.toInt32 = x.toInt16.toInt32 := fb_short (fb_short_rng x).1 (fb_short_rng x).2
theorem fb_char {n : Nat} (h : n < 65536) : (nI n).toUInt32.toUInt16.toUInt32.toInt32 = nI n := by
  apply Int32.toBitVec_inj.1
  apply BitVec.eq_of_toNat_eq
  have e1 : (nI n).toBitVec.toNat = n := by
    show (BitVec.ofNat 32 n).toNat = n
    rw [BitVec.toNat_ofNat, Nat.mod_eq_of_lt (by omega)]
  have e2 : ((nI n).toUInt32.toUInt16.toUInt32).toNat = n := by
    rw [UInt16.toNat_toUInt32, UInt32.toNat_toUInt16]
    show (nI n).toBitVec.toNat % 2 ^ 16 = n
    rw [e1, Nat.mod_eq_of_lt (by omega)]
  rw [e1]
  exact e2
end
section
/-- what cell k is, in the order in which the cells are made: (0, class of the world); arrays (kind, length): 1 int, 2 long, 3 char, 4 boolean, 5 of State, 6 of int arrays -/
def ev_layL : List (Nat × Nat) := [(0, 9), (0, 7), (3, 80), (0, 4), (2, 9), (0, 0), (6, 8), (1, 8), (1, 8), (1, 8), (1, 8), (1, 8), (1, 8), (1, 8), (1, 8), (1, 8), (1, 8), (0, 6), (1, 8), (1, 8), (1, 8), (0, 6), (1, 8), (1, 8), (1, 8), (0, 3), (5, 15), (5, 3), (4, 3), (0, 6), (1, 8), (1, 8), (1, 8), (0, 6), (1, 8), (1, 8), (1, 8), (0, 6), (1, 8), (1, 8), (1, 8), (0, 6), (1, 8), (1, 8), (1, 8), (0, 6), (1, 8), (1, 8), (1, 8), (0, 6), (1, 8), (1, 8), (1, 8), (0, 6), (1, 8), (1, 8), (1, 8), (0, 6), (1, 8), (1, 8), (1, 8), (0, 6), (1, 8), (1, 8), (1, 8), (0, 6), (1, 8), (1, 8), (1, 8), (0, 6), (1, 8), (1, 8), (1, 8), (0, 6), (1, 8), (1, 8), (1, 8), (0, 6), (1, 8), (1, 8), (1, 8), (0, 6), (1, 8), (1, 8), (1, 8), (0, 6), (1, 8), (1, 8), (1, 8), (0, 6), (1, 8), (1, 8), (1, 8), (0, 6), (1, 8), (1, 8), (1, 8), (0, 6), (1, 8), (1, 8), (1, 8), (0, 5), (1, 40), (1, 40), (4, 5), (0, 5), (1, 40), (1, 40), (4, 5), (0, 8), (1, 8), (1, 7), (1, 8), (1, 8), (0, 1), (1, 8), (1, 8), (6, 9), (1, 9), (1, 9), (1, 9), (1, 9), (1, 9), (1, 9), (1, 9), (1, 9), (1, 9), (4, 64), (1, 8), (0, 2), (1, 12), (1, 12), (4, 12), (1, 8), (1, 64), (1, 8), (1, 256), (1, 256), (1, 256), (0, 10), (2, 24), (1, 64), (1, 8), (1, 27), (1, 27), (1, 80), (1, 64), (1, 8), (1, 8), (1, 80), (1, 80), (1, 80), (1, 7), (1, 8), (1, 8), (1, 432), (1, 60), (1, 60), (1, 60), (1, 81), (1, 8), (1, 8), (1, 12), (1, 12), (1, 12), (4, 256), (1, 8), (1, 8), (4, 61), (4, 61), (1, 80), (4, 3), (1, 3), (1, 81), (2, 1)]
/-- the references that the cells hold once all is made: (cell, (place, cell)) -/
def ev_refL : List (List (Nat × Nat)) := [[(0, 1), (1, 3), (2, 5), (3, 17), (4, 21), (5, 25), (6, 101), (7, 105), (8, 109), (9, 114), (10, 129), (11, 133), (12, 134), (13, 135), (14, 136), (15, 137), (16, 138)], [(0, 2)], [], [(0, 4)], [], [(0, 6), (1, 15), (2, 16)], [(0, 7), (1, 8), (2, 9), (3, 10), (4, 11), (5, 12), (6, 13), (7, 14)], [], [], [], [], [], [], [], [], [], [], [(0, 18), (1, 19), (2, 20)], [], [], [], [(0, 22), (1, 23), (2, 24)], [], [], [], [(0, 26), (1, 27), (2, 28)], [(0, 29), (1, 33), (2, 37), (3, 41), (4, 45), (5, 49), (6, 53), (7, 57), (8, 61), (9, 65), (10, 69), (11, 73), (12, 77), (13, 81), (14, 85)], [(0, 89), (1, 93), (2, 97)], [], [(0, 30), (1, 31), (2, 32)], [], [], [], [(0, 34), (1, 35), (2, 36)], [], [], [], [(0, 38), (1, 39), (2, 40)], [], [], [], [(0, 42), (1, 43), (2, 44)], [], [], [], [(0, 46), (1, 47), (2, 48)], [], [], [], [(0, 50), (1, 51), (2, 52)], [], [], [], [(0, 54), (1, 55), (2, 56)], [], [], [], [(0, 58), (1, 59), (2, 60)], [], [], [], [(0, 62), (1, 63), (2, 64)], [], [], [], [(0, 66), (1, 67), (2, 68)], [], [], [], [(0, 70), (1, 71), (2, 72)], [], [], [], [(0, 74), (1, 75), (2, 76)], [], [], [], [(0, 78), (1, 79), (2, 80)], [], [], [], [(0, 82), (1, 83), (2, 84)], [], [], [], [(0, 86), (1, 87), (2, 88)], [], [], [], [(0, 90), (1, 91), (2, 92)], [], [], [], [(0, 94), (1, 95), (2, 96)], [], [], [], [(0, 98), (1, 99), (2, 100)], [], [], [], [(0, 102), (2, 103), (4, 104)], [], [], [], [(0, 106), (2, 107), (4, 108)], [], [], [], [(0, 5), (1, 110), (2, 111), (3, 112), (4, 113)], [], [], [], [], [(0, 5), (1, 115), (2, 116), (5, 117), (6, 127), (7, 128)], [], [], [(0, 118), (1, 119), (2, 120), (3, 121), (4, 122), (5, 123), (6, 124), (7, 125), (8, 126)], [], [], [], [], [], [], [], [], [], [], [], [(0, 130), (1, 131), (2, 132)], [], [], [], [], [], [], [], [], [], [(2, 140), (5, 141), (6, 142), (7, 143), (8, 144), (9, 145), (14, 146), (15, 147), (16, 148), (18, 149), (19, 150), (22, 151), (23, 152), (24, 153), (25, 154), (27, 155), (28, 156), (29, 157), (30, 158), (32, 159), (33, 160), (34, 161), (36, 162), (37, 163), (38, 164), (39, 165), (40, 166), (41, 167), (42, 168), (43, 169), (44, 170), (46, 171), (47, 172), (48, 173)], [], [], [], [], [], [], [], [], [], [], [], [], [], [], [], [], [], [], [], [], [], [], [], [], [], [], [], [], [], [], [], [], [], [], []]
def ev_N0 : Nat := 175
end
section
/-! THE EVALUATOR: bytecode over a store of cells. A value's reference is a cell's number: cells 0, 1, .. as they are made; 900000 + 2 i a text constant, 900001 + 2 i its bytes; '.retAddr 0' what a static holds that nobody looks into. -/
/-- (how many cells there are, whether that is the heap's end, cells and slots that were made), ints, longs, references, by cell and place -/
abbrev ev_S : Type := (Nat × Bool × Nat × Nat) × (Nat → Nat → Int32) × (Nat → Nat → Int64) × (Nat → Nat → Option Nat)
/-- how a call ends: 'some v' it returned v, 'none' it threw; and the store -/
abbrev ev_R : Type := Option (Option Value) × ev_S
abbrev ev_K : Type := Nat → List Value → List Value → ev_S → Option ev_R
def ev_lk {α : Type} : List (Nat × α) → Nat → Option α
  | [], _ => none
  | (k, v) :: t, n => bif Nat.beq k n then some v else ev_lk t n
def ev_nth {α : Type} : List α → Nat → Option α
  | [], _ => none
  | v :: _, 0 => some v
  | _ :: t, n + 1 => ev_nth t n
def ev_set {α : Type} : List α → Nat → α → List α
  | [], _, _ => []
  | _ :: t, 0, v => v :: t
  | a :: t, n + 1, v => a :: ev_set t n v
def ev_has : List Nat → Nat → Bool
  | [], _ => false
  | k :: t, n => bif Nat.beq k n then true else ev_has t n
def ev_clr (ls : List Value) : List Nat → List Value
  | [] => ls
  | k :: t => ev_clr (ev_set ls k (.float 0)) t
def ev_up {α : Type} (f : Nat → Nat → α) (k j : Nat) (v : α) : Nat → Nat → α := fun a b => if a = k ∧ b = j then v else f a b
/-- a local that holds nothing that may be read -/
abbrev ev_U : Value := .float 0
/-- an index inside -/
def ev_in (i : Int32) (n : Nat) : Bool := !decide (i < 0) && decide (i.toNatClampNeg < n)
def ev_lay (k : Nat) : Nat × Nat := (ev_nth ev_layL k).getD (99, 0)
/-- what a reference is: as lay has it; (10, i) the text i, (11, i) its bytes -/
def ev_kd (n k : Nat) : Nat × Nat := bif Nat.blt k n then ev_lay k else bif Nat.ble 900000 k && Nat.blt k (900000 + 2 * ev_strs.length) then (10 + k % 2, (k - 900000) / 2) else (99, 0)
def ev_cp (f : Nat → Nat → Int32) (ks kd sp dp n : Nat) : Nat → Nat → Int32 := fun a b => if a = kd ∧ (dp ≤ b ∧ b < dp + n) then f ks (sp + (b - dp)) else f a b
def ev_putI (σ : ev_S) (k j : Nat) (v : Int32) : ev_S := (σ.1, ev_up σ.2.1 k j v, σ.2.2)
def ev_putL (σ : ev_S) (k j : Nat) (v : Int64) : ev_S := (σ.1, σ.2.1, ev_up σ.2.2.1 k j v, σ.2.2.2)
def ev_putR (σ : ev_S) (k j : Nat) (v : Option Nat) : ev_S := (σ.1, σ.2.1, σ.2.2.1, ev_up σ.2.2.2 k j v)
/-- one cell more, of n slots, all as new -/
def ev_more (σ : ev_S) (n : Nat) : ev_S := ((σ.1.1 + 1, σ.1.2.1, σ.1.2.2.1 + 1, σ.1.2.2.2 + n), (fun a b => bif Nat.beq a σ.1.1 then 0 else σ.2.1 a b), (fun a b => bif Nat.beq a σ.1.1 then 0 else σ.2.2.1 a b), (fun a b => bif Nat.beq a σ.1.1 then none else σ.2.2.2 a b))
/-- a cells of b slots more, of ints -/
def ev_moreN (b : Nat) : Nat → ev_S → ev_S
  | 0, σ => σ
  | a + 1, σ => ev_more (ev_moreN b a σ) b
def ev_rowsOk (b : Nat) : Nat → Nat → Bool
  | 0, _ => true
  | a + 1, k => (ev_lay k == (1, b)) && ev_rowsOk b a (k + 1)
def ev_rv (r : Option Nat) : Value := match r with
  | some a => .ref a
  | none => .null
/-- the continuations of a call, by what it answers -/
def ev_cI (o : Option ev_R) (k : Int32 → ev_S → Option ev_R) : Option ev_R := match o with
  | some (some (some (.int x)), σ) => k x σ
  | _ => none
def ev_cL (o : Option ev_R) (k : Int64 → ev_S → Option ev_R) : Option ev_R := match o with
  | some (some (some (.long x)), σ) => k x σ
  | _ => none
def ev_cV (o : Option ev_R) (k : ev_S → Option ev_R) : Option ev_R := match o with
  | some (some none, σ) => k σ
  | _ => none
/-- behind a call: where sd, the number of cells and the references are as they were (nothing there can change them) -/
def ev_fx (sd : Bool) (σ σ' : ev_S) : ev_S := bif sd then ((σ.1.1, σ'.1.2), σ'.2.1, σ'.2.2.1, σ.2.2.2) else σ'
/-- constants of an instruction -/
def ev_con : Instr → Option (Value × Nat)
  | .iconst n => some (.int (Int32.ofInt n), 1)
  | .bipush n => bif decide (-128 ≤ n) && decide (n < 128) then some (.int (Int32.ofInt n), 2) else none
  | .sipush n => bif decide (-32768 ≤ n) && decide (n < 32768) then some (.int (Int32.ofInt n), 3) else none
  | .lconst n => some (.long (Int64.ofNat (n : Nat)), 1)
  | _ => none
/-- loads: 0 int, 1 long, 2 reference; the local; the length -/
def ev_loa : Instr → Option (Nat × Nat × Nat)
  | .iload_n k => some (0, k, 1)
  | .iload k => some (0, k, 2)
  | .lload_n k => some (1, k, 1)
  | .lload k => some (1, k, 2)
  | .aload_n k => some (2, k, 1)
  | .aload k => some (2, k, 2)
  | _ => none
def ev_sto : Instr → Option (Nat × Nat × Nat)
  | .istore_n k => some (0, k, 1)
  | .istore k => some (0, k, 2)
  | .lstore_n k => some (1, k, 1)
  | .lstore k => some (1, k, 2)
  | .astore_n k => some (2, k, 1)
  | .astore k => some (2, k, 2)
  | _ => none
def ev_is : Value → Nat → Bool
  | .int _, 0 => true
  | .long _, 1 => true
  | .ref _, 2 => true
  | _, _ => false
/-- the locals behind a store, laid out at once: a long ahead of the place is no more -/
def ev_sk1 : List Value → Nat → Value → (List Value → Option ev_R) → Option ev_R
  | [], _, _, _ => none
  | _ :: t, 0, v, k => k (v :: t)
  | a :: t, 1, v, k => ev_sk1 t 0 v (fun t' => bif Nat.beq a.category 2 then k (ev_U :: t') else k (a :: t'))
  | a :: t, n + 2, v, k => ev_sk1 t (n + 1) v (fun t' => k (a :: t'))
def ev_sk2 : List Value → Nat → Value → (List Value → Option ev_R) → Option ev_R
  | _ :: _ :: t, 0, v, k => k (v :: ev_U :: t)
  | a :: t, 1, v, k => ev_sk2 t 0 v (fun t' => bif Nat.beq a.category 2 then k (ev_U :: t') else k (a :: t'))
  | a :: t, n + 2, v, k => ev_sk2 t (n + 1) v (fun t' => k (a :: t'))
  | _, _, _, _ => none
def ev_i2 : Instr → Option (Int32 → Int32 → Int32)
  | .iadd => some (fun x y => x + y)
  | .isub => some (fun x y => x - y)
  | .imul => some (fun x y => x * y)
  | .iand => some (fun x y => x &&& y)
  | .ior => some (fun x y => x ||| y)
  | .ixor => some (fun x y => x ^^^ y)
  | .ishl => some (fun x y => x <<< (y &&& 31))
  | .ishr => some (fun x y => x >>> (y &&& 31))
  | .iushr => some (fun x y => (x.toUInt32 >>> (y.toUInt32 &&& Int32.toUInt32 31)).toInt32)
  | _ => none
def ev_i1 : Instr → Option (Int32 → Int32)
  | .ineg => some (fun x => -x)
  | .i2b => some (fun x => x.toInt8.toInt32)
  | .i2s => some (fun x => x.toInt16.toInt32)
  | .i2c => some (fun x => (x.toUInt32 % 65536).toInt32)
  | _ => none
def ev_l2 : Instr → Option (Int64 → Int64 → Int64)
  | .ladd => some (fun x y => x + y)
  | .lsub => some (fun x y => x - y)
  | .lmul => some (fun x y => x * y)
  | .land => some (fun x y => x &&& y)
  | .lor => some (fun x y => x ||| y)
  | _ => none
def ev_l3 : Instr → Option (Int64 → Int32 → Int64)
  | .lshl => some (fun x y => x <<< (y.toInt64 &&& 63))
  | .lshr => some (fun x y => x >>> (y.toInt64 &&& 63))
  | _ => none
def ev_go (pc : Nat) (off : Int) : Nat := ((pc : Int) + off).toNat
/-- a value that a field or an answer of this type may hold as it is -/
def ev_fit (ty : FieldType) (x : Int32) : Bool := match ty with
  | .int => true
  | _ => decide (narrow ty (.int x) = .int x)
def ev_tsw (dflt lo hi : Int) (offs : Array Int) (pc : Nat) (x : Int32) (K : Nat → Option ev_R) : Nat → Option ev_R
  | 0 => K (ev_go pc dflt)
  | j + 1 => if x = Int32.ofInt (hi - j) then K (ev_go pc (offs.getD ((hi - j) - lo).toNat 0)) else ev_tsw dflt lo hi offs pc x K j
def ev_lsw (dflt : Int) (pc : Nat) (x : Int32) (K : Nat → Option ev_R) : List (Int × Int) → Option ev_R
  | [] => K (ev_go pc dflt)
  | (a, o) :: t => if x = Int32.ofInt a then K (ev_go pc o) else ev_lsw dflt pc x K t
/-- the rows of a throw: dup, the text, the constructor, athrow -/
def ev_isThrow (M : ev_Me) (pc : Nat) : Bool := Nat.beq M.2.2.2.2.1 ev_thrC.1 && match ev_lk M.2.2.2.2.2.1 (pc + 3) with
  | some (.dup, _) => match ev_lk M.2.2.2.2.2.1 (pc + 4) with
    | some (.ldc is, _) => match ev_lk M.2.2.2.2.2.1 (pc + 6), ev_lk M.2.2.2.2.2.1 (pc + 9) with
      | some (.invokespecial ic, _), some (.athrow, _) => Nat.beq ic ev_thrC.2 && (ev_lk (ev_ks M.2.2.2.2.1) is).isSome
      | _, _ => false
    | some (.ldc_w is, _) => match ev_lk M.2.2.2.2.2.1 (pc + 7), ev_lk M.2.2.2.2.2.1 (pc + 10) with
      | some (.invokespecial ic, _), some (.athrow, _) => Nat.beq ic ev_thrC.2 && (ev_lk (ev_ks M.2.2.2.2.1) is).isSome
      | _, _ => false
    | _ => false
  | _ => false
def ev_hd : List Value → Bool
  | .ref _ :: _ => true
  | _ => false
/-- the receiver is of its class -/
def ev_rc (b : Bool) (n ci : Nat) (args : List Value) (x : Option ev_R) : Option ev_R := bif b then (match args with
  | .ref k :: _ => bif (ev_kd n k == (0, ci)) || (Nat.beq ci 20 && Nat.beq (ev_kd n k).1 10) then x else none
  | _ => none) else x
/-- an int out of a row of ints, into it -/
def ev_aI (σ : ev_S) (v : Value) (x : Int32) (k2 : Int32 → Option ev_R) : Option ev_R := match v with
  | .ref k => match ev_kd σ.1.1 k with
    | (1, n) => if ev_in x n then k2 (σ.2.1 k x.toNatClampNeg) else none
    | _ => none
  | _ => none
def ev_sI (σ : ev_S) (v : Value) (x y : Int32) (k2 : (Nat → Nat → Int32) → Option ev_R) : Option ev_R := match v with
  | .ref k => match ev_kd σ.1.1 k with
    | (1, n) => if ev_in x n then k2 (ev_up σ.2.1 k x.toNatClampNeg y) else none
    | _ => none
  | _ => none
/-- a call: from the method's list of calls -/
def ev_inv (sd : Bool) (cf : ev_Me → List Value → ev_S → Option ev_R) (M : ev_Me) (K : ev_K) (vir spe sta : Bool) (idx pc : Nat) (ls st : List Value) (σ : ev_S) : Option ev_R :=
  match ev_lk (ev_ml M.2.2.2.2.1) idx with
  | none => none
  | some (kind, n, ci, Mc) =>
    bif Nat.beq kind 8 then (bif spe then match st with
      | .ref _ :: r => bif Nat.ble r.length 4 then K (pc + 3) ls r σ else none
      | _ => none else none)
    else bif Nat.beq kind 9 then (bif sta then match st with
      | .int len :: .int dp :: .ref kd :: .int sp :: .ref ks :: r => match ev_kd σ.1.1 ks, ev_kd σ.1.1 kd with
        | (1, n1), (1, n2) => bif Nat.beq ks kd then none else
          if Nat.ble r.length 4 && !decide (sp < 0) && !decide (dp < 0) && !decide (len < 0) && decide (sp.toNatClampNeg + len.toNatClampNeg ≤ n1) && decide (dp.toNatClampNeg + len.toNatClampNeg ≤ n2) then
            K (pc + 3) ls r (σ.1, ev_cp σ.2.1 ks kd sp.toNatClampNeg dp.toNatClampNeg len.toNatClampNeg, σ.2.2)
          else none
        | _, _ => none
      | _ => none else none)
    else bif Nat.beq kind 6 then (bif sta then match st with
      | .int y :: .int x :: r => bif Nat.ble r.length 4 then K (pc + 3) ls (.int (if x < y then y else x) :: r) σ else none
      | _ => none else none)
    else bif Nat.beq kind 7 then (bif sta then match st with
      | .int y :: .int x :: r => bif Nat.ble r.length 4 then K (pc + 3) ls (.int (if y < x then y else x) :: r) σ else none
      | _ => none else none)
    else bif ((Nat.beq kind 0 && vir) || ((Nat.beq kind 1 || Nat.beq kind 3) && spe) || ((Nat.beq kind 2 || Nat.beq kind 4) && sta)) && Nat.ble (st.drop n).length 4 && Nat.ble n st.length && (!(Nat.beq kind 1 || Nat.beq kind 3) || ev_hd (st.take n).reverse) then
      ev_rc (Nat.beq kind 0) σ.1.1 ci (st.take n).reverse (match Mc.2.2.2.1 with
        | none => ev_cV (cf Mc (st.take n).reverse σ) (fun σ' => K (pc + 3) ls (st.drop n) (ev_fx sd σ σ'))
        | some .long => ev_cL (cf Mc (st.take n).reverse σ) (fun x σ' => K (pc + 3) ls (.long x :: st.drop n) (ev_fx sd σ σ'))
        | some .int => ev_cI (cf Mc (st.take n).reverse σ) (fun x σ' => K (pc + 3) ls (.int x :: st.drop n) (ev_fx sd σ σ'))
        | some .boolean => ev_cI (cf Mc (st.take n).reverse σ) (fun x σ' => K (pc + 3) ls (.int x :: st.drop n) (ev_fx sd σ σ'))
        | some .char => ev_cI (cf Mc (st.take n).reverse σ) (fun x σ' => K (pc + 3) ls (.int x :: st.drop n) (ev_fx sd σ σ'))
        | some .byte => ev_cI (cf Mc (st.take n).reverse σ) (fun x σ' => K (pc + 3) ls (.int x :: st.drop n) (ev_fx sd σ σ'))
        | _ => none)
    else none
/-- reads of the heap -/
def ev_rd (M : ev_Me) (K : ev_K) (i : Instr) (pc : Nat) (ls st : List Value) (σ : ev_S) : Option ev_R :=
  match i with
  | .getfield idx => match st with
    | .ref k :: r => match ev_lk (ev_fl M.2.2.2.2.1) idx with
      | some (ci, j, kd, _) => bif ev_kd σ.1.1 k == (0, ci) then (bif Nat.beq kd 2 then K (pc + 3) ls (ev_rv (σ.2.2.2 k j) :: r) σ else K (pc + 3) ls (.int (σ.2.1 k j) :: r) σ)
        else bif Nat.beq ci 20 && Nat.beq (ev_kd σ.1.1 k).1 10 then (bif Nat.beq j 0 then K (pc + 3) ls (.ref (k + 1) :: r) σ else K (pc + 3) ls (.int 0 :: r) σ)
        else none
      | none => none
    | _ => none
  | .getstatic idx => bif Nat.beq M.2.2.2.2.1 13 then (bif Nat.beq idx 38 then K (pc + 3) ls (.int 1 :: st) σ else bif Nat.beq idx 1053 then K (pc + 3) ls (.retAddr 0 :: st) σ else none) else none
  | .arraylength => match st with
    | .ref k :: r => match ev_kd σ.1.1 k with
      | (1, n) => K (pc + 1) ls (.int (Int32.ofNat n) :: r) σ
      | (2, n) => K (pc + 1) ls (.int (Int32.ofNat n) :: r) σ
      | (11, n) => K (pc + 1) ls (.int (Int32.ofNat ((ev_nth ev_strs n).getD []).length) :: r) σ
      | _ => none
    | _ => none
  | .iaload => match st with
    | .int x :: v :: r => ev_aI σ v x (fun y => K (pc + 1) ls (.int y :: r) σ)
    | _ => none
  | .caload => match st with
    | .int x :: .ref k :: r => match ev_kd σ.1.1 k with
      | (3, n) => if ev_in x n then K (pc + 1) ls (.int (σ.2.1 k x.toNatClampNeg) :: r) σ else none
      | _ => none
    | _ => none
  | .baload => match st with
    | .int x :: .ref k :: r => match ev_kd σ.1.1 k with
      | (4, n) => if ev_in x n then K (pc + 1) ls (.int (σ.2.1 k x.toNatClampNeg) :: r) σ else none
      | (11, n) => if ev_in x ((ev_nth ev_strs n).getD []).length then K (pc + 1) ls (.int (((ev_nth ev_strs n).getD []).getD x.toNatClampNeg 0) :: r) σ else none
      | _ => none
    | _ => none
  | .laload => match st with
    | .int x :: .ref k :: r => match ev_kd σ.1.1 k with
      | (2, n) => if ev_in x n then K (pc + 1) ls (.long (σ.2.2.1 k x.toNatClampNeg) :: r) σ else none
      | _ => none
    | _ => none
  | .aaload => match st with
    | .int x :: .ref k :: r => match ev_kd σ.1.1 k with
      | (5, n) => if ev_in x n then K (pc + 1) ls (ev_rv (σ.2.2.2 k x.toNatClampNeg) :: r) σ else none
      | (6, n) => if ev_in x n then K (pc + 1) ls (ev_rv (σ.2.2.2 k x.toNatClampNeg) :: r) σ else none
      | _ => none
    | _ => none
  | .ldc idx => match ev_lk (ev_ki M.2.2.2.2.1) idx with
    | some v => K (pc + 2) ls (.int v :: st) σ
    | none => match ev_lk (ev_ks M.2.2.2.2.1) idx with
      | some a => K (pc + 2) ls (.ref (900000 + 2 * a) :: st) σ
      | none => none
  | .ldc_w idx => match ev_lk (ev_ki M.2.2.2.2.1) idx with
    | some v => K (pc + 3) ls (.int v :: st) σ
    | none => match ev_lk (ev_ks M.2.2.2.2.1) idx with
      | some a => K (pc + 3) ls (.ref (900000 + 2 * a) :: st) σ
      | none => none
  | .ldc2_w idx => match ev_lk (ev_kl M.2.2.2.2.1) idx with
    | some v => K (pc + 3) ls (.long v :: st) σ
    | none => none
  | _ => none
def ev_aty : ArrayType → Nat → Bool
  | .int, 1 => true
  | .long, 2 => true
  | .char, 3 => true
  | .boolean, 4 => true
  | _, _ => false
/-- writes of the heap, and what is made -/
def ev_wr (sd : Bool) (M : ev_Me) (K : ev_K) (i : Instr) (pc : Nat) (ls st : List Value) (σ : ev_S) : Option ev_R :=
  match i with
  | .putfield idx => match ev_lk (ev_fl M.2.2.2.2.1) idx with
    | some (ci, j, kd, fin) => bif Nat.beq fin 1 && !(M.1.name == "<init>" && ci + 1 == M.2.2.2.2.1) then none else match st with
      | .int x :: .ref k :: r => bif ev_kd σ.1.1 k == (0, ci) then (bif Nat.beq kd 0 then K (pc + 3) ls r (ev_putI σ k j x) else bif Nat.beq kd 1 then (if ev_fit .boolean x then K (pc + 3) ls r (ev_putI σ k j x) else none) else none) else none
      | .ref a :: .ref k :: r => bif !sd && ev_kd σ.1.1 k == (0, ci) && Nat.beq kd 2 then K (pc + 3) ls r (ev_putR σ k j (some a)) else none
      | _ => none
    | none => none
  | .iastore => match st with
    | .int y :: .int x :: v :: r => ev_sI σ v x y (fun I' => K (pc + 1) ls r (σ.1, I', σ.2.2))
    | _ => none
  | .castore => match st with
    | .int v :: .int x :: .ref k :: r => match ev_kd σ.1.1 k with
      | (3, n) => if ev_in x n then K (pc + 1) ls r (ev_putI σ k x.toNatClampNeg (vp_nar .char v)) else none
      | _ => none
    | _ => none
  | .bastore => match st with
    | .int v :: .int x :: .ref k :: r => match ev_kd σ.1.1 k with
      | (4, n) => if ev_in x n then K (pc + 1) ls r (ev_putI σ k x.toNatClampNeg (vp_nar .boolean v)) else none
      | _ => none
    | _ => none
  | .lastore => match st with
    | .long v :: .int x :: .ref k :: r => match ev_kd σ.1.1 k with
      | (2, n) => if ev_in x n then K (pc + 1) ls r (ev_putL σ k x.toNatClampNeg v) else none
      | _ => none
    | _ => none
  | .aastore => match st with
    | .ref a :: .int x :: .ref k :: r => match ev_kd σ.1.1 k with
      | (5, n) => bif !sd && ev_kd σ.1.1 a == (0, 6) then (if ev_in x n then K (pc + 1) ls r (ev_putR σ k x.toNatClampNeg (some a)) else none) else none
      | _ => none
    | _ => none
  | .new idx => match ev_lk (ev_nl M.2.2.2.2.1) idx with
    | some 50 => bif ev_isThrow M pc && Nat.ble st.length 4 then some (none, ((σ.1.1, false, σ.1.2.2.1 + 1, σ.1.2.2.2 + 6), σ.2)) else none
    | some ci => bif !sd && σ.1.2.1 && (ev_lay σ.1.1 == (0, ci)) && Nat.blt σ.1.1 ev_N0 && Nat.blt ci 11 then K (pc + 3) ls (.ref σ.1.1 :: st) (ev_more σ ((ev_nth vwCl ci).getD ("", fun _ => ("", "", "", false), 0)).2.2) else none
    | none => none
  | .newarray ty => match st with
    | .int x :: r => match ev_lay σ.1.1 with
      | (kd, n) => bif !sd && σ.1.2.1 && Nat.blt σ.1.1 ev_N0 && ev_aty ty kd && decide (x = Int32.ofNat n) && Nat.blt n 1000 then K (pc + 2) ls (.ref σ.1.1 :: r) (ev_more σ n) else none
    | _ => none
  | .anewarray idx => match st, ev_lk (ev_nl M.2.2.2.2.1) idx with
    | .int x :: r, some 6 => match ev_lay σ.1.1 with
      | (5, n) => bif !sd && σ.1.2.1 && Nat.blt σ.1.1 ev_N0 && decide (x = Int32.ofNat n) && Nat.blt n 1000 then K (pc + 3) ls (.ref σ.1.1 :: r) (ev_more σ n) else none
      | _ => none
    | _, _ => none
  | .multianewarray idx 2 => match st, ev_lk (ev_nl M.2.2.2.2.1) idx with
    | .int y :: .int x :: r, some 60 => match ev_lay σ.1.1, ev_lay (σ.1.1 + 1) with
      | (6, a), (1, b) => bif !sd && σ.1.2.1 && Nat.ble (σ.1.1 + 1 + a) ev_N0 && decide (x = Int32.ofNat a) && decide (y = Int32.ofNat b) && ev_rowsOk b a (σ.1.1 + 1) && Nat.blt a 1000 && Nat.blt b 1000 then
          K (pc + 4) ls (.ref σ.1.1 :: r) ((ev_moreN b a (ev_more σ a)).1, (ev_moreN b a (ev_more σ a)).2.1, (ev_moreN b a (ev_more σ a)).2.2.1, (fun p q => bif Nat.beq p σ.1.1 then (if q < a then some (σ.1.1 + 1 + q) else none) else (ev_moreN b a (ev_more σ a)).2.2.2 p q)) else none
      | _, _ => none
    | _, _ => none
  | _ => none
/-- stack, numbers, jumps, ends -/
def ev_pl (M : ev_Me) (K : ev_K) (i : Instr) (pc : Nat) (ls st : List Value) (σ : ev_S) : Option ev_R :=
  match i with
  | .dup => match st with
    | v :: r => bif Nat.beq v.category 1 then K (pc + 1) ls (v :: v :: r) σ else none
    | _ => none
  | .dup2 => match st with
    | v :: w :: r => bif Nat.beq v.category 1 && Nat.beq w.category 1 then K (pc + 1) ls (v :: w :: v :: w :: r) σ else none
    | _ => none
  | .pop => match st with
    | v :: r => bif Nat.beq v.category 1 then K (pc + 1) ls r σ else none
    | _ => none
  | .iinc k n => match ev_nth ls k with
    | some (.int x) => ev_sk1 ls k (.int (x + Int32.ofInt n)) (fun ls' => K (pc + 3) ls' st σ)
    | _ => none
  | .idiv => match st with
    | .int y :: .int x :: r => if y = 0 then none else K (pc + 1) ls (.int (x / y) :: r) σ
    | _ => none
  | .irem => match st with
    | .int y :: .int x :: r => if y = 0 then none else K (pc + 1) ls (.int (x - x / y * y) :: r) σ
    | _ => none
  | .ldiv => match st with
    | .long y :: .long x :: r => if y = 0 then none else K (pc + 1) ls (.long (x / y) :: r) σ
    | _ => none
  | .lrem => match st with
    | .long y :: .long x :: r => if y = 0 then none else K (pc + 1) ls (.long (x - x / y * y) :: r) σ
    | _ => none
  | .i2l => match st with
    | .int x :: r => K (pc + 1) ls (.long x.toInt64 :: r) σ
    | _ => none
  | .lcmp => match st with
    | .long y :: .long x :: r => K (pc + 1) ls (.int (lg_cmp x y) :: r) σ
    | _ => none
  | .goto off => K (ev_go pc off) ls st σ
  | .ifCond .eq off => match st with
    | .int x :: r => if x = 0 then K (ev_go pc off) ls r σ else K (pc + 3) ls r σ
    | _ => none
  | .ifCond .ne off => match st with
    | .int x :: r => if x = 0 then K (pc + 3) ls r σ else K (ev_go pc off) ls r σ
    | _ => none
  | .ifCond .lt off => match st with
    | .int x :: r => if x < 0 then K (ev_go pc off) ls r σ else K (pc + 3) ls r σ
    | _ => none
  | .ifCond .ge off => match st with
    | .int x :: r => if x < 0 then K (pc + 3) ls r σ else K (ev_go pc off) ls r σ
    | _ => none
  | .ifCond .gt off => match st with
    | .int x :: r => if 0 < x then K (ev_go pc off) ls r σ else K (pc + 3) ls r σ
    | _ => none
  | .ifCond .le off => match st with
    | .int x :: r => if 0 < x then K (pc + 3) ls r σ else K (ev_go pc off) ls r σ
    | _ => none
  | .if_icmp .eq off => match st with
    | .int y :: .int x :: r => if x = y then K (ev_go pc off) ls r σ else K (pc + 3) ls r σ
    | _ => none
  | .if_icmp .ne off => match st with
    | .int y :: .int x :: r => if x = y then K (pc + 3) ls r σ else K (ev_go pc off) ls r σ
    | _ => none
  | .if_icmp .lt off => match st with
    | .int y :: .int x :: r => if x < y then K (ev_go pc off) ls r σ else K (pc + 3) ls r σ
    | _ => none
  | .if_icmp .ge off => match st with
    | .int y :: .int x :: r => if x < y then K (pc + 3) ls r σ else K (ev_go pc off) ls r σ
    | _ => none
  | .if_icmp .gt off => match st with
    | .int y :: .int x :: r => if y < x then K (ev_go pc off) ls r σ else K (pc + 3) ls r σ
    | _ => none
  | .if_icmp .le off => match st with
    | .int y :: .int x :: r => if y < x then K (pc + 3) ls r σ else K (ev_go pc off) ls r σ
    | _ => none
  | .tableswitch dflt lo hi offs => match st with
    | .int x :: r => bif decide (0 ≤ hi - lo) && decide (offs.size = (hi - lo).toNat + 1) && decide (-1000 < lo) && decide (hi < 1000) then ev_tsw dflt lo hi offs pc x (fun p => K p ls r σ) ((hi - lo).toNat + 1) else none
    | _ => none
  | .lookupswitch dflt ps => match st with
    | .int x :: r => bif (ps.toList.zip (ps.toList.drop 1)).all (fun (a, next) => a.1 < next.1) && ps.toList.all (fun a => decide (-1000 < a.1) && decide (a.1 < 1000)) then ev_lsw dflt pc x (fun p => K p ls r σ) ps.toList else none
    | _ => none
  | .ireturn => match st with
    | [.int x] => match M.2.2.2.1 with
      | some .int => some (some (some (.int x)), σ)
      | some .boolean => if ev_fit .boolean x then some (some (some (.int x)), σ) else none
      | some .char => if ev_fit .char x then some (some (some (.int x)), σ) else none
      | some .byte => if ev_fit .byte x then some (some (some (.int x)), σ) else none
      | _ => none
    | _ => none
  | .lreturn => match st with
    | [.long x] => match M.2.2.2.1 with
      | some .long => some (some (some (.long x)), σ)
      | _ => none
    | _ => none
  | .return_ => match st with
    | [] => match M.2.2.2.1 with
      | none => some (some none, σ)
      | _ => none
    | _ => none
  | _ => none
/-- an instruction's length -/
def ev_len (pc : Nat) : Instr → Nat
  | .bipush _ => 2
  | .sipush _ => 3
  | .iload _ => 2
  | .lload _ => 2
  | .aload _ => 2
  | .istore _ => 2
  | .lstore _ => 2
  | .astore _ => 2
  | .iinc _ _ => 3
  | .ldc _ => 2
  | .ldc_w _ => 3
  | .ldc2_w _ => 3
  | .goto _ => 3
  | .ifCond _ _ => 3
  | .if_icmp _ _ => 3
  | .getfield _ => 3
  | .getstatic _ => 3
  | .putfield _ => 3
  | .invokevirtual _ => 3
  | .invokespecial _ => 3
  | .invokestatic _ => 3
  | .new _ => 3
  | .newarray _ => 2
  | .anewarray _ => 3
  | .multianewarray _ _ => 4
  | .tableswitch _ _ _ offs => 1 + (3 - pc % 4) + 12 + 4 * offs.size
  | .lookupswitch _ ps => 1 + (3 - pc % 4) + 8 + 8 * ps.size
  | _ => 1
/-- its jumps lead to places -/
def ev_jok (pc : Nat) : Instr → Bool
  | .goto off => decide (0 ≤ (pc : Int) + off)
  | .ifCond _ off => decide (0 ≤ (pc : Int) + off)
  | .if_icmp _ off => decide (0 ≤ (pc : Int) + off)
  | .tableswitch dflt _ _ offs => decide (0 ≤ (pc : Int) + dflt) && offs.toList.all (fun off => decide (0 ≤ (pc : Int) + off))
  | .lookupswitch dflt ps => decide (0 ≤ (pc : Int) + dflt) && ps.toList.all (fun q => decide (0 ≤ (pc : Int) + q.2))
  | _ => true
/-- one instruction, then K -/
def ev_exe (sd : Bool) (cf : ev_Me → List Value → ev_S → Option ev_R) (M : ev_Me) (K : ev_K) (i : Instr) (pc : Nat) (ls st : List Value) (σ : ev_S) : Option ev_R :=
  match ev_con i with
  | some (v, n) => K (pc + n) ls (v :: st) σ
  | none => match ev_loa i with
    | some (t, k, n) => match ev_nth ls k with
      | some v => bif ev_is v t then K (pc + n) ls (v :: st) σ else none
      | none => none
    | none => match ev_sto i with
      | some (t, k, n) => match st with
        | v :: r => bif ev_is v t then (bif Nat.beq t 1 then ev_sk2 ls k v (fun ls' => K (pc + n) ls' r σ) else ev_sk1 ls k v (fun ls' => K (pc + n) ls' r σ)) else none
        | [] => none
      | none => match ev_i2 i with
        | some f => match st with
          | .int y :: .int x :: r => K (pc + 1) ls (.int (f x y) :: r) σ
          | _ => none
        | none => match ev_i1 i with
          | some f => match st with
            | .int x :: r => K (pc + 1) ls (.int (f x) :: r) σ
            | _ => none
          | none => match ev_l2 i with
            | some f => match st with
              | .long y :: .long x :: r => K (pc + 1) ls (.long (f x y) :: r) σ
              | _ => none
            | none => match ev_l3 i with
              | some f => match st with
                | .int y :: .long x :: r => K (pc + 1) ls (.long (f x y) :: r) σ
                | _ => none
              | none => match i with
                | .invokevirtual idx => ev_inv sd cf M K true false false idx pc ls st σ
                | .invokespecial idx => ev_inv sd cf M K false true false idx pc ls st σ
                | .invokestatic idx => ev_inv sd cf M K false false true idx pc ls st σ
                | .getfield _ => ev_rd M K i pc ls st σ
                | .getstatic _ => ev_rd M K i pc ls st σ
                | .arraylength => ev_rd M K i pc ls st σ
                | .iaload => ev_rd M K i pc ls st σ
                | .caload => ev_rd M K i pc ls st σ
                | .baload => ev_rd M K i pc ls st σ
                | .laload => ev_rd M K i pc ls st σ
                | .aaload => ev_rd M K i pc ls st σ
                | .ldc _ => ev_rd M K i pc ls st σ
                | .ldc_w _ => ev_rd M K i pc ls st σ
                | .ldc2_w _ => ev_rd M K i pc ls st σ
                | .putfield _ => ev_wr sd M K i pc ls st σ
                | .iastore => ev_wr sd M K i pc ls st σ
                | .castore => ev_wr sd M K i pc ls st σ
                | .bastore => ev_wr sd M K i pc ls st σ
                | .lastore => ev_wr sd M K i pc ls st σ
                | .aastore => ev_wr sd M K i pc ls st σ
                | .new _ => ev_wr sd M K i pc ls st σ
                | .newarray _ => ev_wr sd M K i pc ls st σ
                | .anewarray _ => ev_wr sd M K i pc ls st σ
                | .multianewarray _ _ => ev_wr sd M K i pc ls st σ
                | _ => ev_pl M K i pc ls st σ
/-- instructions up to a place where an equation ends -/
def ev_seg (sd : Bool) (cf : ev_Me → List Value → ev_S → Option ev_R) (M : ev_Me) (back : ev_K) : Nat → ev_K
  | 0, _, _, _, _ => none
  | k + 1, pc, ls, st, σ => match ev_lk M.2.2.2.2.2.1 pc with
    | some (i, _) => ev_exe sd cf M (fun pc' ls' st' σ' => match ev_lk M.2.2.2.2.2.2 pc' with
      | some dead => back pc' (ev_clr ls' dead) st' σ'
      | none => ev_seg sd cf M back k pc' ls' st' σ') i pc ls st σ
    | none => none
def ev_run (sd : Bool) (cf : ev_Me → List Value → ev_S → Option ev_R) (M : ev_Me) : Nat → ev_K
  | 0, _, _, _, _ => none
  | f + 1, pc, ls, st, σ => ev_seg sd cf M (ev_run sd cf M f) 1000 pc ls st σ
/-- the locals at a method's entry -/
def ev_ent : List Value → Nat → List Value
  | [], n => List.replicate n ev_U
  | v :: t, n => bif Nat.beq v.category 2 then v :: ev_U :: ev_ent t (n - 2) else v :: ev_ent t (n - 1)
/-- how many locals the arguments take -/
def ev_words : List Value → Nat
  | [] => 0
  | v :: t => v.category + ev_words t
end
section
/-- one instruction goes on in one place at most -/
def ev_tail (F : ev_K → Option ev_R) : Prop := ∀ (K : ev_K) (r : ev_R), F K = some r → (∀ K', F K' = some r) ∨ ∃ pc ls st σ, K pc ls st σ = some r ∧ ∀ K', F K' = K' pc ls st σ
theorem ev_tail_none : ev_tail (fun _ => none) := fun _ _ h => by cases h
theorem ev_tail_some (x : Option ev_R) : ev_tail (fun _ => x) := fun _ _ h => Or.inl fun _ => h
theorem ev_tail_K (pc : Nat) (ls st : List Value) (σ : ev_S) : ev_tail (fun K => K pc ls st σ) := fun _ _ h => Or.inr ⟨_, _, _, _, h, fun _ => rfl⟩
theorem ev_tail_ite {c : Prop} [Decidable c] {F G : ev_K → Option ev_R} (hF : ev_tail F) (hG : ev_tail G) : ev_tail (fun K => if c then F K else G K) := by
  by_cases h : c
  · simp only [h, if_true]; exact hF
  · simp only [h, if_false]; exact hG
theorem ev_tail_bif {b : Bool} {F G : ev_K → Option ev_R} (hF : ev_tail F) (hG : ev_tail G) : ev_tail (fun K => bif b then F K else G K) := by
  cases b
  · exact hG
  · exact hF
theorem ev_tail_cI {o : Option ev_R} {F : Int32 → ev_S → ev_K → Option ev_R} (h : ∀ x σ, ev_tail (F x σ)) : ev_tail (fun K => ev_cI o (fun x σ => F x σ K)) := by
  unfold ev_cI
  split
  · exact h _ _
  · exact ev_tail_none
theorem ev_tail_cL {o : Option ev_R} {F : Int64 → ev_S → ev_K → Option ev_R} (h : ∀ x σ, ev_tail (F x σ)) : ev_tail (fun K => ev_cL o (fun x σ => F x σ K)) := by
  unfold ev_cL
  split
  · exact h _ _
  · exact ev_tail_none
theorem ev_tail_cV {o : Option ev_R} {F : ev_S → ev_K → Option ev_R} (h : ∀ σ, ev_tail (F σ)) : ev_tail (fun K => ev_cV o (fun σ => F σ K)) := by
  unfold ev_cV
  split
  · exact h _
  · exact ev_tail_none
theorem ev_tail_rc {b : Bool} {n ci : Nat} {args : List Value} {F : ev_K → Option ev_R} (h : ev_tail F) : ev_tail (fun K => ev_rc b n ci args (F K)) := by
  unfold ev_rc
  repeat' (first | exact ev_tail_none | exact h | apply ev_tail_bif | split)
theorem ev_tail_aI {σ : ev_S} {v : Value} {x : Int32} {F : Int32 → ev_K → Option ev_R} (h : ∀ x, ev_tail (F x)) : ev_tail (fun K => ev_aI σ v x (fun y => F y K)) := by
  unfold ev_aI
  repeat' (first | exact ev_tail_none | exact h _ | apply ev_tail_ite | split)
theorem ev_tail_sI {σ : ev_S} {v : Value} {x y : Int32} {F : (Nat → Nat → Int32) → ev_K → Option ev_R} (h : ∀ x, ev_tail (F x)) : ev_tail (fun K => ev_sI σ v x y (fun y => F y K)) := by
  unfold ev_sI
  repeat' (first | exact ev_tail_none | exact h _ | apply ev_tail_ite | split)
theorem ev_tail_sk1 : ∀ (ls : List Value) (n : Nat) (v : Value) (F : List Value → ev_K → Option ev_R) (_ : ∀ l, ev_tail (F l)), ev_tail (fun K => ev_sk1 ls n v (fun l => F l K))
  | [], _, _, _, _ => ev_tail_none
  | _ :: _, 0, _, _, h => h _
  | a :: t, 1, v, F, h => by
    exact ev_tail_sk1 t 0 v (fun t' K => bif Nat.beq a.category 2 then F (ev_U :: t') K else F (a :: t') K) (fun l => ev_tail_bif (h _) (h _))
  | a :: t, n + 2, v, F, h => ev_tail_sk1 t (n + 1) v (fun t' => F (a :: t')) (fun l => h _)
theorem ev_tail_sk2 : ∀ (ls : List Value) (n : Nat) (v : Value) (F : List Value → ev_K → Option ev_R) (_ : ∀ l, ev_tail (F l)), ev_tail (fun K => ev_sk2 ls n v (fun l => F l K))
  | [], _, _, _, _ => by simp only [ev_sk2]; exact ev_tail_none
  | [_], 0, _, _, _ => ev_tail_none
  | _ :: _ :: _, 0, _, _, h => h _
  | a :: t, 1, v, F, h => by
    simp only [ev_sk2]
    exact ev_tail_sk2 t 0 v (fun t' K => bif Nat.beq a.category 2 then F (ev_U :: t') K else F (a :: t') K) (fun l => ev_tail_bif (h _) (h _))
  | a :: t, n + 2, v, F, h => by
    simp only [ev_sk2]
    exact ev_tail_sk2 t (n + 1) v (fun t' => F (a :: t')) (fun l => h _)
theorem ev_tail_tsw (dflt lo hi : Int) (offs : Array Int) (pc : Nat) (x : Int32) (ls st : List Value) (σ : ev_S) : ∀ n, ev_tail (fun K => ev_tsw dflt lo hi offs pc x (fun p => K p ls st σ) n)
  | 0 => ev_tail_K _ _ _ _
  | n + 1 => ev_tail_ite (ev_tail_K _ _ _ _) (ev_tail_tsw dflt lo hi offs pc x ls st σ n)
theorem ev_tail_lsw (dflt : Int) (pc : Nat) (x : Int32) (ls st : List Value) (σ : ev_S) : ∀ l, ev_tail (fun K => ev_lsw dflt pc x (fun p => K p ls st σ) l)
  | [] => ev_tail_K _ _ _ _
  | (_, _) :: t => ev_tail_ite (ev_tail_K _ _ _ _) (ev_tail_lsw dflt pc x ls st σ t)
set_option maxHeartbeats 4000000 in
theorem ev_inv_tail (sd : Bool) (cf : ev_Me → List Value → ev_S → Option ev_R) (M : ev_Me) (v s t : Bool) (idx pc : Nat) (ls st : List Value) (σ : ev_S) : ev_tail (fun K => ev_inv sd cf M K v s t idx pc ls st σ) := by
  unfold ev_inv
  repeat' (first | exact ev_tail_none | exact ev_tail_K _ _ _ _ | apply ev_tail_bif | apply ev_tail_ite | apply ev_tail_cI | apply ev_tail_cL | apply ev_tail_cV | apply ev_tail_rc | (split <;> try exact ev_tail_none) | intro _)
set_option maxHeartbeats 4000000 in
theorem ev_rd_tail (M : ev_Me) (i : Instr) (pc : Nat) (ls st : List Value) (σ : ev_S) : ev_tail (fun K => ev_rd M K i pc ls st σ) := by
  unfold ev_rd
  repeat' (first | exact ev_tail_none | exact ev_tail_K _ _ _ _ | exact ev_tail_aI (fun _ => ev_tail_K _ _ _ _) | apply ev_tail_bif | apply ev_tail_ite | (split <;> try exact ev_tail_none))
set_option maxHeartbeats 4000000 in
theorem ev_wr_tail (sd : Bool) (M : ev_Me) (i : Instr) (pc : Nat) (ls st : List Value) (σ : ev_S) : ev_tail (fun K => ev_wr sd M K i pc ls st σ) := by
  unfold ev_wr
  repeat' (first | exact ev_tail_none | exact ev_tail_K _ _ _ _ | exact ev_tail_sI (fun _ => ev_tail_K _ _ _ _) | exact ev_tail_some _ | apply ev_tail_bif | apply ev_tail_ite | (split <;> try exact ev_tail_none))
set_option maxHeartbeats 4000000 in
theorem ev_pl_tail (M : ev_Me) (i : Instr) (pc : Nat) (ls st : List Value) (σ : ev_S) : ev_tail (fun K => ev_pl M K i pc ls st σ) := by
  unfold ev_pl
  repeat' (first | exact ev_tail_none | exact ev_tail_K _ _ _ _ | exact ev_tail_some _ | exact ev_tail_tsw _ _ _ _ _ _ _ _ _ _ | exact ev_tail_lsw _ _ _ _ _ _ _ | exact ev_tail_sk1 _ _ _ (fun ls' K => K _ ls' _ _) (fun _ => ev_tail_K _ _ _ _) | apply ev_tail_bif | apply ev_tail_ite | (split <;> try exact ev_tail_none))
set_option maxHeartbeats 4000000 in
theorem ev_exe_tail (sd : Bool) (cf : ev_Me → List Value → ev_S → Option ev_R) (M : ev_Me) (i : Instr) (pc : Nat) (ls st : List Value) (σ : ev_S) : ev_tail (fun K => ev_exe sd cf M K i pc ls st σ) := by
  unfold ev_exe
  repeat' (first | exact ev_tail_none | exact ev_tail_K _ _ _ _ | exact ev_inv_tail _ _ _ _ _ _ _ _ _ _ _ | exact ev_tail_sk1 _ _ _ (fun ls' K => K _ ls' _ _) (fun _ => ev_tail_K _ _ _ _) | exact ev_tail_sk2 _ _ _ (fun ls' K => K _ ls' _ _) (fun _ => ev_tail_K _ _ _ _) | exact ev_rd_tail _ _ _ _ _ _ | exact ev_wr_tail _ _ _ _ _ _ _ | exact ev_pl_tail _ _ _ _ _ _ | apply ev_tail_bif | (split <;> try exact ev_tail_none))
theorem ev_seg_tail (sd : Bool) (cf : ev_Me → List Value → ev_S → Option ev_R) (M : ev_Me) : ∀ (k pc : Nat) (ls st : List Value) (σ : ev_S), ev_tail (fun K => ev_seg sd cf M K k pc ls st σ)
  | 0, _, _, _, _ => ev_tail_none
  | k + 1, pc, ls, st, σ => by
    intro K r h
    simp only [ev_seg] at h ⊢
    cases hl : ev_lk M.2.2.2.2.2.1 pc with
    | none => simp [hl] at h
    | some x =>
      obtain ⟨i, n⟩ := x
      simp only [hl] at h ⊢
      rcases ev_exe_tail sd cf M i pc ls st σ _ r h with h1 | ⟨p2, l2, s2, g2, h1, h2⟩
      · exact Or.inl fun K' => h1 _
      · cases hc : ev_lk M.2.2.2.2.2.2 p2 with
        | some dead =>
          rw [hc] at h1
          exact Or.inr ⟨p2, _, s2, g2, h1, fun K' => (h2 _).trans (by rw [hc])⟩
        | none =>
          rw [hc] at h1
          rcases ev_seg_tail sd cf M k p2 l2 s2 g2 K r h1 with h3 | ⟨p3, l3, s3, g3, h3, h4⟩
          · exact Or.inl fun K' => (h2 _).trans (by rw [hc]; exact h3 K')
          · exact Or.inr ⟨p3, l3, s3, g3, h3, fun K' => (h2 _).trans (by rw [hc]; exact h4 K')⟩
theorem ev_run_mono (sd : Bool) (cf : ev_Me → List Value → ev_S → Option ev_R) (M : ev_Me) : ∀ (f pc : Nat) (ls st : List Value) (σ : ev_S) (r : ev_R), ev_run sd cf M f pc ls st σ = some r → ev_run sd cf M (f + 1) pc ls st σ = some r
  | 0, _, _, _, _, _, h => by simp [ev_run] at h
  | f + 1, pc, ls, st, σ, r, h => by
    rw [ev_run] at h ⊢
    rcases ev_seg_tail sd cf M 1000 pc ls st σ _ r h with h1 | ⟨p2, l2, s2, g2, h1, h2⟩
    · exact h1 _
    · exact (h2 (ev_run sd cf M (f + 1))).trans (ev_run_mono sd cf M f p2 l2 s2 g2 r h1)
theorem ev_run_le (sd : Bool) (cf : ev_Me → List Value → ev_S → Option ev_R) (M : ev_Me) {f g pc : Nat} {ls st : List Value} {σ : ev_S} {r : ev_R} (hfg : f ≤ g) (h : ev_run sd cf M f pc ls st σ = some r) : ev_run sd cf M g pc ls st σ = some r := by
  obtain ⟨k, rfl⟩ := Nat.exists_eq_add_of_le hfg
  clear hfg
  induction k with
  | zero => exact h
  | succ k ih => exact ev_run_mono sd cf M _ pc ls st σ r ih
theorem ev_lim_ex (sd : Bool) (cf : ev_Me → List Value → ev_S → Option ev_R) (M : ev_Me) (pc : Nat) (ls st : List Value) (σ : ev_S) : ∃ o : Option ev_R, ∀ r, o = some r ↔ ∃ f, ev_run sd cf M f pc ls st σ = some r := by
  by_cases h : ∃ r f, ev_run sd cf M f pc ls st σ = some r
  · obtain ⟨r, f, h⟩ := h
    refine ⟨some r, fun r2 => ⟨fun e => ⟨f, by rw [← e]; exact h⟩, fun ⟨g, hg⟩ => ?_⟩⟩
    have h1 := ev_run_le sd cf M (Nat.le_max_left f g) h
    have h2 := ev_run_le sd cf M (Nat.le_max_right f g) hg
    exact h1.symm.trans h2
  · exact ⟨none, fun r => ⟨fun e => (by cases e), fun ⟨f, hf⟩ => absurd ⟨r, f, hf⟩ h⟩⟩
/-- the evaluator without a count of loops -/
noncomputable def ev_lim (sd : Bool) (cf : ev_Me → List Value → ev_S → Option ev_R) (M : ev_Me) : ev_K := fun pc ls st σ => Classical.choose (ev_lim_ex sd cf M pc ls st σ)
theorem ev_lim_iff {sd : Bool} {cf : ev_Me → List Value → ev_S → Option ev_R} {M : ev_Me} {pc : Nat} {ls st : List Value} {σ : ev_S} {r : ev_R} : ev_lim sd cf M pc ls st σ = some r ↔ ∃ f, ev_run sd cf M f pc ls st σ = some r := Classical.choose_spec (ev_lim_ex sd cf M pc ls st σ) r
theorem ev_opt {α : Type} {a b : Option α} (h : ∀ r, a = some r ↔ b = some r) : a = b := by
  cases a with
  | none => cases b with
    | none => rfl
    | some y => exact absurd ((h y).mpr rfl) (by simp)
  | some x => exact ((h x).mp rfl).symm
/-- an equation for each place -/
theorem ev_eq (sd : Bool) (cf : ev_Me → List Value → ev_S → Option ev_R) (M : ev_Me) (pc : Nat) (ls st : List Value) (σ : ev_S) : ev_lim sd cf M pc ls st σ = ev_seg sd cf M (ev_lim sd cf M) 1000 pc ls st σ := by
  refine ev_opt fun r => ⟨fun h => ?_, fun h => ?_⟩
  · obtain ⟨f, hf⟩ := ev_lim_iff.mp h
    cases f with
    | zero => simp [ev_run] at hf
    | succ f =>
      rw [ev_run] at hf
      rcases ev_seg_tail sd cf M 1000 pc ls st σ _ r hf with h1 | ⟨p2, l2, s2, g2, h1, h2⟩
      · exact h1 _
      · exact (h2 (ev_lim sd cf M)).trans (ev_lim_iff.mpr ⟨f, h1⟩)
  · rcases ev_seg_tail sd cf M 1000 pc ls st σ _ r h with h1 | ⟨p2, l2, s2, g2, h1, h2⟩
    · exact ev_lim_iff.mpr ⟨1, by rw [ev_run]; exact h1 _⟩
    · obtain ⟨f, hf⟩ := ev_lim_iff.mp h1
      refine ev_lim_iff.mpr ⟨f + 1, ?_⟩
      rw [ev_run]
      exact (h2 (ev_run sd cf M f)).trans hf
/-- a call, at most d deep -/
noncomputable def ev_call (sd : Bool) : Nat → ev_Me → List Value → ev_S → Option ev_R
  | 0, _, _, _ => none
  | d + 1, M, args, σ => bif Nat.ble (ev_words args) M.2.2.1 then ev_lim sd (ev_call sd d) M 0 (ev_ent args M.2.2.1) [] σ else none
end
section
/-! The store once all is made: the references stand. -/
def ev_R0 : Nat → Nat → Option Nat := fun k j => ev_lk ((ev_nth ev_refL k).getD []) j
def ev_mk (h : Bool × Nat × Nat) (I : Nat → Nat → Int32) (L : Nat → Nat → Int64) : ev_S := ((ev_N0, h), I, L, ev_R0)
/-- a place of a method, a call of it, in such a store -/
noncomputable abbrev ev_at (d : Nat) (M : ev_Me) (pc : Nat) (ls st : List Value) (σ : ev_S) : Option ev_R := ev_lim true (ev_call true d) M pc ls st σ
noncomputable abbrev ev_do (d : Nat) (M : ev_Me) (args : List Value) (σ : ev_S) : Option ev_R := ev_call true d M args σ
def ev_ri (x : Int32) (σ : ev_S) : Option ev_R := some (some (some (.int x)), σ)
def ev_rl (x : Int64) (σ : ev_S) : Option ev_R := some (some (some (.long x)), σ)
def ev_rn (σ : ev_S) : Option ev_R := some (some none, σ)
end
section
/-! The throw of an exception whose constructor passes its text on by any index. 'ev_ctorX' follows the library's Stand.ctorThrowS, with Bundle.chainSX in place of Bundle.chainS. -/
def ev_atX (own : String) (ic : Nat) (X : String) (ix : Nat) (rx : ByteArray) (names : List String) : List Cond := (Bundle.ownAtomsX own ic X ix rx names).filter vx_no
section EVTHR
variable {p : Program} {l : Launch} {e : Env} {R : Room} {s : State} {m₀ : MethodId} {args : Array Value} {below : List Frame} {meth : Method} {c : Code} {W : State} {locs : List Loc} {cells slots : Nat}
set_option maxHeartbeats 2000000 in
theorem ev_ctorX (X : Stand p l e R s m₀ args below meth c W locs cells slots) (hexec : p.tables.exec = Jvm.exec) (htr : e.platform.stackTraces = false) {own cls : String} {names : List String} {ic : Nat}
    {ix : Nat} {rx : ByteArray} (x0 : decode rx 0 = .ok (.aload_n 0, 1)) (x1 : decode rx 1 = .ok (.aload_n 1, 1)) (x2 : decode rx 2 = .ok (.invokespecial ix, 3)) (x5 : decode rx 5 = .ok (.return_, 1))
    (hown : s.vm.findClass own = some m₀.cls) (hcls : Bundle.fit cls = true) (hnames : ∀ n ∈ names, Bundle.fit n = true)
    (h : ∀ a ∈ Bundle.ownAtomsX own ic cls ix rx names, a.before args s = true)
    (hlocs : ∀ x ∈ locs, ∀ cell, s.heap[x.base]? = some cell → cell.vm.isStatics = false)
    {a : Addr} {cX : ClassId} {kX : Class} (hfoundX : s.vm.findClass cls = some cX) (hkX : s.vm.classes[cX]? = some kX) (hcell : W.heap[a]? = some (freshCell cX kX)) (hnew : s.heap.size ≤ a)
    {msg : Value} (hmsg : msg.isRef = true)
    {g : JFrame} (hg : g.method = m₀) (hsize : g.locals.size = c.maxLocals) (hlocked : g.locked = none) (hentered : g.entered = []) {rest : List Value} (hstack : g.stack = msg :: .ref a :: .ref a :: rest)
    (hd6 : decode c.code g.pc = .ok (.invokespecial ic, 3)) (hd9 : decode c.code (g.pc + 3) = .ok (.athrow, 1)) (hout : ∀ x ∈ c.exceptionTable.toList, covers x (g.pc + 3) = false)
    (hRframes : names.length + 3 < R.frames) (hRlocals : 2 * g.monitorRoom + ((Value.ref a :: rest).map fun v => v.category).sum + (13 * (names.length + 1) + 42) ≤ R.locals) (hlocks : meth.locks = false := by first | assumption | exact BodyLoose.notSynchronized (by assumption) | exact Body.notSynchronized (by assumption)) :
    ∃ U : State, Steps p.tables e below (W.setTop g) U ∧ U.status = .running ∧ Ended U below (.threw a) ∧ s.WarmedH U.vm ∧ s.sameButNew ({ U with vm := s.vm } : State) locs cells slots ∧
      ∃ ce, U.heap[a]? = some ce ∧ s.vm.findClass cls = some ce.cls ∧ ce.vm = .none := by
  have howns : e.platform.frameOwnsMonitors = true := by rw [X.admits.platform]
  have hfin : e.platform.finalization = false := by rw [X.admits.platform]
  have hpl : e.platform.magicAccessors = ({} : Platform).magicAccessors := by rw [X.admits.platform]
  have a' : ∀ x, x ∈ Bundle.ownAtomsX own ic cls ix rx names → x.holds args s none s [] = true := fun x hx => h x hx
  obtain ⟨T, Z0, L, -, Y⟩ := ThrowableC.of_atoms (args := args) howns hfin hpl (fun x hx => h x (by simp [Bundle.ownAtomsX, hx]))
  obtain ⟨Z, M, LZ, LM, hnZ⟩ := Init0T.ofS_atoms (args := args) hpl L Y (fun x hx => h x (by simp [Bundle.ownAtomsX, hx]))
  obtain ⟨P1, Ps, hlen, L1, hL, hP1m, hlink1, hlink⟩ := Bundle.chainSX (args := args) hpl hnZ x0 x1 x2 x5 names cls hcls hnames (fun x hx => h x (by simp [Bundle.ownAtomsX, hx]))
  have hfound : s.vm.findClass cls = some P1.m.cls := findClass_of_methodNamed hP1m
  cases Option.some.inj (hfoundX.symm.trans hfound)
  obtain ⟨c1, kX', hc1, hk, hord, -, -, hn6⟩ := Cond.instantiable_spec (a' (.instantiable cls 6) (by simp [Bundle.ownAtomsX]))
  cases Option.some.inj (hc1.symm.trans hfound)
  cases Option.some.inj (hkX.symm.trans hk)
  have hsel0 : selectMethod e.platform s.vm P1.m.cls T.fill0 = .method T.fill0 := by
    obtain ⟨c2, r2, m2, q1, q2, q3, q4, -⟩ := Cond.selects_spec (a' (.selects cls Bundle.tFill0 Bundle.tFill0) (by simp [Bundle.ownAtomsX]))
    cases Option.some.inj (q1.symm.trans hfound)
    cases Option.some.inj (q2.symm.trans (State.methodFound?_of_named Y.fill0 (by decide)))
    cases Option.some.inj (q3.symm.trans Y.fill0)
    rw [Launch.admits_selectMethod X.admits]; exact q4
  have hselF : selectMethod e.platform s.vm P1.m.cls T.fill = .method T.fill := by
    obtain ⟨c2, r2, m2, q1, q2, q3, q4, -⟩ := Cond.selects_spec (a' (.selects cls Bundle.tFill Bundle.tFill) (by simp [Bundle.ownAtomsX]))
    cases Option.some.inj (q1.symm.trans hfound)
    cases Option.some.inj (q2.symm.trans (State.methodFound?_of_named Y.fill (by decide)))
    cases Option.some.inj (q3.symm.trans Y.fill)
    rw [Launch.admits_selectMethod X.admits]; exact q4
  obtain ⟨cellS0, hcS0, hiss⟩ := Y.statics
  obtain ⟨u0, hu0⟩ := Cond.staticRefV Y.unassigned L.unassignedStatic L.statics hcS0 hiss (a' (.isRef (.static Bundle.tN "UNASSIGNED_STACK" Bundle.steD)) (by simp [Bundle.ownAtomsX]))
  obtain ⟨sen, hsen⟩ := Cond.staticRefV Y.sentinel L.sentinelStatic L.statics hcS0 hiss (a' (.isRef (.static Bundle.tN "SUPPRESSED_SENTINEL" Bundle.listD)) (by simp [Bundle.ownAtomsX]))
  obtain ⟨ci198, i198, fB, hk198, hg198, ha198, hsB, -, hnB, htB, hffB⟩ := Cond.ownField (t := .object "java/lang/Object") Y.found L.cls (by decide +kernel) (a' (.fieldLink Bundle.tN 198 Bundle.tN "backtrace" "Ljava/lang/Object;") (by simp [Bundle.ownAtomsX])) (a' (.lays Bundle.tN Bundle.tN "backtrace" "Ljava/lang/Object;") (by simp [Bundle.ownAtomsX])) e.platform hpl
  obtain ⟨cellS, hcS', heS, -, hkeep⟩ := X.same.2.2.2.2.2 T.aS cellS0 hcS0
  have hcellS : W.heap[T.aS]? = some cellS := hcS'
  have hout' : ∀ i, (⟨T.aS, i⟩ : Loc) ∉ locs := fun i hmem => by
    have := hlocs _ hmem cellS0 hcS0
    rw [hiss] at this; cases this
  have hknownS : cellS.vm ≠ .unknown := by
    rw [heS]; intro hu
    rw [show cellS0.vm = .unknown from hu] at hiss
    cases hiss
  have hneS : T.aS ≠ a := Nat.ne_of_lt (Nat.lt_of_lt_of_le (Array.getElem?_eq_some_iff.mp hcS0).1 hnew)
  obtain ⟨iM, hffM⟩ := Y.msg
  obtain ⟨tyC, dC, hdC, hdnC⟩ := Cond.laysAt hfound hk Y.cause (a' (.lays cls Bundle.tN "cause" "Ljava/lang/Throwable;") (by simp [Bundle.ownAtomsX]))
  obtain ⟨tyS, dS, hdS, hdnS⟩ := Cond.laysAt hfound hk Y.stack (a' (.lays cls Bundle.tN "stackTrace" Bundle.steD) (by simp [Bundle.ownAtomsX]))
  obtain ⟨tyP, dP, hdP, hdnP⟩ := Cond.laysAt hfound hk Y.supp (a' (.lays cls Bundle.tN "suppressedExceptions" Bundle.listD) (by simp [Bundle.ownAtomsX]))
  obtain ⟨tyM, dM, hdM, hdnM⟩ := Cond.laysAt hfound hk hffM (a' (.lays cls Bundle.tN "detailMessage" "Ljava/lang/String;") (by simp [Bundle.ownAtomsX]))
  obtain ⟨tyB, dB, hdB, hdnB⟩ := Cond.laysAt hfound hk hffB (a' (.lays cls Bundle.tN "backtrace" "Ljava/lang/Object;") (by simp [Bundle.ownAtomsX]))
  have bC := Cond.laysApart hdB hdC hdnB hdnC (by rw [hnB, Y.causeName]; decide)
  have bS := Cond.laysApart hdB hdS hdnB hdnS (by rw [hnB, Y.stackName]; decide)
  have bP := Cond.laysApart hdB hdP hdnB hdnP (by rw [hnB, Y.suppName]; decide)
  have hskip : SkipFacts T e.platform s (fun u => u) u0 ((preparedCellV T.toThrowableT (freshCell P1.m.cls kX) a u0 sen).withEntry W.cur) :=
    ⟨{ ci198 := ci198, i198 := i198, fBack := fB }, ⟨hk198, hg198, ha198, hsB⟩, by
      have := fresh_default (c := P1.m.cls) tyB
      rw [htB] at this
      simpa [preparedCellV, Cell.setSlot, Cell.withEntry, Array.getElem?_setIfInBounds, bC, bS, bP, bC.symm, bS.symm, bP.symm, defaultValue] using this, fun _ _ => rfl⟩
  obtain ⟨tm, methC, cdC, kC, vm₁, hnC, -, -, -, -, -, -, -, hW₁, st1⟩ := Steps.initColdS (tb := p.tables) (e := e) (below := below) (s := s) (U := W) X.here hexec X.warmed hpl hown (t := Bundle.initS cls) rfl rfl (Bundle.fit_spec hcls).2
    (a' (.methodLink own ic (Bundle.initS cls)) (by simp [Bundle.ownAtomsX])) (h (.instanceMethod (Bundle.initS cls)) (by cases names <;> simp [Bundle.ownAtomsX, Bundle.chainSAtomsX, Bundle.passSAtoms])) (bytes := rx) (maxL := 2) (h (.code (Bundle.initS cls) rx 2 none) (by cases names <;> simp [Bundle.ownAtomsX, Bundle.chainSAtomsX, Bundle.passSAtoms]))
    (f := g) hg (a := a) (msg := msg) (rest := .ref a :: rest) hstack hd6
  cases Option.some.inj (hnC.symm.trans hP1m)
  have X₁ := X.noted hW₁
  obtain ⟨vm₂, X₂, st2⟩ := X₁.ctorMessageOffV hexec (g := { g with stack := .ref a :: rest }) hg hsize T L Z LZ M LM (P1 :: Ps)
    (fun P hP => by rcases List.mem_cons.mp hP with rfl | hP; exact L1; exact hL P hP) ⟨hlink1, hlink⟩ (u0 := u0) (sen := sen) (self := a) hmsg (cell := freshCell P1.m.cls kX) (cellS := cellS)
    hcell (fun _ => by simp) (by simp) rfl rfl hsel0 hselF hcellS hneS hknownS (by rw [hkeep _ (hout' _)]; exact hu0) (by rw [hkeep _ (hout' _)]; exact hsen)
    (Takes.of_laid hk hord tyC (by rw [Y.causeType]; rfl)) (Takes.of_laid hk hord tyS (by rw [Y.stackType]; exact fits_refV_array _ u0)) (Takes.of_laid hk hord tyP (by rw [Y.suppType]; exact fits_refV_object _ sen))
    (Takes.of_laid hk hord tyM (by rw [Y.msgType]; exact fits_refV_object _ ⟨msg, hmsg⟩)) Y.objLocals hskip htr [] hd6
    (by simp only [List.length_cons, hlen]; omega) (by simp only [List.length_cons, hlen]; exact hRlocals)
  obtain ⟨hwalk, hrun, hended, hWU, hsame⟩ := X₂.athrowLeaves hexec (g := { g with stack := .ref a :: rest, pc := g.pc + 3 }) hg hlocked hentered hout (a := a) (rest := rest) rfl hd9
  obtain ⟨c3, c4, hc3, hc4, hasg⟩ := Cond.castable_spec (a' (.castable cls cls) (by simp [Bundle.ownAtomsX]))
  cases Option.some.inj (hc3.symm.trans hfound)
  cases Option.some.inj (hc4.symm.trans hfound)
  have hlt : a < ((W.setVm vm₁).setVm vm₂).heap.size := (Array.getElem?_eq_some_iff.mp hcell).1
  have hU := heapAt_setCell_self (s := (W.setVm vm₁).setVm vm₂) (plainBareV T.toThrowableT (freshCell P1.m.cls kX) a u0 sen msg) hlt
  refine ⟨_, st1 _ (fun acts => ?_), hrun, hended, hWU, hsame.weaken (fun y hy hlt' => ?_) (Nat.le_refl _) (Nat.le_refl _), _, hU, ?_⟩
  · rw [doInvoke_state]
    exact st2 _ hwalk
  · rcases List.mem_append.mp hy with h1 | h1
    · exact h1
    · exfalso
      have hb : y.base = a := by
        simp only [List.mem_cons, List.not_mem_nil, or_false] at h1
        rcases h1 with rfl | rfl | rfl | rfl | rfl <;> rfl
      rw [hb] at hlt'
      exact Nat.not_lt.mpr hnew hlt'
  · exact ⟨hfound, rfl⟩
end EVTHR
section EVTHS
variable {p : Program} {l : Launch} {e : Env} {R : Room} {s : State} {m : MethodId} {args : Array Value} {below : List Frame} {meth : Method} {c : Code} {H : Heap} {locs : List Loc} {cells slots : Nat} {Q : State → Prop}
variable {mc ms : Nat} {free : Addr → Prop} {A0 A1 : Nat → Prop} {H0 : Heap} {a : Array Value} {ls : Array Slot} {st0 rest : List Value}
variable {Qc : Array Value → State → Outcome → State → Prop} {XC : String → State → State → Prop}
theorem ev_throwS {cc : ByteArray} {pc : Nat} (hexec : p.tables.exec = Jvm.exec) (hb : c.code = cc) (hl : l.stackTraces = false) {own cls text : String} {names : List String} {ik is ic mc ms sa : Nat} {ix : Nat} {rx : ByteArray} (x0 : decode rx 0 = .ok (.aload_n 0, 1)) (x1 : decode rx 1 = .ok (.aload_n 1, 1)) (x2 : decode rx 2 = .ok (.invokespecial ix, 3)) (x5 : decode rx 5 = .ok (.return_, 1)) {A : Nat → Prop}
    (hown : s.vm.findClass own = some m.cls) (hcls : Bundle.fit cls = true) (hnames : ∀ n ∈ names, Bundle.fit n = true)
    (hk : (Cond.classLink own ik cls).before args s = true) (hini : (Cond.initialized cls).before args s = true) (hstr : vk_R own is text sa s) (hat : ∀ w ∈ ev_atX own ic cls ix rx names, w.before args s = true)
    (hgood : ∀ w ∈ Cond.classLink own ik cls :: Cond.initialized cls :: ev_atX own ic cls ix rx names, vx_ot w = true)
    (hU : vx_Zq Bundle.tN "UNASSIGNED_STACK" Bundle.steD A s s.heap) (hN : vx_Zq Bundle.tN "SUPPRESSED_SENTINEL" Bundle.listD A s s.heap) (hS : va_S A s.heap H locs) (hsize : ls.size = c.maxLocals)
    (d0 : decode cc pc = .ok (.new ik, 3)) (d3 : decode cc (pc + 3) = .ok (.dup, 1)) (d4 : decode cc (pc + 4) = .ok (.ldc is, 2)) (d6 : decode cc (pc + 6) = .ok (.invokespecial ic, 3)) (d9 : decode cc (pc + 9) = .ok (.athrow, 1))
    (hout : ∀ x ∈ c.exceptionTable.toList, covers x (pc + 9) = false)
    (hRframes : names.length + 3 < R.frames) (hRlocals : (rest.map fun v => v.category).sum + (13 * (names.length + 1) + 43) ≤ R.locals) (hRcells : cells + 1 ≤ R.cells) (hRslots : slots + 6 ≤ R.slots) (hlocks : meth.locks = false)
    (hx : ∀ t : State, s.vm.Alike t.vm → H.size ≤ t.heap.size → (∀ q : Nat, q < H.size → t.heap[q]? = H[q]?) → XC cls s t)
    (hf : ∀ z ∈ locs, free z.base) (hc : cells + 1 ≤ mc) (hs : slots + 6 ≤ ms) :
    W p l e R s m args below meth c H locs cells slots (vx_MQ below Qc XC args s mc ms free) (F0 m pc ls rest) := by
  intro T hT X
  have htr : e.platform.stackTraces = false := (show e.platform.stackTraces = l.stackTraces by rw [X.admits.platform]).trans hl
  have Y := vx_rebase X (R' := { frames := R.frames, locals := R.locals, cells := 1, slots := 6 }) (Nat.le_refl _) (Nat.le_refl _) hRcells hRslots
  obtain ⟨s', hA⟩ : ∃ z, z = (T.setVm s.vm).setFrames (.invoking m args :: below) := ⟨_, rfl⟩
  rw [← hA] at Y
  have hvm : s'.vm = s.vm := by rw [hA]; rfl
  have hhp : s'.heap = H := by rw [hA]; exact hT
  have hW0 : s.WarmedH s'.vm := by rw [hvm]; exact State.WarmedH.refl s
  have hat' : ∀ w ∈ ev_atX own ic cls ix rx names, w.before args s' = true := fun w hw => vx_ot_at hW0 hvm.symm (hgood w (List.mem_cons_of_mem _ (List.mem_cons_of_mem _ hw))) (hat w hw)
  have hk' : (Cond.classLink own ik cls).before args s' = true := vx_ot_at hW0 hvm.symm (hgood _ List.mem_cons_self) hk
  have hini' : (Cond.initialized cls).before args s' = true := vx_ot_at hW0 hvm.symm (hgood _ (List.mem_cons_of_mem _ List.mem_cons_self)) hini
  have hU' : vx_Zq Bundle.tN "UNASSIGNED_STACK" Bundle.steD A s' s'.heap := by rw [hhp]; exact vx_Zq.moved hW0.alike (hU.kept hS.2.1)
  have hN' : vx_Zq Bundle.tN "SUPPRESSED_SENTINEL" Bundle.listD A s' s'.heap := by rw [hhp]; exact vx_Zq.moved hW0.alike (hN.kept hS.2.1)
  have h : ∀ w ∈ Bundle.ownAtomsX own ic cls ix rx names, w.before args s' = true := vx_own hat' (vx_isRefq hU'.1) (vx_isRefq hN'.1) hU'.2.word hN'.2.word
  have hown' : s'.vm.findClass own = some m.cls := by rw [hvm]; exact hown
  have hins : (Cond.instantiable cls 6).before args s' = true := h _ (by simp [Bundle.ownAtomsX])
  obtain ⟨vm₁, cX, kX, hfX, hkX, -, -, X₁, st1⟩ := Y.newCold hexec (own := own) (C := cls) (index := ik) (n := 6) hown' hk' hins hini'
    (g := F0 m pc ls rest) rfl (by rw [hb]; exact d0) (Nat.le_refl _) (Nat.le_refl _)
  generalize hT1 : (T.setVm vm₁).pushCell { cls := cX, slots := kX.instanceTypes.map defaultValue, vm := .none } = T1 at X₁ st1
  have hcat : (Value.ref T.heap.size).category = 1 := rfl
  have hcellA : T1.heap[T.heap.size]? = some (freshCell cX kX) := by rw [← hT1]; exact State.heap_pushCell_size _ _
  have d3' : decode c.code (pc + 3) = .ok (.dup, 1) := by rw [hb]; exact d3
  have d4' : decode c.code (pc + 4) = .ok (.ldc is, 2) := by rw [hb]; exact d4
  have hstr' : vk_R own is text sa s' := vk_R.warm hW0 hstr
  obtain ⟨U, hsteps, hrun, hend, hW, hsame, ce, hce, hO⟩ := ev_ctorX X₁ hexec htr (own := own) (cls := cls) (names := names) (ic := ic) x0 x1 x2 x5 hown' hcls hnames h (fun x hx => nomatch hx) hfX hkX hcellA (by rw [hhp, hT]; exact Nat.le_refl _) (msg := .ref sa) rfl
    (g := { method := m, pc := pc + 6, locals := ls, stack := .ref sa :: .ref T.heap.size :: .ref T.heap.size :: rest, locked := none }) rfl hsize rfl rfl (rest := rest) rfl
    (by rw [hb]; exact d6) (by rw [hb]; exact d9) hout hRframes (by simp only [List.map_cons, List.sum_cons, hcat]; omega) hlocks
  obtain ⟨f1, f2⟩ := vx_frame hsame
  rw [hhp] at f1 f2
  have hWs : s.WarmedH U.vm := State.WarmedH.trans hW0 hW
  have hcl : s.vm.findClass cls = some ce.cls := by
    have h9 := hO.1
    rw [hvm] at h9
    exact h9
  have hall : s.sameButNew ({ U with vm := s.vm } : State) locs mc ms := by
    subst hA
    obtain ⟨e1, e2⟩ := hsame
    rw [State.setFrames_setFrames] at e1
    have h2 : (T.setVm s.vm).sameButNew ({ U with vm := s.vm } : State) [] (0 + 1) (0 + 6) := ⟨e1, e2⟩
    have h3 := X.same.trans h2
    rw [List.append_nil] at h3
    exact h3.mono hc hs
  refine ⟨U, ?_, .threw T.heap.size, hrun, hend, Or.inr ⟨T.heap.size, rfl, cls, ce, locs, hx U hWs.alike f1 (fun q hq => f2 q hq (fun z hz => nomatch hz)), hce, hO.2, hcl, hWs, hall, hf⟩⟩
  refine st1 _ ?_
  show Steps p.tables e below (T1.setTop { method := m, pc := pc + 3, locals := ls, stack := .ref T.heap.size :: rest, locked := none }) _
  jvm_step X₁.here [X₁.here.top, hexec, d3', Value.category]
  exact X₁.ldcString hexec (own := own) (text := text) (index := is) (a := sa) hown' hstr'.1 hstr'.2
    (g := { method := m, pc := pc + 4, locals := ls, stack := .ref T.heap.size :: .ref T.heap.size :: rest, locked := none }) rfl d4' _ hsteps
theorem ev_throwSW {cc : ByteArray} {pc : Nat} (hexec : p.tables.exec = Jvm.exec) (hb : c.code = cc) (hl : l.stackTraces = false) {own cls text : String} {names : List String} {ik is ic mc ms sa : Nat} {ix : Nat} {rx : ByteArray} (x0 : decode rx 0 = .ok (.aload_n 0, 1)) (x1 : decode rx 1 = .ok (.aload_n 1, 1)) (x2 : decode rx 2 = .ok (.invokespecial ix, 3)) (x5 : decode rx 5 = .ok (.return_, 1)) {A : Nat → Prop}
    (hown : s.vm.findClass own = some m.cls) (hcls : Bundle.fit cls = true) (hnames : ∀ n ∈ names, Bundle.fit n = true)
    (hk : (Cond.classLink own ik cls).before args s = true) (hini : (Cond.initialized cls).before args s = true) (hstr : vk_R own is text sa s) (hat : ∀ w ∈ ev_atX own ic cls ix rx names, w.before args s = true)
    (hgood : ∀ w ∈ Cond.classLink own ik cls :: Cond.initialized cls :: ev_atX own ic cls ix rx names, vx_ot w = true)
    (hU : vx_Zq Bundle.tN "UNASSIGNED_STACK" Bundle.steD A s s.heap) (hN : vx_Zq Bundle.tN "SUPPRESSED_SENTINEL" Bundle.listD A s s.heap) (hS : va_S A s.heap H locs) (hsize : ls.size = c.maxLocals)
    (d0 : decode cc pc = .ok (.new ik, 3)) (d3 : decode cc (pc + 3) = .ok (.dup, 1)) (d4 : decode cc (pc + 4) = .ok (.ldc_w is, 3)) (d7 : decode cc (pc + 7) = .ok (.invokespecial ic, 3)) (d10 : decode cc (pc + 10) = .ok (.athrow, 1))
    (hout : ∀ x ∈ c.exceptionTable.toList, covers x (pc + 10) = false)
    (hRframes : names.length + 3 < R.frames) (hRlocals : (rest.map fun v => v.category).sum + (13 * (names.length + 1) + 43) ≤ R.locals) (hRcells : cells + 1 ≤ R.cells) (hRslots : slots + 6 ≤ R.slots) (hlocks : meth.locks = false)
    (hx : ∀ t : State, s.vm.Alike t.vm → H.size ≤ t.heap.size → (∀ q : Nat, q < H.size → t.heap[q]? = H[q]?) → XC cls s t)
    (hf : ∀ z ∈ locs, free z.base) (hc : cells + 1 ≤ mc) (hs : slots + 6 ≤ ms) :
    W p l e R s m args below meth c H locs cells slots (vx_MQ below Qc XC args s mc ms free) (F0 m pc ls rest) := by
  intro T hT X
  have htr : e.platform.stackTraces = false := (show e.platform.stackTraces = l.stackTraces by rw [X.admits.platform]).trans hl
  have Y := vx_rebase X (R' := { frames := R.frames, locals := R.locals, cells := 1, slots := 6 }) (Nat.le_refl _) (Nat.le_refl _) hRcells hRslots
  obtain ⟨s', hA⟩ : ∃ z, z = (T.setVm s.vm).setFrames (.invoking m args :: below) := ⟨_, rfl⟩
  rw [← hA] at Y
  have hvm : s'.vm = s.vm := by rw [hA]; rfl
  have hhp : s'.heap = H := by rw [hA]; exact hT
  have hW0 : s.WarmedH s'.vm := by rw [hvm]; exact State.WarmedH.refl s
  have hat' : ∀ w ∈ ev_atX own ic cls ix rx names, w.before args s' = true := fun w hw => vx_ot_at hW0 hvm.symm (hgood w (List.mem_cons_of_mem _ (List.mem_cons_of_mem _ hw))) (hat w hw)
  have hk' : (Cond.classLink own ik cls).before args s' = true := vx_ot_at hW0 hvm.symm (hgood _ List.mem_cons_self) hk
  have hini' : (Cond.initialized cls).before args s' = true := vx_ot_at hW0 hvm.symm (hgood _ (List.mem_cons_of_mem _ List.mem_cons_self)) hini
  have hU' : vx_Zq Bundle.tN "UNASSIGNED_STACK" Bundle.steD A s' s'.heap := by rw [hhp]; exact vx_Zq.moved hW0.alike (hU.kept hS.2.1)
  have hN' : vx_Zq Bundle.tN "SUPPRESSED_SENTINEL" Bundle.listD A s' s'.heap := by rw [hhp]; exact vx_Zq.moved hW0.alike (hN.kept hS.2.1)
  have h : ∀ w ∈ Bundle.ownAtomsX own ic cls ix rx names, w.before args s' = true := vx_own hat' (vx_isRefq hU'.1) (vx_isRefq hN'.1) hU'.2.word hN'.2.word
  have hown' : s'.vm.findClass own = some m.cls := by rw [hvm]; exact hown
  have hins : (Cond.instantiable cls 6).before args s' = true := h _ (by simp [Bundle.ownAtomsX])
  obtain ⟨vm₁, cX, kX, hfX, hkX, -, -, X₁, st1⟩ := Y.newCold hexec (own := own) (C := cls) (index := ik) (n := 6) hown' hk' hins hini'
    (g := F0 m pc ls rest) rfl (by rw [hb]; exact d0) (Nat.le_refl _) (Nat.le_refl _)
  generalize hT1 : (T.setVm vm₁).pushCell { cls := cX, slots := kX.instanceTypes.map defaultValue, vm := .none } = T1 at X₁ st1
  have hcat : (Value.ref T.heap.size).category = 1 := rfl
  have hcellA : T1.heap[T.heap.size]? = some (freshCell cX kX) := by rw [← hT1]; exact State.heap_pushCell_size _ _
  have d3' : decode c.code (pc + 3) = .ok (.dup, 1) := by rw [hb]; exact d3
  have d4' : decode c.code (pc + 4) = .ok (.ldc_w is, 3) := by rw [hb]; exact d4
  have hstr' : vk_R own is text sa s' := vk_R.warm hW0 hstr
  obtain ⟨U, hsteps, hrun, hend, hW, hsame, ce, hce, hO⟩ := ev_ctorX X₁ hexec htr (own := own) (cls := cls) (names := names) (ic := ic) x0 x1 x2 x5 hown' hcls hnames h (fun x hx => nomatch hx) hfX hkX hcellA (by rw [hhp, hT]; exact Nat.le_refl _) (msg := .ref sa) rfl
    (g := { method := m, pc := pc + 7, locals := ls, stack := .ref sa :: .ref T.heap.size :: .ref T.heap.size :: rest, locked := none }) rfl hsize rfl rfl (rest := rest) rfl
    (by rw [hb]; exact d7) (by rw [hb]; exact d10) hout hRframes (by simp only [List.map_cons, List.sum_cons, hcat]; omega) hlocks
  obtain ⟨f1, f2⟩ := vx_frame hsame
  rw [hhp] at f1 f2
  have hWs : s.WarmedH U.vm := State.WarmedH.trans hW0 hW
  have hcl : s.vm.findClass cls = some ce.cls := by
    have h9 := hO.1
    rw [hvm] at h9
    exact h9
  have hall : s.sameButNew ({ U with vm := s.vm } : State) locs mc ms := by
    subst hA
    obtain ⟨e1, e2⟩ := hsame
    rw [State.setFrames_setFrames] at e1
    have h2 : (T.setVm s.vm).sameButNew ({ U with vm := s.vm } : State) [] (0 + 1) (0 + 6) := ⟨e1, e2⟩
    have h3 := X.same.trans h2
    rw [List.append_nil] at h3
    exact h3.mono hc hs
  refine ⟨U, ?_, .threw T.heap.size, hrun, hend, Or.inr ⟨T.heap.size, rfl, cls, ce, locs, hx U hWs.alike f1 (fun q hq => f2 q hq (fun z hz => nomatch hz)), hce, hO.2, hcl, hWs, hall, hf⟩⟩
  refine st1 _ ?_
  show Steps p.tables e below (T1.setTop { method := m, pc := pc + 3, locals := ls, stack := .ref T.heap.size :: rest, locked := none }) _
  jvm_step X₁.here [X₁.here.top, hexec, d3', Value.category]
  exact X₁.ldcStringW hexec (own := own) (text := text) (index := is) (a := sa) hown' hstr'.1 hstr'.2
    (g := { method := m, pc := pc + 4, locals := ls, stack := .ref T.heap.size :: .ref T.heap.size :: rest, locked := none }) rfl d4' _ hsteps
end EVTHS
end
section
/-! SOUNDNESS of the evaluator: what it answers, the machine does. -/
/-- what stands outside: (class ids, slots), the heap's size and the heap at the start, the texts' addresses and their bytes', what a static holds, the array classes by kind -/
abbrev ev_G : Type := va_G × Nat × Heap × (Nat → Nat) × (Nat → Nat) × Value × (Nat → ClassId)
def ev_ad (g : ev_G) (a : Nat) : Nat := if a < 900000 then g.2.1 + a else if a % 2 = 0 then g.2.2.2.1 ((a - 900000) / 2) else g.2.2.2.2.1 ((a - 900000) / 2)
def ev_uv (g : ev_G) : Value → Value
  | .ref a => .ref (ev_ad g a)
  | .retAddr _ => g.2.2.2.2.2.1
  | v => v
def ev_tyl : List (Nat → FieldType) := [tyX1, tyX2, tyX3, tyX4, tyX5, tyX6, tyX7, tyX8, tyX9, tyX10, tyX11]
def ev_ft (ci j : Nat) : FieldType := (ev_nth ev_tyl ci).getD (fun _ => .int) j
def ev_isr (ci j : Nat) : Bool := match ev_ft ci j with
  | .int => false
  | .boolean => false
  | _ => true
def ev_cl (ci : Nat) : vw_C := (ev_nth vwCl ci).getD ("", fun _ => ("", "", "", false), 0)
def ev_fldv (g : ev_G) (σ : ev_S) (k ci j : Nat) : Value := bif ev_isr ci j then va_rf ((σ.2.2.2 k j).map (ev_ad g)) else .int (σ.2.1 k j)
def ev_E (g : ev_G) (σ : ev_S) (k : Nat) : va_E := match ev_lay k with
  | (0, ci) => .inr (ci, (List.range (ev_cl ci).2.2).map (ev_fldv g σ k ci))
  | (2, n) => .inl (g.2.2.2.2.2.2 2, n, .inr (.inl (σ.2.2.1 k)))
  | (5, n) => .inl (g.2.2.2.2.2.2 5, n, .inr (.inr (.inr (.inr (fun j => (σ.2.2.2 k j).map (ev_ad g))))))
  | (6, n) => .inl (g.2.2.2.2.2.2 6, n, .inr (.inr (.inr (.inr (fun j => (σ.2.2.2 k j).map (ev_ad g))))))
  | (t, n) => .inl (g.2.2.2.2.2.2 t, n, .inl (σ.2.1 k))
def ev_tys (g : ev_G) : List (ClassId × FieldType) := [(g.2.2.2.2.2.2 1, .int), (g.2.2.2.2.2.2 2, .long), (g.2.2.2.2.2.2 3, .char), (g.2.2.2.2.2.2 4, .boolean), (g.2.2.2.2.2.2 5, .object RX7), (g.2.2.2.2.2.2 6, .array .int)]
def ev_A (g : ev_G) : Nat → Prop := fun q => g.2.1 ≤ q
def ev_Rep (g : ev_G) (σ : ev_S) (H : Heap) : Prop := g.2.1 + σ.1.1 ≤ H.size ∧ (σ.1.2.1 = true → H.size = g.2.1 + σ.1.1) ∧ (∀ q : Nat, q < g.2.1 → H[q]? = g.2.2.1[q]?) ∧ σ.1.1 ≤ 900000 ∧ ∀ k : Nat, k < σ.1.1 → va_at g.1 vwCl (g.2.1 + k, ev_E g σ k) H
def ev_gw : List Cond := lw_tbl.filter goodWord
def ev_nest : List Cond := lw_tbl.filter (fun w => match w with
  | .methodLinkNest .. => true
  | .castable .. => true
  | .declares _ => true
  | _ => false)
def ev_cnl : List String := [RX0, RX1, RX2, RX3, RX4, RX5, RX6, RX7, RX8, RX9, RX10, RX11, RL, RJ0, RJ1, RJ3, RJ6, RJ9, RJ7]
def ev_cn (oc : Nat) : String := (ev_nth ev_cnl oc).getD ""
def ev_txl : List String := ["m-o*2-3", "mousndi", "no such word or question", "no such sign", "no such letter or question", "no such number", "abcdefghABCDEFGH", "<>=", "+-", "*/", "nxorq", "abcdefgh"]
def ev_tx (i : Nat) : String := (ev_nth ev_txl i).getD ""
/-- what the tables say in the state U, and the heap's old part -/
def ev_Cx (g : ev_G) (U : State) : Prop :=
  va_K g.1 vwCl (ev_tys g) U ∧ va_AO RX7 U ∧ (Cond.arrayOver (.array .int)).before #[] U = true ∧ (∀ w ∈ ev_nest, va_Nw w U) ∧
  (∀ oc idx i, ev_lk (ev_ks oc) idx = some i → vk_R (ev_cn oc) idx (ev_tx i) (g.2.2.2.1 i) U) ∧
  (∀ i, i < ev_strs.length → va_O "java/lang/String" (g.2.2.2.1 i) (ev_A g) U g.2.2.1 ∧ va_OF "java/lang/String" "coder" "B" (.int 0) (g.2.2.2.1 i) (ev_A g) U g.2.2.1 ∧ va_OF "java/lang/String" "value" "[B" (.ref (g.2.2.2.2.1 i)) (g.2.2.2.1 i) (ev_A g) U g.2.2.1 ∧ va_T .byte (g.2.2.2.2.1 i) ((ev_nth ev_strs i).getD []).length (fun j => .int (((ev_nth ev_strs i).getD []).getD j 0)) (ev_A g) U g.2.2.1) ∧
  va_Z "java/lang/String" "COMPACT_STRINGS" "Z" (.int 1) (ev_A g) U g.2.2.1 ∧ va_Z "jdk/internal/util/Preconditions" "SIOOBE_FORMATTER" "Ljava/util/function/BiFunction;" g.2.2.2.2.2.1 (ev_A g) U g.2.2.1 ∧
  vx_Zq Bundle.tN "UNASSIGNED_STACK" Bundle.steD (ev_A g) U g.2.2.1 ∧ vx_Zq Bundle.tN "SUPPRESSED_SENTINEL" Bundle.listD (ev_A g) U g.2.2.1 ∧ g.2.2.2.2.2.1.category = 1
theorem ev_Cx.warm {g : ev_G} {s U : State} (hW : s.WarmedH U.vm) (h : ev_Cx g s) : ev_Cx g U := by
  obtain ⟨h1, h2, h3, h4, h5, h6, h7, h8, h9, h10, h11⟩ := h
  refine ⟨va_K.moved hW.alike h1, va_AO.moved hW.alike h2, ?_, ?_, fun oc idx i hi => vk_R.warm hW (h5 oc idx i hi), fun i hi => ⟨va_O.moved hW.alike (h6 i hi).1, va_OF.moved hW.alike (h6 i hi).2.1, va_OF.moved hW.alike (h6 i hi).2.2.1, va_T.moved hW.alike (h6 i hi).2.2.2⟩, va_Z.moved hW.alike h7, va_Z.moved hW.alike h8, vx_Zq.moved hW.alike h9, vx_Zq.moved hW.alike h10, h11⟩
  · have h := (Cond.arrayOver_setVmC (args := #[]) hW.alike (.array .int)).trans h3
    exact h
  · intro w hw
    have hk := (List.mem_filter.mp hw).2
    have hz := h4 w hw
    cases w with
    | methodLinkNest a i x y => exact va_Nw.warmM hW hz
    | castable a b => exact va_Nw.warmC hW hz
    | declares x => exact va_Nw.warmD hW hz
    | _ => simp at hk
theorem ev_Cx.same {g : ev_G} {u U : State} (hv : U.vm = u.vm) (h : ev_Cx g u) : ev_Cx g U := ev_Cx.warm (s := u) (by rw [hv]; exact State.WarmedH.refl u) h
/-- the locals -/
def ev_lv (g : ev_G) (lc : Array Slot) (n : Nat) (ls : List Value) : Prop := lc.size = n ∧ ls.length = n ∧ lv_wf lc ∧ ∀ (i : Nat) (v : Value), ev_nth ls i = some v → v ≠ ev_U → lc[i]? = some (.val (ev_uv g v))
def ev_c (σ : ev_S) : Nat := σ.1.2.2.1
def ev_s (σ : ev_S) : Nat := σ.1.2.2.2
def ev_le (sd : Bool) (σ τ : ev_S) : Prop := ev_c σ ≤ ev_c τ ∧ ev_s σ ≤ ev_s τ ∧ (sd = true → τ.1.1 = σ.1.1 ∧ τ.2.2.2 = σ.2.2.2)
theorem ev_le.rf {sd : Bool} {σ : ev_S} : ev_le sd σ σ := ⟨Nat.le_refl _, Nat.le_refl _, fun _ => ⟨rfl, rfl⟩⟩
theorem ev_le.tr {sd : Bool} {σ τ ρ : ev_S} (h : ev_le sd σ τ) (k : ev_le sd τ ρ) : ev_le sd σ ρ := ⟨Nat.le_trans h.1 k.1, Nat.le_trans h.2.1 k.2.1, fun e => ⟨(k.2.2 e).1.trans (h.2.2 e).1, (k.2.2 e).2.trans (h.2.2 e).2⟩⟩
def ev_wsM (M : ev_Me) : List Cond := Cond.code M.1 M.2.1 M.2.2.1 M.2.2.2.1 :: ev_gw
def ev_rm (d : Nat) (σ τ : ev_S) : Room := { frames := d + 10, cells := ev_c τ - ev_c σ, slots := ev_s τ - ev_s σ, locals := 100 * d + 400 }
def ev_Pc (g : ev_G) (args : List Value) (σ : ev_S) : Array Value → State → Prop := fun a U => a = (args.map (ev_uv g)).toArray ∧ ev_Rep g σ U.heap ∧ ev_Cx g U
def ev_Qc (g : ev_G) (r : ev_R) : Array Value → State → Outcome → State → Prop := fun _ _ o t => (∃ v, r.1 = some v ∧ o = .returned (v.map (ev_uv g))) ∧ ev_Rep g r.2 t.heap
def ev_XC (g : ev_G) (r : ev_R) : String → State → State → Prop := fun E _ t => r.1 = none ∧ E = "java/util/NoSuchElementException" ∧ ev_Rep g r.2 t.heap
def ev_Met (l : Launch) (g : ev_G) (d : Nat) (M : ev_Me) (args : List Value) (σ : ev_S) (r : ev_R) : Prop := vx_Met l M.1 (ev_wsM M) (ev_rm d σ r.2) (ev_Pc g args σ) (ev_Qc g r) (ev_XC g r) (ev_c r.2 - ev_c σ) (ev_s r.2 - ev_s σ) (ev_A g)
/-- what holds at a method's entry -/
def ev_At (p : Program) (g : ev_G) (M : ev_Me) (s : State) (m : MethodId) (args : Array Value) (meth : Method) (c : Code) : Prop :=
  p.tables.exec = Jvm.exec ∧ c.code = M.2.1 ∧ c.maxLocals = M.2.2.1 ∧ meth.sig.returnType = M.2.2.2.1 ∧ meth.locks = false ∧ s.vm.findClass (ev_cn M.2.2.2.2.1) = some m.cls ∧ meth.name = M.1.name ∧ (∀ x ∈ c.exceptionTable.toList, ∀ q, covers x q = false) ∧ (∀ w ∈ ev_gw, w.before args s = true) ∧ ev_Cx g s ∧ (∀ q : Nat, q < g.2.1 → s.heap[q]? = g.2.2.1[q]?) ∧ g.2.1 ≤ s.heap.size
section EVW
variable {p : Program} {l : Launch} {e : Env} {R : Room} {s : State} {m : MethodId} {args : Array Value} {below : List Frame} {meth : Method} {c : Code} {g : ev_G} {sd : Bool} {d : Nat} {M : ev_Me} {σ0 : ev_S} {r : ev_R}
/-- from here the method comes to its end r -/
def ev_P (p : Program) (l : Launch) (e : Env) (s : State) (m : MethodId) (args : Array Value) (below : List Frame) (meth : Method) (c : Code) (g : ev_G) (sd : Bool) (d : Nat) (M : ev_Me) (σ0 : ev_S) (r : ev_R) (pc : Nat) (ls st : List Value) (σ : ev_S) : Prop :=
  ev_le sd σ0 σ → ev_le sd σ r.2 ∧ ∀ (H : Heap) (lc : Array Slot) (locs : List Loc), ev_Rep g σ H → ev_lv g lc M.2.2.1 ls → va_S (ev_A g) s.heap H locs →
    W p l e (ev_rm d σ0 r.2) s m args below meth c H locs (ev_c σ - ev_c σ0) (ev_s σ - ev_s σ0) (vx_MQ below (ev_Qc g r) (ev_XC g r) args s (ev_c r.2 - ev_c σ0) (ev_s r.2 - ev_s σ0) (ev_A g)) (F0 m pc lc (st.map (ev_uv g)))
/-- a step that leaves heap and locals -/
theorem ev_P.step {pc pc' : Nat} {ls st st' : List Value} {σ : ev_S}
    (hw : ∀ (H : Heap) (lc : Array Slot) (locs : List Loc) (cells slots : Nat) (Q : State → Prop), ev_Rep g σ H → ev_lv g lc M.2.2.1 ls → va_S (ev_A g) s.heap H locs → W p l e (ev_rm d σ0 r.2) s m args below meth c H locs cells slots Q (F0 m pc' lc (st'.map (ev_uv g))) → W p l e (ev_rm d σ0 r.2) s m args below meth c H locs cells slots Q (F0 m pc lc (st.map (ev_uv g))))
    (h : ev_P p l e s m args below meth c g sd d M σ0 r pc' ls st' σ) : ev_P p l e s m args below meth c g sd d M σ0 r pc ls st σ := by
  intro h0
  obtain ⟨h1, h2⟩ := h h0
  exact ⟨h1, fun H lc locs hR hl hS => hw H lc locs _ _ _ hR hl hS (h2 H lc locs hR hl hS)⟩
/-- a step that stores a local -/
theorem ev_P.stl {pc pc' : Nat} {ls ls' st st' : List Value} {σ : ev_S}
    (hw : ∀ (H : Heap) (lc : Array Slot) (locs : List Loc) (cells slots : Nat) (Q : State → Prop), ev_Rep g σ H → ev_lv g lc M.2.2.1 ls → va_S (ev_A g) s.heap H locs → (∀ lc', ev_lv g lc' M.2.2.1 ls' → W p l e (ev_rm d σ0 r.2) s m args below meth c H locs cells slots Q (F0 m pc' lc' (st'.map (ev_uv g)))) → W p l e (ev_rm d σ0 r.2) s m args below meth c H locs cells slots Q (F0 m pc lc (st.map (ev_uv g))))
    (h : ev_P p l e s m args below meth c g sd d M σ0 r pc' ls' st' σ) : ev_P p l e s m args below meth c g sd d M σ0 r pc ls st σ := by
  intro h0
  obtain ⟨h1, h2⟩ := h h0
  exact ⟨h1, fun H lc locs hR hl hS => hw H lc locs _ _ _ hR hl hS (fun lc' hl' => h2 H lc' locs hR hl' hS)⟩
theorem ev_i8 {n : Int} (h1 : -128 ≤ n) (h2 : n < 128) : (Int8.ofInt n).toInt32 = Int32.ofInt n := by
  apply Int32.toInt_inj.mp
  rw [Int8.toInt_toInt32, Int8.toInt_ofInt, Int32.toInt_ofInt]
  have e1 : n.bmod (2 ^ 8) = n := by rw [Int.bmod_eq_of_le] <;> omega
  have e2 : n.bmod (2 ^ 32) = n := by rw [Int.bmod_eq_of_le] <;> omega
  rw [e1, e2]
theorem ev_i16 {n : Int} (h1 : -32768 ≤ n) (h2 : n < 32768) : (Int16.ofInt n).toInt32 = Int32.ofInt n := by
  apply Int32.toInt_inj.mp
  rw [Int16.toInt_toInt32, Int16.toInt_ofInt, Int32.toInt_ofInt]
  have e1 : n.bmod (2 ^ 16) = n := by rw [Int.bmod_eq_of_le] <;> omega
  have e2 : n.bmod (2 ^ 32) = n := by rw [Int.bmod_eq_of_le] <;> omega
  rw [e1, e2]
theorem ev_con_ok (hA : ev_At p g M s m args meth c) {i : Instr} {pc n : Nat} {ls st : List Value} {σ : ev_S} {v : Value} (hdg : decode M.2.1 pc = .ok (i, ev_len pc i)) (hc : ev_con i = some (v, n)) (h : ev_P p l e s m args below meth c g sd d M σ0 r (pc + n) ls (v :: st) σ) : ev_P p l e s m args below meth c g sd d M σ0 r pc ls st σ := by
  obtain ⟨hx, hb, -⟩ := hA
  refine ev_P.step (fun H lc locs cells slots Q hR hl hS hW => ?_) h
  unfold ev_con at hc
  split at hc
  · cases hc
    exact lv_iconst hx hb hdg rfl hW
  · rename_i n
    cases hb1 : decide (-128 ≤ n) && decide (n < 128) with
    | false => rw [hb1] at hc; cases hc
    | true =>
      rw [hb1] at hc
      cases hc
      simp only [Bool.and_eq_true, decide_eq_true_eq] at hb1
      exact lv_bipush hx hb hdg (ev_i8 hb1.1 hb1.2) hW
  · rename_i n
    cases hb1 : decide (-32768 ≤ n) && decide (n < 32768) with
    | false => rw [hb1] at hc; cases hc
    | true =>
      rw [hb1] at hc
      cases hc
      simp only [Bool.and_eq_true, decide_eq_true_eq] at hb1
      exact lv_sipush hx hb hdg (ev_i16 hb1.1 hb1.2) hW
  · cases hc
    exact lv_lconst hx hb hdg rfl hW
  · cases hc
theorem ev_is0 {v : Value} (h : ev_is v 0 = true) : ∃ x, v = .int x := by cases v <;> simp_all [ev_is]
theorem ev_is1 {v : Value} (h : ev_is v 1 = true) : ∃ x, v = .long x := by cases v <;> simp_all [ev_is]
theorem ev_is2 {v : Value} (h : ev_is v 2 = true) : ∃ x, v = .ref x := by cases v <;> simp_all [ev_is]
theorem ev_loa_ok (hA : ev_At p g M s m args meth c) {i : Instr} {pc t k n : Nat} {ls st : List Value} {σ : ev_S} {v : Value} (hdg : decode M.2.1 pc = .ok (i, ev_len pc i)) (hc : ev_loa i = some (t, k, n)) (hn : ev_nth ls k = some v) (hi : ev_is v t = true) (h : ev_P p l e s m args below meth c g sd d M σ0 r (pc + n) ls (v :: st) σ) : ev_P p l e s m args below meth c g sd d M σ0 r pc ls st σ := by
  obtain ⟨hx, hb, -⟩ := hA
  refine ev_P.step (fun H lc locs cells slots Q hR hl hS hW => ?_) h
  have hl2 := hl.2.2.2 k v hn
  unfold ev_loa at hc
  split at hc
  · cases hc
    obtain ⟨x, rfl⟩ := ev_is0 hi
    exact lv_iload_n hx hb hdg rfl (hl2 (fun z => by cases z)) hW
  · cases hc
    obtain ⟨x, rfl⟩ := ev_is0 hi
    exact lv_iload hx hb hdg (hl2 (fun z => by cases z)) hW
  · cases hc
    obtain ⟨x, rfl⟩ := ev_is1 hi
    exact lv_lload_n hx hb hdg rfl (hl2 (fun z => by cases z)) hW
  · cases hc
    obtain ⟨x, rfl⟩ := ev_is1 hi
    exact lv_lload hx hb hdg (hl2 (fun z => by cases z)) hW
  · cases hc
    obtain ⟨x, rfl⟩ := ev_is2 hi
    exact lv_aload_n hx hb hdg rfl (hl2 (fun z => by cases z)) hW
  · cases hc
    obtain ⟨x, rfl⟩ := ev_is2 hi
    exact lv_aload hx hb hdg (hl2 (fun z => by cases z)) hW
  · cases hc
/-- the locals that are known, as the kit lists them -/
def ev_al (g : ev_G) (ls : List Value) : List (Nat × Value) := (List.range ls.length).filterMap (fun i => (ev_nth ls i).bind (fun w => if w = ev_U then none else some (i, ev_uv g w)))
theorem ev_nth_lt {α : Type} : ∀ {l : List α} {i : Nat} {v : α}, ev_nth l i = some v → i < l.length
  | [], _, _, h => by simp [ev_nth] at h
  | _ :: _, 0, _, _ => by simp
  | _ :: t, i + 1, v, h => by
    have := ev_nth_lt (l := t) (i := i) (v := v) h
    simp; omega
theorem ev_al_in {g : ev_G} {ls : List Value} {i : Nat} {w : Value} (h : ev_nth ls i = some w) (hw : w ≠ ev_U) : (i, ev_uv g w) ∈ ev_al g ls := List.mem_filterMap.mpr ⟨i, List.mem_range.mpr (ev_nth_lt h), by simp [h, hw]⟩
theorem ev_al_of {g : ev_G} {ls : List Value} {q : Nat × Value} (h : q ∈ ev_al g ls) : ∃ w, ev_nth ls q.1 = some w ∧ w ≠ ev_U ∧ q.2 = ev_uv g w := by
  obtain ⟨i, -, hi⟩ := List.mem_filterMap.mp h
  cases hn : ev_nth ls i with
  | none => simp [hn] at hi
  | some w =>
    by_cases hu : w = ev_U
    · simp [hn, hu] at hi
    · simp [hn, hu] at hi
      subst hi
      exact ⟨w, hn, hu, rfl⟩
theorem ev_lv.has {g : ev_G} {lc : Array Slot} {n : Nat} {ls : List Value} (h : ev_lv g lc n ls) : lv_has lc n (ev_al g ls) := ⟨h.1, h.2.2.1, fun q hq => by
  obtain ⟨w, h1, h2, h3⟩ := ev_al_of hq
  rw [h3]
  exact h.2.2.2 q.1 w h1 h2⟩
theorem ev_uv_cat {g : ev_G} (hf : g.2.2.2.2.2.1.category = 1) (v : Value) : (ev_uv g v).category = v.category := by cases v <;> first | rfl | exact hf
theorem ev_sk1_spec : ∀ (ls : List Value) (k : Nat) (v : Value) (f : List Value → Option ev_R) (r : ev_R), ev_sk1 ls k v f = some r → ∃ ls', f ls' = some r ∧ k < ls.length ∧ ls'.length = ls.length ∧ ∀ i w, ev_nth ls' i = some w → w ≠ ev_U → (i = k ∧ w = v) ∨ (i ≠ k ∧ ev_nth ls i = some w ∧ ¬ (i + 1 = k ∧ w.category = 2))
  | [], _, _, _, _, h => by simp [ev_sk1] at h
  | a :: t, 0, v, f, r, h => ⟨v :: t, h, by simp, by simp, fun i w hi hw => by
    cases i with
    | zero => simp [ev_nth] at hi; exact Or.inl ⟨rfl, hi.symm⟩
    | succ i => exact Or.inr ⟨by omega, hi, by omega⟩⟩
  | a :: t, 1, v, f, r, h => by
    obtain ⟨t', h1, h2, h3, h4⟩ := ev_sk1_spec t 0 v _ r h
    cases hc : Nat.beq a.category 2 with
    | true =>
      rw [hc] at h1
      refine ⟨ev_U :: t', h1, by simp; omega, by simp [h3], fun i w hi hw => ?_⟩
      cases i with
      | zero => simp [ev_nth] at hi; exact absurd hi.symm hw
      | succ i =>
        rcases h4 i w hi hw with ⟨e1, e2⟩ | ⟨e1, e2, e3⟩
        · exact Or.inl ⟨by omega, e2⟩
        · exact Or.inr ⟨by omega, e2, by omega⟩
    | false =>
      rw [hc] at h1
      refine ⟨a :: t', h1, by simp; omega, by simp [h3], fun i w hi hw => ?_⟩
      cases i with
      | zero =>
        simp [ev_nth] at hi
        subst hi
        refine Or.inr ⟨by omega, rfl, fun z => ?_⟩
        rw [z.2] at hc
        cases hc
      | succ i =>
        rcases h4 i w hi hw with ⟨e1, e2⟩ | ⟨e1, e2, e3⟩
        · exact Or.inl ⟨by omega, e2⟩
        · exact Or.inr ⟨by omega, e2, by omega⟩
  | a :: t, n + 2, v, f, r, h => by
    obtain ⟨t', h1, h2, h3, h4⟩ := ev_sk1_spec t (n + 1) v _ r h
    refine ⟨a :: t', h1, by simp; omega, by simp [h3], fun i w hi hw => ?_⟩
    cases i with
    | zero => exact Or.inr ⟨by omega, hi, by omega⟩
    | succ i =>
      rcases h4 i w hi hw with ⟨e1, e2⟩ | ⟨e1, e2, e3⟩
      · exact Or.inl ⟨by omega, e2⟩
      · exact Or.inr ⟨by omega, e2, by omega⟩
theorem ev_sk2_spec : ∀ (ls : List Value) (k : Nat) (v : Value) (f : List Value → Option ev_R) (r : ev_R), ev_sk2 ls k v f = some r → ∃ ls', f ls' = some r ∧ k + 1 < ls.length ∧ ls'.length = ls.length ∧ ∀ i w, ev_nth ls' i = some w → w ≠ ev_U → (i = k ∧ w = v) ∨ (i ≠ k ∧ i ≠ k + 1 ∧ ev_nth ls i = some w ∧ ¬ (i + 1 = k ∧ w.category = 2))
  | [], _, _, _, _, h => by simp [ev_sk2] at h
  | [a], 0, _, _, _, h => by simp [ev_sk2] at h
  | a :: b :: t, 0, v, f, r, h => ⟨v :: ev_U :: t, h, by simp, by simp, fun i w hi hw => by
    match i, hi with
    | 0, hi => simp [ev_nth] at hi; exact Or.inl ⟨rfl, hi.symm⟩
    | 1, hi => simp [ev_nth] at hi; exact absurd hi.symm hw
    | i + 2, hi => exact Or.inr ⟨by omega, by omega, hi, by omega⟩⟩
  | a :: t, 1, v, f, r, h => by
    simp only [ev_sk2] at h
    obtain ⟨t', h1, h2, h3, h4⟩ := ev_sk2_spec t 0 v _ r h
    cases hc : Nat.beq a.category 2 with
    | true =>
      rw [hc] at h1
      refine ⟨ev_U :: t', h1, by simp; omega, by simp [h3], fun i w hi hw => ?_⟩
      cases i with
      | zero => simp [ev_nth] at hi; exact absurd hi.symm hw
      | succ i =>
        rcases h4 i w hi hw with ⟨e1, e2⟩ | ⟨e1, e2, e3, e4⟩
        · exact Or.inl ⟨by omega, e2⟩
        · exact Or.inr ⟨by omega, by omega, e3, by omega⟩
    | false =>
      rw [hc] at h1
      refine ⟨a :: t', h1, by simp; omega, by simp [h3], fun i w hi hw => ?_⟩
      cases i with
      | zero =>
        simp [ev_nth] at hi
        subst hi
        refine Or.inr ⟨by omega, by omega, rfl, fun z => ?_⟩
        rw [z.2] at hc
        cases hc
      | succ i =>
        rcases h4 i w hi hw with ⟨e1, e2⟩ | ⟨e1, e2, e3, e4⟩
        · exact Or.inl ⟨by omega, e2⟩
        · exact Or.inr ⟨by omega, by omega, e3, by omega⟩
  | a :: t, n + 2, v, f, r, h => by
    simp only [ev_sk2] at h
    obtain ⟨t', h1, h2, h3, h4⟩ := ev_sk2_spec t (n + 1) v _ r h
    refine ⟨a :: t', h1, by simp; omega, by simp [h3], fun i w hi hw => ?_⟩
    cases i with
    | zero => exact Or.inr ⟨by omega, by omega, hi, by omega⟩
    | succ i =>
      rcases h4 i w hi hw with ⟨e1, e2⟩ | ⟨e1, e2, e3, e4⟩
      · exact Or.inl ⟨by omega, e2⟩
      · exact Or.inr ⟨by omega, by omega, e3, by omega⟩
theorem ev_lv.of1 {g : ev_G} (hf : g.2.2.2.2.2.1.category = 1) {lc lc' : Array Slot} {n k : Nat} {ls ls' : List Value} {v : Value} (h : ev_lv g lc n ls) (hlen : ls'.length = ls.length) (hs : ∀ i w, ev_nth ls' i = some w → w ≠ ev_U → (i = k ∧ w = v) ∨ (i ≠ k ∧ ev_nth ls i = some w ∧ ¬ (i + 1 = k ∧ w.category = 2)))
    (h' : lv_has lc' n ((k, ev_uv g v) :: (ev_al g ls).filter (fun q => !(q.1 == k) && !(q.1 + 1 == k && q.2.category == 2)))) : ev_lv g lc' n ls' := by
  refine ⟨h'.1, hlen.trans h.2.1, h'.2.1, fun i w hi hw => ?_⟩
  rcases hs i w hi hw with ⟨e1, e2⟩ | ⟨e1, e2, e3⟩
  · subst e1; subst e2
    exact h'.2.2 _ List.mem_cons_self
  · refine h'.2.2 (i, ev_uv g w) (List.mem_cons_of_mem _ (List.mem_filter.mpr ⟨ev_al_in e2 hw, ?_⟩))
    rw [ev_uv_cat hf]
    simp only [Bool.and_eq_true, Bool.not_eq_true', beq_eq_false_iff_ne, ne_eq, Bool.and_eq_false_imp, beq_iff_eq]
    exact ⟨e1, fun z1 z2 => e3 ⟨z1, z2⟩⟩
theorem ev_lv.of2 {g : ev_G} (hf : g.2.2.2.2.2.1.category = 1) {lc lc' : Array Slot} {n k : Nat} {ls ls' : List Value} {v : Value} (h : ev_lv g lc n ls) (hlen : ls'.length = ls.length) (hs : ∀ i w, ev_nth ls' i = some w → w ≠ ev_U → (i = k ∧ w = v) ∨ (i ≠ k ∧ i ≠ k + 1 ∧ ev_nth ls i = some w ∧ ¬ (i + 1 = k ∧ w.category = 2)))
    (h' : lv_has lc' n ((k, ev_uv g v) :: (ev_al g ls).filter (fun q => !(q.1 == k) && (!(q.1 == k + 1) && !(q.1 + 1 == k && q.2.category == 2))))) : ev_lv g lc' n ls' := by
  refine ⟨h'.1, hlen.trans h.2.1, h'.2.1, fun i w hi hw => ?_⟩
  rcases hs i w hi hw with ⟨e1, e2⟩ | ⟨e1, e2, e3, e4⟩
  · subst e1; subst e2
    exact h'.2.2 _ List.mem_cons_self
  · refine h'.2.2 (i, ev_uv g w) (List.mem_cons_of_mem _ (List.mem_filter.mpr ⟨ev_al_in e3 hw, ?_⟩))
    rw [ev_uv_cat hf]
    simp only [Bool.and_eq_true, Bool.not_eq_true', beq_eq_false_iff_ne, ne_eq, Bool.and_eq_false_imp, beq_iff_eq]
    exact ⟨e1, e2, fun z1 z2 => e4 ⟨z1, z2⟩⟩
theorem ev_sto_ok (hA : ev_At p g M s m args meth c) {i : Instr} {pc t k n : Nat} {ls st : List Value} {σ : ev_S} {v : Value} (hdg : decode M.2.1 pc = .ok (i, ev_len pc i)) (hc : ev_sto i = some (t, k, n)) (hi : ev_is v t = true) {K : ev_K} (hK : ∀ pc' ls' st' σ', K pc' ls' st' σ' = some r → ev_P p l e s m args below meth c g sd d M σ0 r pc' ls' st' σ')
    (h : (bif Nat.beq t 1 then ev_sk2 ls k v (fun ls' => K (pc + n) ls' st σ) else ev_sk1 ls k v (fun ls' => K (pc + n) ls' st σ)) = some r) : ev_P p l e s m args below meth c g sd d M σ0 r pc ls (v :: st) σ := by
  obtain ⟨hx, hb, -, -, -, -, -, -, -, hCx, -⟩ := hA
  have hf := hCx.2.2.2.2.2.2.2.2.2.2
  unfold ev_sto at hc
  split at hc
  · cases hc
    obtain ⟨x, rfl⟩ := ev_is0 hi
    obtain ⟨ls', h1, h2, h3, h4⟩ := ev_sk1_spec _ _ _ _ _ h
    refine ev_P.stl (fun H lc locs cells slots Q hR hl hS hW => ?_) (hK _ _ _ _ h1)
    exact lv_istore_n hx hb hdg rfl hl.has (by rw [← hl.2.1]; exact h2) rfl (fun lc' h' => hW lc' (hl.of1 hf h3 h4 h'))
  · cases hc
    obtain ⟨x, rfl⟩ := ev_is0 hi
    obtain ⟨ls', h1, h2, h3, h4⟩ := ev_sk1_spec _ _ _ _ _ h
    refine ev_P.stl (fun H lc locs cells slots Q hR hl hS hW => ?_) (hK _ _ _ _ h1)
    exact lv_istore hx hb hdg hl.has (by rw [← hl.2.1]; exact h2) rfl (fun lc' h' => hW lc' (hl.of1 hf h3 h4 h'))
  · cases hc
    obtain ⟨x, rfl⟩ := ev_is1 hi
    obtain ⟨ls', h1, h2, h3, h4⟩ := ev_sk2_spec _ _ _ _ _ h
    refine ev_P.stl (fun H lc locs cells slots Q hR hl hS hW => ?_) (hK _ _ _ _ h1)
    exact lv_lstore_n hx hb hdg rfl hl.has (by rw [← hl.2.1]; exact h2) rfl (fun lc' h' => hW lc' (hl.of2 hf h3 h4 h'))
  · cases hc
    obtain ⟨x, rfl⟩ := ev_is1 hi
    obtain ⟨ls', h1, h2, h3, h4⟩ := ev_sk2_spec _ _ _ _ _ h
    refine ev_P.stl (fun H lc locs cells slots Q hR hl hS hW => ?_) (hK _ _ _ _ h1)
    exact lv_lstore hx hb hdg hl.has (by rw [← hl.2.1]; exact h2) rfl (fun lc' h' => hW lc' (hl.of2 hf h3 h4 h'))
  · cases hc
    obtain ⟨x, rfl⟩ := ev_is2 hi
    obtain ⟨ls', h1, h2, h3, h4⟩ := ev_sk1_spec _ _ _ _ _ h
    refine ev_P.stl (fun H lc locs cells slots Q hR hl hS hW => ?_) (hK _ _ _ _ h1)
    exact lv_astore_n hx hb hdg rfl hl.has (by rw [← hl.2.1]; exact h2) rfl (fun lc' h' => hW lc' (hl.of1 hf h3 h4 h'))
  · cases hc
    obtain ⟨x, rfl⟩ := ev_is2 hi
    obtain ⟨ls', h1, h2, h3, h4⟩ := ev_sk1_spec _ _ _ _ _ h
    refine ev_P.stl (fun H lc locs cells slots Q hR hl hS hW => ?_) (hK _ _ _ _ h1)
    exact lv_astore hx hb hdg hl.has (by rw [← hl.2.1]; exact h2) rfl (fun lc' h' => hW lc' (hl.of1 hf h3 h4 h'))
  · cases hc
theorem ev_i2_ok (hA : ev_At p g M s m args meth c) {i : Instr} {pc : Nat} {ls st : List Value} {σ : ev_S} {f : Int32 → Int32 → Int32} {x y : Int32} (hdg : decode M.2.1 pc = .ok (i, ev_len pc i)) (hc : ev_i2 i = some f) (h : ev_P p l e s m args below meth c g sd d M σ0 r (pc + 1) ls (.int (f x y) :: st) σ) : ev_P p l e s m args below meth c g sd d M σ0 r pc ls (.int y :: .int x :: st) σ := by
  obtain ⟨hx, hb, -⟩ := hA
  refine ev_P.step (fun H lc locs cells slots Q hR hl hS hW => ?_) h
  unfold ev_i2 at hc
  split at hc <;> cases hc
  · exact lv_iadd hx hb hdg hW
  · exact lv_isub hx hb hdg hW
  · exact lv_imul hx hb hdg hW
  · exact lv_iand hx hb hdg hW
  · exact lv_ior hx hb hdg hW
  · exact lv_ixor hx hb hdg hW
  · exact lv_ishl hx hb hdg hW
  · exact lv_ishr hx hb hdg hW
  · exact lv_iushr hx hb hdg rfl hW
theorem ev_i1_ok (hA : ev_At p g M s m args meth c) {i : Instr} {pc : Nat} {ls st : List Value} {σ : ev_S} {f : Int32 → Int32} {x : Int32} (hdg : decode M.2.1 pc = .ok (i, ev_len pc i)) (hc : ev_i1 i = some f) (h : ev_P p l e s m args below meth c g sd d M σ0 r (pc + 1) ls (.int (f x) :: st) σ) : ev_P p l e s m args below meth c g sd d M σ0 r pc ls (.int x :: st) σ := by
  obtain ⟨hx, hb, -⟩ := hA
  refine ev_P.step (fun H lc locs cells slots Q hR hl hS hW => ?_) h
  unfold ev_i1 at hc
  split at hc <;> cases hc
  · exact lv_ineg hx hb hdg hW
  · exact lv_i2b hx hb hdg rfl hW
  · exact lv_i2s hx hb hdg rfl hW
  · exact lv_i2c hx hb hdg rfl hW
theorem ev_l2_ok (hA : ev_At p g M s m args meth c) {i : Instr} {pc : Nat} {ls st : List Value} {σ : ev_S} {f : Int64 → Int64 → Int64} {x y : Int64} (hdg : decode M.2.1 pc = .ok (i, ev_len pc i)) (hc : ev_l2 i = some f) (h : ev_P p l e s m args below meth c g sd d M σ0 r (pc + 1) ls (.long (f x y) :: st) σ) : ev_P p l e s m args below meth c g sd d M σ0 r pc ls (.long y :: .long x :: st) σ := by
  obtain ⟨hx, hb, -⟩ := hA
  refine ev_P.step (fun H lc locs cells slots Q hR hl hS hW => ?_) h
  unfold ev_l2 at hc
  split at hc <;> cases hc
  · exact lv_ladd hx hb hdg hW
  · exact lv_lsub hx hb hdg hW
  · exact lv_lmul hx hb hdg hW
  · exact lv_land hx hb hdg hW
  · exact lv_lor hx hb hdg hW
theorem ev_l3_ok (hA : ev_At p g M s m args meth c) {i : Instr} {pc : Nat} {ls st : List Value} {σ : ev_S} {f : Int64 → Int32 → Int64} {x : Int64} {y : Int32} (hdg : decode M.2.1 pc = .ok (i, ev_len pc i)) (hc : ev_l3 i = some f) (h : ev_P p l e s m args below meth c g sd d M σ0 r (pc + 1) ls (.long (f x y) :: st) σ) : ev_P p l e s m args below meth c g sd d M σ0 r pc ls (.int y :: .long x :: st) σ := by
  obtain ⟨hx, hb, -⟩ := hA
  refine ev_P.step (fun H lc locs cells slots Q hR hl hS hW => ?_) h
  unfold ev_l3 at hc
  split at hc <;> cases hc
  · exact lv_lshl hx hb hdg rfl hW
  · exact lv_lshr hx hb hdg rfl hW
end EVW
end
section
section EVX
variable {p : Program} {l : Launch} {e : Env} {R : Room} {s : State} {m : MethodId} {args : Array Value} {below : List Frame} {meth : Method} {c : Code} {g : ev_G} {sd : Bool} {d : Nat} {M : ev_Me} {σ0 : ev_S} {r : ev_R}
theorem ev_go_ok {pc : Nat} {off : Int} (h : 0 ≤ (pc : Int) + off) : (pc : Int) + off = ((ev_go pc off : Nat) : Int) := by
  unfold ev_go
  omega
/-- an end: the method returns v -/
theorem ev_ret_P {pc : Nat} {ls st : List Value} {σ : ev_S} {v : Option Value}
    (hw : ∀ (H : Heap) (lc : Array Slot) (locs : List Loc) (cells slots : Nat), ev_Rep g σ H → (∀ q ∈ locs, ev_A g q.base) → W p l e (ev_rm d σ0 σ) s m args below meth c H locs cells slots (MQ below (ev_Qc g (some v, σ)) args s cells slots (ev_A g)) (F0 m pc lc (st.map (ev_uv g)))) : ev_P p l e s m args below meth c g sd d M σ0 (some v, σ) pc ls st σ := by
  intro h0
  exact ⟨ev_le.rf, fun H lc locs hR hl hS => vx_ret (hw H lc locs _ _ hR hS.2.2)⟩
theorem ev_tsw_spec {dflt lo hi : Int} {offs : Array Int} {pc : Nat} {x : Int32} {K : Nat → Option ev_R} : ∀ {n : Nat}, ev_tsw dflt lo hi offs pc x K n = some r → (K (ev_go pc dflt) = some r ∧ ∀ j : Nat, j < n → x ≠ Int32.ofInt (hi - j)) ∨ ∃ j : Nat, j < n ∧ x = Int32.ofInt (hi - j) ∧ K (ev_go pc (offs.getD ((hi - j) - lo).toNat 0)) = some r
  | 0, h => Or.inl ⟨h, fun j hj => absurd hj (Nat.not_lt_zero j)⟩
  | n + 1, h => by
    unfold ev_tsw at h
    by_cases hx : x = Int32.ofInt (hi - n)
    · rw [if_pos hx] at h
      exact Or.inr ⟨n, Nat.lt_succ_self n, hx, h⟩
    · rw [if_neg hx] at h
      rcases ev_tsw_spec h with ⟨h1, h2⟩ | ⟨j, h1, h2⟩
      · refine Or.inl ⟨h1, fun j hj => ?_⟩
        rcases Nat.lt_succ_iff_lt_or_eq.mp hj with q | q
        · exact h2 j q
        · rw [q]; exact hx
      · exact Or.inr ⟨j, by omega, h2⟩
theorem ev_lsw_spec {dflt : Int} {pc : Nat} {x : Int32} {K : Nat → Option ev_R} : ∀ {ps : List (Int × Int)}, (∀ a ∈ ps, -1000 < a.1 ∧ a.1 < 1000) → ev_lsw dflt pc x K ps = some r → K (ev_go pc (Op.lookupswitch.offset ps dflt x.toInt)) = some r ∧ (Op.lookupswitch.offset ps dflt x.toInt = dflt ∨ ∃ q ∈ ps, Op.lookupswitch.offset ps dflt x.toInt = q.2)
  | [], _, h => ⟨h, Or.inl rfl⟩
  | (a, o) :: t, hb, h => by
    unfold ev_lsw at h
    have ha := hb (a, o) List.mem_cons_self
    have he : (Int32.ofInt a).toInt = a := fb_ofI (by have := ha.1; simp at this; omega) (by have := ha.2; simp at this; omega)
    by_cases hx : x = Int32.ofInt a
    · rw [if_pos hx] at h
      have e1 : Op.lookupswitch.offset ((a, o) :: t) dflt x.toInt = o := by
        rw [Op.lookupswitch.offset_cons, if_pos]
        rw [hx, he]
      rw [e1]
      exact ⟨h, Or.inr ⟨(a, o), List.mem_cons_self, rfl⟩⟩
    · rw [if_neg hx] at h
      obtain ⟨h1, h2⟩ := ev_lsw_spec (fun b hb' => hb b (List.mem_cons_of_mem _ hb')) h
      rw [lv_osw hx he]
      exact ⟨h1, h2.elim Or.inl (fun ⟨q, hq, e⟩ => Or.inr ⟨q, List.mem_cons_of_mem _ hq, e⟩)⟩
set_option maxHeartbeats 4000000 in
theorem ev_pl_ok (hA : ev_At p g M s m args meth c) {i : Instr} {pc : Nat} {ls st : List Value} {σ : ev_S} (hdg : decode M.2.1 pc = .ok (i, ev_len pc i)) (hj : ev_jok pc i = true) {K : ev_K} (hK : ∀ pc' ls' st' σ', K pc' ls' st' σ' = some r → ev_P p l e s m args below meth c g sd d M σ0 r pc' ls' st' σ')
    (h : ev_pl M K i pc ls st σ = some r) : ev_P p l e s m args below meth c g sd d M σ0 r pc ls st σ := by
  obtain ⟨hx, hb, hml, hr, hlocks, -, -, -, -, hCx, -⟩ := hA
  have hf := hCx.2.2.2.2.2.2.2.2.2.2
  unfold ev_pl at h
  split at h
  · -- dup
    split at h
    rotate_left
    · cases h
    rename_i v rest
    cases hc : Nat.beq v.category 1 with
    | false => rw [hc] at h; cases h
    | true =>
      rw [hc] at h
      refine ev_P.step (fun H lc locs cells slots Q hR hl hS hW => ?_) (hK _ _ _ _ h)
      exact lv_dup hx hb hdg (by rw [ev_uv_cat hf]; exact Nat.eq_of_beq_eq_true hc) hW
  · split at h
    rotate_left
    · cases h
    rename_i v w rest
    cases hc : Nat.beq v.category 1 && Nat.beq w.category 1 with
    | false => rw [hc] at h; cases h
    | true =>
      rw [hc] at h
      simp only [Bool.and_eq_true] at hc
      refine ev_P.step (fun H lc locs cells slots Q hR hl hS hW => ?_) (hK _ _ _ _ h)
      exact lv_dup2_11 hx hb hdg (by rw [ev_uv_cat hf]; exact Nat.eq_of_beq_eq_true hc.1) (by rw [ev_uv_cat hf]; exact Nat.eq_of_beq_eq_true hc.2) hW
  · split at h
    rotate_left
    · cases h
    rename_i v rest
    cases hc : Nat.beq v.category 1 with
    | false => rw [hc] at h; cases h
    | true =>
      rw [hc] at h
      refine ev_P.step (fun H lc locs cells slots Q hR hl hS hW => ?_) (hK _ _ _ _ h)
      exact lv_pop hx hb hdg (by rw [ev_uv_cat hf]; exact Nat.eq_of_beq_eq_true hc) hW
  · -- iinc
    rename_i k n
    split at h
    rotate_left
    · cases h
    rename_i x hn
    obtain ⟨ls', h1, h2, h3, h4⟩ := ev_sk1_spec _ _ _ _ _ h
    refine ev_P.stl (fun H lc locs cells slots Q hR hl hS hW => ?_) (hK _ _ _ _ h1)
    obtain ⟨q, hq⟩ := List.getElem?_of_mem (ev_al_in (g := g) hn (fun z => by cases z))
    exact lv_iinc hx hb hdg hl.has hq rfl (by rw [← hl.2.1]; exact h2) rfl (fun lc' h' => hW lc' (hl.of1 hf h3 h4 h'))
  · split at h
    rotate_left
    · cases h
    rename_i y x rest
    by_cases h0 : y = 0
    · rw [if_pos h0] at h; cases h
    · rw [if_neg h0] at h
      refine ev_P.step (fun H lc locs cells slots Q hR hl hS hW => ?_) (hK _ _ _ _ h)
      exact lv_idiv hx hb hdg h0 hW
  · split at h
    rotate_left
    · cases h
    rename_i y x rest
    by_cases h0 : y = 0
    · rw [if_pos h0] at h; cases h
    · rw [if_neg h0] at h
      refine ev_P.step (fun H lc locs cells slots Q hR hl hS hW => ?_) (hK _ _ _ _ h)
      exact lv_irem hx hb hdg h0 hW
  · split at h
    rotate_left
    · cases h
    rename_i y x rest
    by_cases h0 : y = 0
    · rw [if_pos h0] at h; cases h
    · rw [if_neg h0] at h
      refine ev_P.step (fun H lc locs cells slots Q hR hl hS hW => ?_) (hK _ _ _ _ h)
      exact lv_ldiv hx hb hdg h0 hW
  · split at h
    rotate_left
    · cases h
    rename_i y x rest
    by_cases h0 : y = 0
    · rw [if_pos h0] at h; cases h
    · rw [if_neg h0] at h
      refine ev_P.step (fun H lc locs cells slots Q hR hl hS hW => ?_) (hK _ _ _ _ h)
      exact lv_lrem hx hb hdg h0 hW
  · split at h
    rotate_left
    · cases h
    refine ev_P.step (fun H lc locs cells slots Q hR hl hS hW => ?_) (hK _ _ _ _ h)
    exact lv_i2l hx hb hdg rfl hW
  · split at h
    rotate_left
    · cases h
    refine ev_P.step (fun H lc locs cells slots Q hR hl hS hW => ?_) (hK _ _ _ _ h)
    exact W.lcmp hx hb hdg hW
  · -- goto
    refine ev_P.step (fun H lc locs cells slots Q hR hl hS hW => ?_) (hK _ _ _ _ h)
    exact lv_goto hx hb hdg (ev_go_ok (of_decide_eq_true hj)) hW
  · -- eq
    split at h
    rotate_left
    · cases h
    rename_i x rest
    by_cases h0 : x = 0
    · rw [if_pos h0] at h
      refine ev_P.step (fun H lc locs cells slots Q hR hl hS hW => ?_) (hK _ _ _ _ h)
      exact lv_if_eq hx hb hdg (ev_go_ok (of_decide_eq_true hj)) (fun _ => hW) (fun z => absurd h0 z)
    · rw [if_neg h0] at h
      refine ev_P.step (fun H lc locs cells slots Q hR hl hS hW => ?_) (hK _ _ _ _ h)
      exact lv_if_eq hx hb hdg (ev_go_ok (of_decide_eq_true hj)) (fun z => absurd z h0) (fun _ => hW)
  · split at h
    rotate_left
    · cases h
    rename_i x rest
    by_cases h0 : x = 0
    · rw [if_pos h0] at h
      refine ev_P.step (fun H lc locs cells slots Q hR hl hS hW => ?_) (hK _ _ _ _ h)
      exact lv_if_ne hx hb hdg (ev_go_ok (of_decide_eq_true hj)) (fun z => absurd h0 z) (fun _ => hW)
    · rw [if_neg h0] at h
      refine ev_P.step (fun H lc locs cells slots Q hR hl hS hW => ?_) (hK _ _ _ _ h)
      exact lv_if_ne hx hb hdg (ev_go_ok (of_decide_eq_true hj)) (fun _ => hW) (fun z => absurd z (by first | exact h0 | exact fun z => z h0))
  · split at h
    rotate_left
    · cases h
    rename_i x rest
    by_cases h0 : x < 0
    · rw [if_pos h0] at h
      refine ev_P.step (fun H lc locs cells slots Q hR hl hS hW => ?_) (hK _ _ _ _ h)
      exact lv_if_lt hx hb hdg (ev_go_ok (of_decide_eq_true hj)) (fun _ => hW) (fun z => absurd h0 z)
    · rw [if_neg h0] at h
      refine ev_P.step (fun H lc locs cells slots Q hR hl hS hW => ?_) (hK _ _ _ _ h)
      exact lv_if_lt hx hb hdg (ev_go_ok (of_decide_eq_true hj)) (fun z => absurd z h0) (fun _ => hW)
  · split at h
    rotate_left
    · cases h
    rename_i x rest
    by_cases h0 : x < 0
    · rw [if_pos h0] at h
      refine ev_P.step (fun H lc locs cells slots Q hR hl hS hW => ?_) (hK _ _ _ _ h)
      exact lv_if_ge hx hb hdg (ev_go_ok (of_decide_eq_true hj)) (fun z => absurd h0 (Int32.not_lt.mpr z)) (fun _ => hW)
    · rw [if_neg h0] at h
      refine ev_P.step (fun H lc locs cells slots Q hR hl hS hW => ?_) (hK _ _ _ _ h)
      exact lv_if_ge hx hb hdg (ev_go_ok (of_decide_eq_true hj)) (fun _ => hW) (fun z => absurd (Int32.not_lt.mp h0) z)
  · split at h
    rotate_left
    · cases h
    rename_i x rest
    by_cases h0 : 0 < x
    · rw [if_pos h0] at h
      refine ev_P.step (fun H lc locs cells slots Q hR hl hS hW => ?_) (hK _ _ _ _ h)
      exact lv_if_gt hx hb hdg (ev_go_ok (of_decide_eq_true hj)) (fun _ => hW) (fun z => absurd h0 z)
    · rw [if_neg h0] at h
      refine ev_P.step (fun H lc locs cells slots Q hR hl hS hW => ?_) (hK _ _ _ _ h)
      exact lv_if_gt hx hb hdg (ev_go_ok (of_decide_eq_true hj)) (fun z => absurd z h0) (fun _ => hW)
  · split at h
    rotate_left
    · cases h
    rename_i x rest
    by_cases h0 : 0 < x
    · rw [if_pos h0] at h
      refine ev_P.step (fun H lc locs cells slots Q hR hl hS hW => ?_) (hK _ _ _ _ h)
      exact lv_if_le hx hb hdg (ev_go_ok (of_decide_eq_true hj)) (fun z => absurd h0 (Int32.not_lt.mpr z)) (fun _ => hW)
    · rw [if_neg h0] at h
      refine ev_P.step (fun H lc locs cells slots Q hR hl hS hW => ?_) (hK _ _ _ _ h)
      exact lv_if_le hx hb hdg (ev_go_ok (of_decide_eq_true hj)) (fun _ => hW) (fun z => absurd (Int32.not_lt.mp h0) z)
  · split at h
    rotate_left
    · cases h
    rename_i y x rest
    by_cases h0 : x = y
    · rw [if_pos h0] at h
      refine ev_P.step (fun H lc locs cells slots Q hR hl hS hW => ?_) (hK _ _ _ _ h)
      exact lv_icmp_eq hx hb hdg (ev_go_ok (of_decide_eq_true hj)) (fun _ => hW) (fun z => absurd h0 z)
    · rw [if_neg h0] at h
      refine ev_P.step (fun H lc locs cells slots Q hR hl hS hW => ?_) (hK _ _ _ _ h)
      exact lv_icmp_eq hx hb hdg (ev_go_ok (of_decide_eq_true hj)) (fun z => absurd z h0) (fun _ => hW)
  · split at h
    rotate_left
    · cases h
    rename_i y x rest
    by_cases h0 : x = y
    · rw [if_pos h0] at h
      refine ev_P.step (fun H lc locs cells slots Q hR hl hS hW => ?_) (hK _ _ _ _ h)
      exact lv_icmp_ne hx hb hdg (ev_go_ok (of_decide_eq_true hj)) (fun z => absurd h0 z) (fun _ => hW)
    · rw [if_neg h0] at h
      refine ev_P.step (fun H lc locs cells slots Q hR hl hS hW => ?_) (hK _ _ _ _ h)
      exact lv_icmp_ne hx hb hdg (ev_go_ok (of_decide_eq_true hj)) (fun _ => hW) (fun z => absurd z (by first | exact h0 | exact fun z => z h0))
  · split at h
    rotate_left
    · cases h
    rename_i y x rest
    by_cases h0 : x < y
    · rw [if_pos h0] at h
      refine ev_P.step (fun H lc locs cells slots Q hR hl hS hW => ?_) (hK _ _ _ _ h)
      exact lv_icmp_lt hx hb hdg (ev_go_ok (of_decide_eq_true hj)) (fun _ => hW) (fun z => absurd h0 z)
    · rw [if_neg h0] at h
      refine ev_P.step (fun H lc locs cells slots Q hR hl hS hW => ?_) (hK _ _ _ _ h)
      exact lv_icmp_lt hx hb hdg (ev_go_ok (of_decide_eq_true hj)) (fun z => absurd z h0) (fun _ => hW)
  · split at h
    rotate_left
    · cases h
    rename_i y x rest
    by_cases h0 : x < y
    · rw [if_pos h0] at h
      refine ev_P.step (fun H lc locs cells slots Q hR hl hS hW => ?_) (hK _ _ _ _ h)
      exact lv_icmp_ge hx hb hdg (ev_go_ok (of_decide_eq_true hj)) (fun z => absurd h0 (Int32.not_lt.mpr z)) (fun _ => hW)
    · rw [if_neg h0] at h
      refine ev_P.step (fun H lc locs cells slots Q hR hl hS hW => ?_) (hK _ _ _ _ h)
      exact lv_icmp_ge hx hb hdg (ev_go_ok (of_decide_eq_true hj)) (fun _ => hW) (fun z => absurd (Int32.not_lt.mp h0) z)
  · split at h
    rotate_left
    · cases h
    rename_i y x rest
    by_cases h0 : y < x
    · rw [if_pos h0] at h
      refine ev_P.step (fun H lc locs cells slots Q hR hl hS hW => ?_) (hK _ _ _ _ h)
      exact lv_icmp_gt hx hb hdg (ev_go_ok (of_decide_eq_true hj)) (fun _ => hW) (fun z => absurd h0 z)
    · rw [if_neg h0] at h
      refine ev_P.step (fun H lc locs cells slots Q hR hl hS hW => ?_) (hK _ _ _ _ h)
      exact lv_icmp_gt hx hb hdg (ev_go_ok (of_decide_eq_true hj)) (fun z => absurd z h0) (fun _ => hW)
  · split at h
    rotate_left
    · cases h
    rename_i y x rest
    by_cases h0 : y < x
    · rw [if_pos h0] at h
      refine ev_P.step (fun H lc locs cells slots Q hR hl hS hW => ?_) (hK _ _ _ _ h)
      exact lv_icmp_le hx hb hdg (ev_go_ok (of_decide_eq_true hj)) (fun z => absurd h0 (Int32.not_lt.mpr z)) (fun _ => hW)
    · rw [if_neg h0] at h
      refine ev_P.step (fun H lc locs cells slots Q hR hl hS hW => ?_) (hK _ _ _ _ h)
      exact lv_icmp_le hx hb hdg (ev_go_ok (of_decide_eq_true hj)) (fun _ => hW) (fun z => absurd (Int32.not_lt.mp h0) z)
  · -- tableswitch
    rename_i dflt lo hi offs
    split at h
    rotate_left
    · cases h
    rename_i x rest
    cases hc : decide (0 ≤ hi - lo) && decide (offs.size = (hi - lo).toNat + 1) && decide (-1000 < lo) && decide (hi < 1000) with
    | false => rw [hc] at h; cases h
    | true =>
      rw [hc] at h
      simp only [Bool.and_eq_true, decide_eq_true_eq] at hc
      obtain ⟨⟨⟨c1, c2⟩, c3⟩, c4⟩ := hc
      simp only [ev_jok, Bool.and_eq_true, decide_eq_true_eq, List.all_eq_true] at hj
      rcases ev_tsw_spec h with ⟨h1, h2⟩ | ⟨j, h1, h2, h3⟩
      · refine ev_P.step (fun H lc locs cells slots Q hR hl hS hW => ?_) (hK _ _ _ _ h1)
        refine lv_tableOut hx hb hdg ?_ (ev_go_ok hj.1) hW
        rcases (show x.toInt < lo ∨ lo ≤ x.toInt by omega) with q | q
        · exact Or.inl q
        · rcases (show hi < x.toInt ∨ x.toInt ≤ hi by omega) with q2 | q2
          · exact Or.inr q2
          · refine absurd ?_ (h2 (hi - x.toInt).toNat (by omega))
            rw [show hi - ((hi - x.toInt).toNat : Int) = x.toInt by omega]
            exact (Int32.ofInt_toInt x).symm
      · refine ev_P.step (fun H lc locs cells slots Q hR hl hS hW => ?_) (hK _ _ _ _ h3)
        have e1 : x.toInt = hi - j := by rw [h2]; exact fb_ofI (by omega) (by omega)
        have hlt : (hi - (j : Int) - lo).toNat < offs.size := by omega
        have e2 : offs.getD ((hi - (j : Int)) - lo).toNat 0 = offs[(hi - (j : Int) - lo).toNat] := by simp [Array.getD, hlt]
        refine lv_tableIn (off := offs[(hi - (j : Int) - lo).toNat]) hx hb hdg (by omega) (by omega) (by rw [e1]; simp [hlt]) ?_ hW
        rw [e2]
        exact ev_go_ok (hj.2 _ (by simp))
  · -- lookupswitch
    rename_i dflt ps
    split at h
    rotate_left
    · cases h
    rename_i x rest
    cases hc : (ps.toList.zip (ps.toList.drop 1)).all (fun (a, next) => a.1 < next.1) && ps.toList.all (fun a => decide (-1000 < a.1) && decide (a.1 < 1000)) with
    | false => rw [hc] at h; cases h
    | true =>
      rw [hc] at h
      rw [Bool.and_eq_true] at hc
      simp only [ev_jok, Bool.and_eq_true, decide_eq_true_eq, List.all_eq_true] at hj
      obtain ⟨h1, h2⟩ := ev_lsw_spec (fun a ha => by have := List.all_eq_true.mp hc.2 a ha; simpa using this) h
      refine ev_P.step (fun H lc locs cells slots Q hR hl hS hW => ?_) (hK _ _ _ _ h1)
      refine lv_lookup hx hb hdg hc.1 rfl (ev_go_ok ?_) hW
      rcases h2 with h2 | ⟨q, hq, h2⟩
      · rw [h2]; exact hj.1
      · rw [h2]; exact hj.2 q hq
  · -- ireturn
    split at h
    rotate_left
    · cases h
    rename_i x
    split at h
    · rename_i hrt
      cases h
      refine ev_ret_P (fun H lc locs cells slots hR hf2 => ?_)
      exact W.iret hx hb (hr.trans hrt) (fun t ht hw => ⟨⟨_, rfl, rfl⟩, by rw [ht]; exact hR⟩) hf2 hdg hlocks
    · rename_i hrt
      by_cases hfit : ev_fit .boolean x = true
      · rw [if_pos hfit] at h
        cases h
        refine ev_ret_P (fun H lc locs cells slots hR hf2 => ?_)
        exact W.zret hx hb (hr.trans hrt) (of_decide_eq_true hfit) (fun t ht hw => ⟨⟨_, rfl, rfl⟩, by rw [ht]; exact hR⟩) hf2 hdg hlocks
      · rw [if_neg hfit] at h; cases h
    · rename_i hrt
      by_cases hfit : ev_fit .char x = true
      · rw [if_pos hfit] at h
        cases h
        refine ev_ret_P (fun H lc locs cells slots hR hf2 => ?_)
        exact W.zret hx hb (hr.trans hrt) (of_decide_eq_true hfit) (fun t ht hw => ⟨⟨_, rfl, rfl⟩, by rw [ht]; exact hR⟩) hf2 hdg hlocks
      · rw [if_neg hfit] at h; cases h
    · rename_i hrt
      by_cases hfit : ev_fit .byte x = true
      · rw [if_pos hfit] at h
        cases h
        refine ev_ret_P (fun H lc locs cells slots hR hf2 => ?_)
        exact W.zret hx hb (hr.trans hrt) (of_decide_eq_true hfit) (fun t ht hw => ⟨⟨_, rfl, rfl⟩, by rw [ht]; exact hR⟩) hf2 hdg hlocks
      · rw [if_neg hfit] at h; cases h
    · cases h
  · split at h
    rotate_left
    · cases h
    rename_i x
    split at h
    · rename_i hrt
      cases h
      refine ev_ret_P (fun H lc locs cells slots hR hf2 => ?_)
      exact W.lret hx hb (hr.trans hrt) (fun t ht hw => ⟨⟨_, rfl, rfl⟩, by rw [ht]; exact hR⟩) hf2 hdg hlocks
    · cases h
  · split at h
    rotate_left
    · cases h
    split at h
    · rename_i hrt
      cases h
      refine ev_ret_P (fun H lc locs cells slots hR hf2 => ?_)
      exact W.vret hx hb (hr.trans hrt) (fun t ht hw => ⟨⟨_, rfl, rfl⟩, by rw [ht]; exact hR⟩) hf2 hdg hlocks
    · cases h
  · cases h
end EVX
end
section
/-- the tables' facts: fields, classes, constants -/
def ev_TF : Prop := ∀ oc idx ci j kd fin, ev_lk (ev_fl oc) idx = some (ci, j, kd, fin) →
  (ci < 11 ∧ j < (ev_cl ci).2.2 ∧ Cond.fieldLink (ev_cn oc) idx (ev_cl ci).1 ((ev_cl ci).2.1 j).2.1 ((ev_cl ci).2.1 j).2.2.1 ∈ ev_gw ∧ ((ev_cl ci).2.1 j).1 = (ev_cl ci).1 ∧ Nat.beq kd 2 = ev_isr ci j ∧ (kd = 0 → ev_ft ci j = .int) ∧ (kd = 1 → ev_ft ci j = .boolean) ∧ ((ev_cl ci).2.1 j).2.2.2 = Nat.beq fin 1)
  ∨ (ci = 20 ∧ ((j = 0 ∧ kd = 2 ∧ Cond.fieldLink (ev_cn oc) idx "java/lang/String" "value" "[B" ∈ ev_gw) ∨ (j = 1 ∧ Cond.fieldLink (ev_cn oc) idx "java/lang/String" "coder" "B" ∈ ev_gw)))
def ev_TC : Prop := ∀ ci, ci < 11 → vwCl[ci]? = some (ev_cl ci) ∧ (∀ w ∈ u_ws (ev_cl ci).1 (ev_cl ci).2.1 (ev_cl ci).2.2, w ∈ ev_gw) ∧ (∀ k, k < (ev_cl ci).2.2 → parseFieldDescriptor ((ev_cl ci).2.1 k).2.2.1 = some (ev_ft ci k)) ∧ (∀ a, a < (ev_cl ci).2.2 → ∀ b, b < (ev_cl ci).2.2 → a ≠ b → ((ev_cl ci).2.1 a).2.1 ≠ ((ev_cl ci).2.1 b).2.1) ∧ ev_cn (ci + 1) = (ev_cl ci).1 ∧ (∀ k, k < (ev_cl ci).2.2 → defaultValue (ev_ft ci k) = bif ev_isr ci k then .null else .int 0) ∧ (∀ k, k < (ev_cl ci).2.2 → ev_isr ci k = true → (∃ n, ev_ft ci k = .object n) ∨ ∃ t, ev_ft ci k = .array t)
def ev_TK : Prop := (∀ oc idx v, ev_lk (ev_ki oc) idx = some v → Cond.constant (ev_cn oc) idx v ∈ ev_gw) ∧ (∀ oc idx v, ev_lk (ev_kl oc) idx = some v → Cond.constantLong (ev_cn oc) idx v ∈ ev_gw) ∧
  Cond.fieldLink (ev_cn 13) 38 "java/lang/String" "COMPACT_STRINGS" "Z" ∈ ev_gw ∧ Cond.fieldLink (ev_cn 13) 1053 "jdk/internal/util/Preconditions" "SIOOBE_FORMATTER" "Ljava/util/function/BiFunction;" ∈ ev_gw
theorem ev_nth_mem {α : Type} : ∀ {l : List α} {i : Nat} {v : α}, ev_nth l i = some v → v ∈ l
  | _ :: _, 0, _, h => by simp [ev_nth] at h; simp [h]
  | _ :: t, i + 1, v, h => List.mem_cons_of_mem _ (ev_nth_mem (l := t) (i := i) h)
  | [], _, _, h => by simp [ev_nth] at h
theorem ev_layL_ok : ∀ q ∈ ev_layL, q.1 < 7 := by decide +kernel
theorem ev_lay_lt {k : Nat} : (ev_lay k).1 < 7 ∨ ev_lay k = (99, 0) := by
  unfold ev_lay
  cases h : ev_nth ev_layL k with
  | none => exact Or.inr rfl
  | some q => exact Or.inl (ev_layL_ok q (ev_nth_mem h))
theorem ev_blt {a b : Nat} (h : Nat.blt a b = true) : a < b := Nat.le_of_ble_eq_true h
theorem ev_kd_cell {n k t x : Nat} (h : ev_kd n k = (t, x)) (ht : t < 10) : k < n ∧ ev_lay k = (t, x) := by
  unfold ev_kd at h
  cases h1 : Nat.blt k n with
  | true =>
    rw [h1] at h
    exact ⟨ev_blt h1, h⟩
  | false =>
    rw [h1] at h
    cases h2 : Nat.ble 900000 k && Nat.blt k (900000 + 2 * ev_strs.length) with
    | true =>
      rw [h2] at h
      have h3 : (10 + k % 2, (k - 900000) / 2) = (t, x) := h
      have := congrArg Prod.fst h3
      simp at this
      omega
    | false =>
      rw [h2] at h
      have h3 : (99, 0) = (t, x) := h
      have := congrArg Prod.fst h3
      simp at this
      omega
theorem ev_kd_text {n k t x : Nat} (h : ev_kd n k = (t, x)) (ht : t = 10 ∨ t = 11) : 900000 ≤ k ∧ x < ev_strs.length ∧ k % 2 = t - 10 ∧ x = (k - 900000) / 2 := by
  unfold ev_kd at h
  cases h1 : Nat.blt k n with
  | true =>
    rw [h1] at h
    have h' : ev_lay k = (t, x) := h
    rcases ev_lay_lt (k := k) with q | q
    · rw [h'] at q; simp at q; omega
    · rw [q] at h'
      have := congrArg Prod.fst h'
      simp at this
      omega
  | false =>
    rw [h1] at h
    cases h2 : Nat.ble 900000 k && Nat.blt k (900000 + 2 * ev_strs.length) with
    | true =>
      rw [h2] at h
      have h3 : (10 + k % 2, (k - 900000) / 2) = (t, x) := h
      simp only [Bool.and_eq_true] at h2
      have h4 := Nat.le_of_ble_eq_true h2.1
      have h5 := ev_blt h2.2
      have e1 := congrArg Prod.fst h3
      have e2 := congrArg Prod.snd h3
      simp at e1 e2
      omega
    | false =>
      rw [h2] at h
      have h3 : (99, 0) = (t, x) := h
      have := congrArg Prod.fst h3
      simp at this
      omega
theorem ev_ad_cell {g : ev_G} {k : Nat} (h : k < 900000) : ev_ad g k = g.2.1 + k := if_pos h
section EVR
variable {p : Program} {l : Launch} {e : Env} {R : Room} {s : State} {m : MethodId} {args : Array Value} {below : List Frame} {meth : Method} {c : Code} {g : ev_G} {sd : Bool} {d : Nat} {M : ev_Me} {σ0 : ev_S} {r : ev_R}
/-- an object of the store in the heap -/
theorem ev_atO {σ : ev_S} {H : Heap} {k ci : Nat} (hTC : ev_TC) (hci : ci < 11) (hR : ev_Rep g σ H) (hk : k < σ.1.1) (hlay : ev_lay k = (0, ci)) : t_OB (g.2.1 + k) (g.1.1 ci) (ev_cl ci).2.2 (g.1.2 ci) H (ev_fldv g σ k ci) := by
  have h := hR.2.2.2.2 k hk
  unfold ev_E at h
  rw [hlay] at h
  obtain ⟨q, h1, h2⟩ := h
  have hq : q = ev_cl ci := Option.some.inj (h1.symm.trans (hTC ci hci).1)
  subst hq
  refine h2.to fun j hj => ?_
  show ((List.range (ev_cl ci).2.2).map (ev_fldv g σ k ci)).getD j .null = _
  simp [List.getD, hj]
theorem ev_atA {σ : ev_S} {H : Heap} {k t n : Nat} {x : vp_A} (hR : ev_Rep g σ H) (hk : k < σ.1.1) (hE : ev_E g σ k = .inl (g.2.2.2.2.2.2 t, x)) : H[g.2.1 + k]? = some (vp_cell (g.2.2.2.2.2.2 t) x) := by
  have h := hR.2.2.2.2 k hk
  rw [hE] at h
  exact h
theorem ev_in_vp {x : Int32} {n : Nat} (h : ev_in x n = true) : vp_in x n := by
  unfold ev_in at h
  simp only [Bool.and_eq_true, Bool.not_eq_true', decide_eq_false_iff_not, decide_eq_true_eq] at h
  exact fun q => q.elim h.1 (fun z => absurd h.2 (Nat.not_lt.mpr z))
/-- a read of a row of ints (or of what looks so) -/
theorem ev_rowI {σ : ev_S} {H : Heap} {k t n : Nat} {ty : FieldType} (hCx : ev_Cx g s) (hR : ev_Rep g σ H) (hk : k < σ.1.1) (hlay : ev_lay k = (t, n)) (ht : t = 1 ∧ ty = .int ∨ t = 3 ∧ ty = .char ∨ t = 4 ∧ ty = .boolean) : H[g.2.1 + k]? = some (arrV (g.2.2.2.2.2.2 t) n (fun j => .int (σ.2.1 k j))) ∧ ArrOfT s (g.2.2.2.2.2.2 t) ty := by
  have hE : ev_E g σ k = .inl (g.2.2.2.2.2.2 t, n, .inl (σ.2.1 k)) := by
    unfold ev_E
    rw [hlay]
    rcases ht with ⟨rfl, -⟩ | ⟨rfl, -⟩ | ⟨rfl, -⟩ <;> rfl
  refine ⟨ev_atA (n := n) hR hk hE, ?_⟩
  rcases ht with ⟨rfl, rfl⟩ | ⟨rfl, rfl⟩ | ⟨rfl, rfl⟩
  · exact (hCx.1.2 0 _ rfl).1
  · exact (hCx.1.2 2 _ rfl).1
  · exact (hCx.1.2 3 _ rfl).1
theorem ev_ldc_wS {cc : ByteArray} (hexec : p.tables.exec = Jvm.exec) (hb : c.code = cc) {H : Heap} {locs : List Loc} {cells slots : Nat} {Q : State → Prop} {pc : Nat} {ls : Array Slot} {rest : List Value} {own tx : String} {index q : Nat} (hown : s.vm.findClass own = some m.cls) (hZ : vk_R own index tx q s) (hdg : decode cc pc = .ok (.ldc_w index, 3))
    (k : W p l e R s m args below meth c H locs cells slots Q (F0 m (pc + 3) ls (.ref q :: rest))) : W p l e R s m args below meth c H locs cells slots Q (F0 m pc ls rest) := by
  intro T hT X
  obtain ⟨t, a1, b1⟩ := k T hT X
  refine ⟨t, ?_, b1⟩
  obtain ⟨k, cf, i, a', hk, hcf, hcp, -, hr, hev'⟩ := Cond.stringRef_spec hown hZ.1
  cases hZ.2.symm.trans hev'
  obtain ⟨k', hk', he⟩ := X.warmed.alike.2.2 _ _ hk
  have hr' : k'.resolved[index]? = some (some (.string q)) := by
    rcases X.warmed.entry hk hk' index with h | ⟨h, -⟩
    · rw [h]; exact hr
    · rw [hr] at h; cases h
  have hdg' : decode c.code (F0 m pc ls rest).pc = .ok (.ldc_w index, 3) := by rw [hb]; exact hdg
  jvm_step X.here [hexec, hdg', ldc_w.wp_string (e := e) (s := T) (f := F0 m pc ls rest) X.here.top hk' (by rw [he]; exact hcf) hcp hr']
  exact a1
set_option maxHeartbeats 4000000 in
theorem ev_rd_ok (hTF : ev_TF) (hTC : ev_TC) (hTK : ev_TK) (hA : ev_At p g M s m args meth c) {i : Instr} {pc : Nat} {ls st : List Value} {σ : ev_S} (hdg : decode M.2.1 pc = .ok (i, ev_len pc i)) {K : ev_K} (hK : ∀ pc' ls' st' σ', K pc' ls' st' σ' = some r → ev_P p l e s m args below meth c g sd d M σ0 r pc' ls' st' σ')
    (h : ev_rd M K i pc ls st σ = some r) : ev_P p l e s m args below meth c g sd d M σ0 r pc ls st σ := by
  obtain ⟨hx, hb, hml, hr, hlocks, hown, -, -, hts, hCx, hold, hb0⟩ := hA
  have hnA : ∀ a : Nat, a < s.heap.size → ¬ ev_A g a → s.heap[a]? = g.2.2.1[a]? := fun a _ h2 => hold a (Nat.lt_of_not_le h2)
  have hgl : ∀ a : Nat, a < g.2.2.1.size → ¬ ev_A g a → s.heap[a]? = g.2.2.1[a]? := fun a _ h2 => hold a (Nat.lt_of_not_le h2)
  unfold ev_rd at h
  split at h
  · -- getfield
    rename_i idx
    split at h
    rotate_left
    · cases h
    rename_i k rest
    split at h
    rotate_left
    · cases h
    rename_i ci j kd fin hlk
    cases hkd : ev_kd σ.1.1 k == (0, ci) with
    | true =>
      rw [hkd] at h
      have hkd' : ev_kd σ.1.1 k = (0, ci) := eq_of_beq hkd
      obtain ⟨hk, hlay⟩ := ev_kd_cell hkd' (by omega)
      rcases hTF _ _ _ _ _ _ hlk with ⟨h1, h2, h3, h4, h5, h6, h7, h8⟩ | ⟨h1, -⟩
      · obtain ⟨c1, c2, c3, c4, c5, c6, c7⟩ := hTC ci h1
        have key : ∀ (H : Heap) (lc : Array Slot) (locs : List Loc) (cells slots : Nat) (Q : State → Prop), ev_Rep g σ H → W p l e (ev_rm d σ0 r.2) s m args below meth c H locs cells slots Q (F0 m (pc + 3) lc (ev_fldv g σ k ci j :: rest.map (ev_uv g))) → W p l e (ev_rm d σ0 r.2) s m args below meth c H locs cells slots Q (F0 m pc lc (.ref (ev_ad g k) :: rest.map (ev_uv g))) := by
          intro H lc locs cells slots Q hR hW
          obtain ⟨cell, q1, q2, q3, q4⟩ := ev_atO hTC h1 hR hk hlay
          obtain ⟨hS, hfc, kC, hkC, hkind⟩ := hCx.1.1 ci _ c1
          obtain ⟨cf, kf, fi, f, hi, hsl⟩ := hS j h2
          rw [ev_ad_cell (Nat.lt_of_lt_of_le hk hR.2.2.2.1)]
          refine W.getf hx hb hown (hts _ h3) (by rw [h4] at hi; exact hi) (u_facts hfc hkC (u_lays hts c2 h2) hi).1 q1 (by rw [q3]; exact fun h => by cases h) (v := ev_fldv g σ k ci j) ?_ rfl rfl hdg hW
          rw [hsl, q4 j h2]
        cases hk2 : Nat.beq kd 2 with
        | true =>
          rw [hk2] at h
          refine ev_P.step (fun H lc locs cells slots Q hR hl hS hW => key H lc locs cells slots Q hR ?_) (hK _ _ _ _ h)
          have e1 : ev_fldv g σ k ci j = ev_uv g (ev_rv (σ.2.2.2 k j)) := by
            unfold ev_fldv
            rw [← h5, hk2]
            cases σ.2.2.2 k j <;> rfl
          rw [e1]
          exact hW
        | false =>
          rw [hk2] at h
          refine ev_P.step (fun H lc locs cells slots Q hR hl hS hW => key H lc locs cells slots Q hR ?_) (hK _ _ _ _ h)
          have e1 : ev_fldv g σ k ci j = .int (σ.2.1 k j) := by
            unfold ev_fldv
            rw [← h5, hk2]
            rfl
          rw [e1]
          exact hW
      · rw [h1] at hlay
        exact absurd hlay (by
          intro z
          have : ∀ q ∈ ev_layL, q ≠ (0, 20) := by decide +kernel
          unfold ev_lay at z
          cases h : ev_nth ev_layL k with
          | none => rw [h] at z; cases z
          | some q => rw [h] at z; exact this q (ev_nth_mem h) z)
    | false =>
      rw [hkd] at h
      cases hc2 : Nat.beq ci 20 && Nat.beq (ev_kd σ.1.1 k).1 10 with
      | false => rw [hc2] at h; cases h
      | true =>
        rw [hc2] at h
        simp only [Bool.and_eq_true] at hc2
        have e20 := Nat.eq_of_beq_eq_true hc2.1
        obtain ⟨t1, t2, t3, t4⟩ := ev_kd_text (n := σ.1.1) (k := k) (t := 10) (x := (ev_kd σ.1.1 k).2) (by rw [← Nat.eq_of_beq_eq_true hc2.2]) (Or.inl rfl)
        have hadk : ev_ad g k = g.2.2.2.1 (ev_kd σ.1.1 k).2 := by
          unfold ev_ad
          rw [if_neg (by omega), if_pos (by omega), t4]
        have hadk1 : ev_ad g (k + 1) = g.2.2.2.2.1 (ev_kd σ.1.1 k).2 := by
          unfold ev_ad
          rw [if_neg (by omega), if_neg (by omega), t4]
          exact congrArg g.2.2.2.2.1 (by omega)
        obtain ⟨s1, s2, s3, s4⟩ := hCx.2.2.2.2.2.1 _ t2
        rcases hTF _ _ _ _ _ _ hlk with ⟨h1, -⟩ | ⟨-, ⟨hj, -, hw⟩ | ⟨hj, hw⟩⟩
        · omega
        · subst hj
          refine ev_P.step (fun H lc locs cells slots Q hR hl hS hW => ?_) (hK _ _ _ _ h)
          obtain ⟨cf, k9, fi, f, cell, u1, u2, u3, u4, u5, u6⟩ := (s3.kept hgl).kept hS.2.1
          show W p l e _ s m args below meth c H locs cells slots Q (F0 m pc lc (.ref (ev_ad g k) :: rest.map (ev_uv g)))
          rw [hadk]
          exact W.getf hx hb hown (hts _ hw) u1 u2 u3 u4 (v := .ref (g.2.2.2.2.1 (ev_kd σ.1.1 k).2)) u5 rfl rfl hdg (by rw [← hadk1]; exact hW)
        · subst hj
          refine ev_P.step (fun H lc locs cells slots Q hR hl hS hW => ?_) (hK _ _ _ _ h)
          obtain ⟨cf, k9, fi, f, cell, u1, u2, u3, u4, u5, u6⟩ := (s2.kept hgl).kept hS.2.1
          show W p l e _ s m args below meth c H locs cells slots Q (F0 m pc lc (.ref (ev_ad g k) :: rest.map (ev_uv g)))
          rw [hadk]
          exact W.getf hx hb hown (hts _ hw) u1 u2 u3 u4 (v := .int 0) u5 rfl rfl hdg hW
  · -- getstatic
    rename_i idx
    cases h13 : Nat.beq M.2.2.2.2.1 13 with
    | false => rw [h13] at h; cases h
    | true =>
      rw [h13] at h
      have e13 := Nat.eq_of_beq_eq_true h13
      rw [e13] at hown
      cases h38 : Nat.beq idx 38 with
      | true =>
        rw [h38] at h
        have e38 := Nat.eq_of_beq_eq_true h38
        subst e38
        refine ev_P.step (fun H lc locs cells slots Q hR hl hS hW => ?_) (hK _ _ _ _ h)
        exact va_gets hx hb (hCx.2.2.2.2.2.2.1.kept hgl) hS hown (hts _ hTK.2.2.1) (fun _ z => z) hdg hW
      | false =>
        rw [h38] at h
        cases h39 : Nat.beq idx 1053 with
        | false => rw [h39] at h; cases h
        | true =>
          rw [h39] at h
          have e39 := Nat.eq_of_beq_eq_true h39
          subst e39
          refine ev_P.step (fun H lc locs cells slots Q hR hl hS hW => ?_) (hK _ _ _ _ h)
          exact va_gets hx hb (hCx.2.2.2.2.2.2.2.1.kept hgl) hS hown (hts _ hTK.2.2.2) (fun _ z => z) hdg hW
  · -- arraylength
    split at h
    rotate_left
    · cases h
    rename_i k rest
    split at h
    · rename_i n hkd
      obtain ⟨hk, hlay⟩ := ev_kd_cell hkd (by omega)
      refine ev_P.step (fun H lc locs cells slots Q hR hl hS hW => ?_) (hK _ _ _ _ h)
      obtain ⟨q1, q2⟩ := ev_rowI hCx hR hk hlay (Or.inl ⟨rfl, rfl⟩)
      show W p l e _ s m args below meth c H locs cells slots Q (F0 m pc lc (.ref (ev_ad g k) :: rest.map (ev_uv g)))
      rw [ev_ad_cell (Nat.lt_of_lt_of_le hk hR.2.2.2.1)]
      exact W.alen (n := Int32.ofNat n) hx hb q1 (q2 n _) (by rw [arrV_size] <;> rfl) rfl rfl hdg hW
    · rename_i n hkd
      obtain ⟨hk, hlay⟩ := ev_kd_cell hkd (by omega)
      refine ev_P.step (fun H lc locs cells slots Q hR hl hS hW => ?_) (hK _ _ _ _ h)
      have q1 := ev_atA (t := 2) (n := n) (x := (n, .inr (.inl (σ.2.2.1 k)))) hR hk (by unfold ev_E; rw [hlay]; rfl)
      have q2 := (hCx.1.2 1 _ rfl).1
      show W p l e _ s m args below meth c H locs cells slots Q (F0 m pc lc (.ref (ev_ad g k) :: rest.map (ev_uv g)))
      rw [ev_ad_cell (Nat.lt_of_lt_of_le hk hR.2.2.2.1)]
      exact W.alen (n := Int32.ofNat n) hx hb q1 (q2 n _) (by rw [vp_cell_l, arrV_size] <;> rfl) rfl rfl hdg hW
    · rename_i n hkd
      obtain ⟨t1, t2, t3, t4⟩ := ev_kd_text hkd (Or.inr rfl)
      obtain ⟨s1, s2, s3, s4⟩ := hCx.2.2.2.2.2.1 _ t2
      refine ev_P.step (fun H lc locs cells slots Q hR hl hS hW => ?_) (hK _ _ _ _ h)
      show W p l e _ s m args below meth c H locs cells slots Q (F0 m pc lc (.ref (ev_ad g k) :: rest.map (ev_uv g)))
      have hadk : ev_ad g k = g.2.2.2.2.1 n := by
        unfold ev_ad
        rw [if_neg (by omega), if_neg (by omega), t4]
      rw [hadk]
      exact va_tlen hx hb (s4.kept hgl) hS rfl hdg hW
    · cases h
  · -- iaload
    split at h
    rotate_left
    · cases h
    rename_i x v rest
    unfold ev_aI at h
    split at h
    rotate_left
    · cases h
    rename_i k
    split at h
    rotate_left
    · cases h
    rename_i n hkd
    obtain ⟨hk, hlay⟩ := ev_kd_cell hkd (by omega)
    by_cases hin : ev_in x n = true
    rotate_left
    · rw [if_neg hin] at h; cases h
    rw [if_pos hin] at h
    refine ev_P.step (fun H lc locs cells slots Q hR hl hS hW => ?_) (hK _ _ _ _ h)
    obtain ⟨q1, q2⟩ := ev_rowI hCx hR hk hlay (Or.inl ⟨rfl, rfl⟩)
    have hvp := ev_in_vp hin
    have hlt : x.toNatClampNeg < n := Nat.not_le.mp fun q => hvp (Or.inr q)
    show W p l e _ s m args below meth c H locs cells slots Q (F0 m pc lc (.int x :: .ref (ev_ad g k) :: rest.map (ev_uv g)))
    rw [ev_ad_cell (Nat.lt_of_lt_of_le hk hR.2.2.2.1)]
    exact W.iald (v := .int (σ.2.1 k x.toNatClampNeg)) hx hb q1 (q2 n _) (fun q => by cases q) (by rw [arrV_size]; exact hvp) (by rw [arrV_read _ _ hlt]) rfl rfl hdg hW
  · -- caload
    split at h
    rotate_left
    · cases h
    rename_i x k rest
    split at h
    rotate_left
    · cases h
    rename_i n hkd
    obtain ⟨hk, hlay⟩ := ev_kd_cell hkd (by omega)
    by_cases hin : ev_in x n = true
    rotate_left
    · rw [if_neg hin] at h; cases h
    rw [if_pos hin] at h
    refine ev_P.step (fun H lc locs cells slots Q hR hl hS hW => ?_) (hK _ _ _ _ h)
    obtain ⟨q1, q2⟩ := ev_rowI hCx hR hk hlay (Or.inr (Or.inl ⟨rfl, rfl⟩))
    have hvp := ev_in_vp hin
    have hlt : x.toNatClampNeg < n := Nat.not_le.mp fun q => hvp (Or.inr q)
    show W p l e _ s m args below meth c H locs cells slots Q (F0 m pc lc (.int x :: .ref (ev_ad g k) :: rest.map (ev_uv g)))
    rw [ev_ad_cell (Nat.lt_of_lt_of_le hk hR.2.2.2.1)]
    exact W.cald (v := .int (σ.2.1 k x.toNatClampNeg)) hx hb q1 (q2 n _) (fun q => by cases q) (by rw [arrV_size]; exact hvp) (by rw [arrV_read _ _ hlt]) rfl rfl hdg hW
  · -- baload
    split at h
    rotate_left
    · cases h
    rename_i x k rest
    split at h
    · rename_i n hkd
      obtain ⟨hk, hlay⟩ := ev_kd_cell hkd (by omega)
      by_cases hin : ev_in x n = true
      rotate_left
      · rw [if_neg hin] at h; cases h
      rw [if_pos hin] at h
      refine ev_P.step (fun H lc locs cells slots Q hR hl hS hW => ?_) (hK _ _ _ _ h)
      obtain ⟨q1, q2⟩ := ev_rowI hCx hR hk hlay (Or.inr (Or.inr ⟨rfl, rfl⟩))
      have hvp := ev_in_vp hin
      have hlt : x.toNatClampNeg < n := Nat.not_le.mp fun q => hvp (Or.inr q)
      show W p l e _ s m args below meth c H locs cells slots Q (F0 m pc lc (.int x :: .ref (ev_ad g k) :: rest.map (ev_uv g)))
      rw [ev_ad_cell (Nat.lt_of_lt_of_le hk hR.2.2.2.1)]
      exact W.zald (v := .int (σ.2.1 k x.toNatClampNeg)) hx hb q1 (q2 n _) (fun q => by cases q) (by rw [arrV_size]; exact hvp) (by rw [arrV_read _ _ hlt]) rfl rfl hdg hW
    · rename_i n hkd
      obtain ⟨t1, t2, t3, t4⟩ := ev_kd_text hkd (Or.inr rfl)
      obtain ⟨s1, s2, s3, s4⟩ := hCx.2.2.2.2.2.1 _ t2
      by_cases hin : ev_in x ((ev_nth ev_strs n).getD []).length = true
      rotate_left
      · rw [if_neg hin] at h; cases h
      rw [if_pos hin] at h
      refine ev_P.step (fun H lc locs cells slots Q hR hl hS hW => ?_) (hK _ _ _ _ h)
      show W p l e _ s m args below meth c H locs cells slots Q (F0 m pc lc (.int x :: .ref (ev_ad g k) :: rest.map (ev_uv g)))
      have hadk : ev_ad g k = g.2.2.2.2.1 n := by
        unfold ev_ad
        rw [if_neg (by omega), if_neg (by omega), t4]
      rw [hadk]
      exact va_tb hx hb (s4.kept hgl) hS (ev_in_vp hin) rfl hdg hW
    · cases h
  · -- laload
    split at h
    rotate_left
    · cases h
    rename_i x k rest
    split at h
    rotate_left
    · cases h
    rename_i n hkd
    obtain ⟨hk, hlay⟩ := ev_kd_cell hkd (by omega)
    by_cases hin : ev_in x n = true
    rotate_left
    · rw [if_neg hin] at h; cases h
    rw [if_pos hin] at h
    refine ev_P.step (fun H lc locs cells slots Q hR hl hS hW => ?_) (hK _ _ _ _ h)
    have q1 := ev_atA (t := 2) (n := n) (x := (n, .inr (.inl (σ.2.2.1 k)))) hR hk (by unfold ev_E; rw [hlay]; rfl)
    have q2 := (hCx.1.2 1 _ rfl).1
    have hvp := ev_in_vp hin
    have hlt : x.toNatClampNeg < n := Nat.not_le.mp fun q => hvp (Or.inr q)
    show W p l e _ s m args below meth c H locs cells slots Q (F0 m pc lc (.int x :: .ref (ev_ad g k) :: rest.map (ev_uv g)))
    rw [ev_ad_cell (Nat.lt_of_lt_of_le hk hR.2.2.2.1)]
    exact W.lald (v := .long (σ.2.2.1 k x.toNatClampNeg)) hx hb q1 (q2 n (fun j => .long (σ.2.2.1 k j))) (fun q => by cases q) (by rw [vp_cell_l, arrV_size]; exact hvp) (by rw [vp_cell_l, arrV_read _ _ hlt]) rfl rfl hdg hW
  · -- aaload
    split at h
    rotate_left
    · cases h
    rename_i x k rest
    have e1 : ∀ o : Option Nat, ev_uv g (ev_rv o) = va_rf (o.map (ev_ad g)) := fun o => by cases o <;> rfl
    split at h
    · rename_i n hkd
      obtain ⟨hk, hlay⟩ := ev_kd_cell hkd (by omega)
      by_cases hin : ev_in x n = true
      rotate_left
      · rw [if_neg hin] at h; cases h
      rw [if_pos hin] at h
      refine ev_P.step (fun H lc locs cells slots Q hR hl hS hW => ?_) (hK _ _ _ _ h)
      have q1 := ev_atA (t := 5) (n := n) (x := (n, .inr (.inr (.inr (.inr (fun j => (σ.2.2.2 k j).map (ev_ad g))))))) hR hk (by unfold ev_E; rw [hlay]; rfl)
      have q2 := (hCx.1.2 4 _ rfl).1
      have hvp := ev_in_vp hin
      have hlt : x.toNatClampNeg < n := Nat.not_le.mp fun q => hvp (Or.inr q)
      show W p l e _ s m args below meth c H locs cells slots Q (F0 m pc lc (.int x :: .ref (ev_ad g k) :: rest.map (ev_uv g)))
      rw [ev_ad_cell (Nat.lt_of_lt_of_le hk hR.2.2.2.1)]
      exact W.aald (v := va_rf ((σ.2.2.2 k x.toNatClampNeg).map (ev_ad g))) (ty := .object RX7) hx hb q1 (q2 n (fun j => va_rf ((σ.2.2.2 k j).map (ev_ad g)))) rfl (fun q => by cases q) (by rw [vp_cell_q, arrV_size]; exact hvp) (by rw [vp_cell_q, arrV_read _ _ hlt]) rfl rfl hdg (by rw [← e1]; exact hW)
    · rename_i n hkd
      obtain ⟨hk, hlay⟩ := ev_kd_cell hkd (by omega)
      by_cases hin : ev_in x n = true
      rotate_left
      · rw [if_neg hin] at h; cases h
      rw [if_pos hin] at h
      refine ev_P.step (fun H lc locs cells slots Q hR hl hS hW => ?_) (hK _ _ _ _ h)
      have q1 := ev_atA (t := 6) (n := n) (x := (n, .inr (.inr (.inr (.inr (fun j => (σ.2.2.2 k j).map (ev_ad g))))))) hR hk (by unfold ev_E; rw [hlay]; rfl)
      have q2 := (hCx.1.2 5 _ rfl).1
      have hvp := ev_in_vp hin
      have hlt : x.toNatClampNeg < n := Nat.not_le.mp fun q => hvp (Or.inr q)
      show W p l e _ s m args below meth c H locs cells slots Q (F0 m pc lc (.int x :: .ref (ev_ad g k) :: rest.map (ev_uv g)))
      rw [ev_ad_cell (Nat.lt_of_lt_of_le hk hR.2.2.2.1)]
      exact W.aald (v := va_rf ((σ.2.2.2 k x.toNatClampNeg).map (ev_ad g))) (ty := .array .int) hx hb q1 (q2 n (fun j => va_rf ((σ.2.2.2 k j).map (ev_ad g)))) rfl (fun q => by cases q) (by rw [vp_cell_q, arrV_size]; exact hvp) (by rw [vp_cell_q, arrV_read _ _ hlt]) rfl rfl hdg (by rw [← e1]; exact hW)
    · cases h
  · -- ldc
    rename_i idx
    split at h
    · rename_i v hlk
      refine ev_P.step (fun H lc locs cells slots Q hR hl hS hW => ?_) (hK _ _ _ _ h)
      exact lv_ldc hx hb hown (hts _ (hTK.1 _ _ _ hlk)) hdg hW
    · split at h
      · rename_i a hlk
        refine ev_P.step (fun H lc locs cells slots Q hR hl hS hW => ?_) (hK _ _ _ _ h)
        refine va_ldcS hx hb hown (hCx.2.2.2.2.1 _ _ _ hlk) hdg ?_
        have e1 : ev_ad g (900000 + 2 * a) = g.2.2.2.1 a := by
          unfold ev_ad
          rw [if_neg (by omega), if_pos (by omega)]
          exact congrArg g.2.2.2.1 (by omega)
        rw [← e1]
        exact hW
      · cases h
  · -- ldc_w
    rename_i idx
    split at h
    · rename_i v hlk
      refine ev_P.step (fun H lc locs cells slots Q hR hl hS hW => ?_) (hK _ _ _ _ h)
      exact lv_ldcw hx hb hown (hts _ (hTK.1 _ _ _ hlk)) hdg hW
    · split at h
      · rename_i a hlk
        refine ev_P.step (fun H lc locs cells slots Q hR hl hS hW => ?_) (hK _ _ _ _ h)
        refine ev_ldc_wS hx hb hown (hCx.2.2.2.2.1 _ _ _ hlk) hdg ?_
        have e1 : ev_ad g (900000 + 2 * a) = g.2.2.2.1 a := by
          unfold ev_ad
          rw [if_neg (by omega), if_pos (by omega)]
          exact congrArg g.2.2.2.1 (by omega)
        rw [← e1]
        exact hW
      · cases h
  · -- ldc2_w
    rename_i idx
    split at h
    · rename_i v hlk
      refine ev_P.step (fun H lc locs cells slots Q hR hl hS hW => ?_) (hK _ _ _ _ h)
      exact lv_ldc2 hx hb hown (hts _ (hTK.2.1 _ _ _ hlk)) hdg hW
    · cases h
  · cases h
end EVR
end
section
section EVS
variable {p : Program} {l : Launch} {e : Env} {R : Room} {s : State} {m : MethodId} {args : Array Value} {below : List Frame} {meth : Method} {c : Code} {g : ev_G} {sd : Bool} {d : Nat} {M : ev_Me} {σ0 : ev_S} {r : ev_R}
theorem ev_E_congr {σ τ : ev_S} {k : Nat} (h1 : σ.2.1 k = τ.2.1 k) (h2 : σ.2.2.1 k = τ.2.2.1 k) (h3 : σ.2.2.2 k = τ.2.2.2 k) : ev_E g σ k = ev_E g τ k := by
  unfold ev_E
  split
  · rename_i ci _
    have : ev_fldv g σ k ci = ev_fldv g τ k ci := by
      funext j
      unfold ev_fldv
      rw [h1, h3]
    rw [this]
  · rw [h2]
  · rw [h3]
  · rw [h3]
  · rw [h1]
theorem ev_up_ne {α : Type} {f : Nat → Nat → α} {k j q : Nat} {v : α} (h : q ≠ k) : ev_up f k j v q = f q := by
  funext b
  unfold ev_up
  rw [if_neg (fun z => h z.1)]
/-- one cell of the store is written -/
theorem ev_Rep_upd {σ τ : ev_S} {H H1 : Heap} {k : Nat} (hR : ev_Rep g σ H) (h1 : τ.1 = σ.1) (hz : H1.size = H.size) (ho : ∀ q : Nat, q ≠ g.2.1 + k → H1[q]? = H[q]?) (hat : va_at g.1 vwCl (g.2.1 + k, ev_E g τ k) H1) (hE : ∀ q, q ≠ k → ev_E g τ q = ev_E g σ q) : ev_Rep g τ H1 := by
  obtain ⟨r1, r2, r3, r4, r5⟩ := hR
  refine ⟨by rw [h1, hz]; exact r1, by rw [h1, hz]; exact r2, fun q hq => (ho q (by omega)).trans (r3 q hq), by rw [h1]; exact r4, fun q hq => ?_⟩
  by_cases hqk : q = k
  · subst hqk; exact hat
  · rw [hE q hqk]
    rw [h1] at hq
    exact (r5 q hq).kept (ho _ (fun z => hqk (by have : g.2.1 + q = g.2.1 + k := z; omega)))
/-- a step that writes one cell -/
theorem ev_P.wr {pc pc' : Nat} {ls st st' : List Value} {σ τ : ev_S} (h1 : τ.1 = σ.1) (h2 : sd = true → τ.2.2.2 = σ.2.2.2)
    (hw : ∀ (H : Heap) (lc : Array Slot) (locs : List Loc) (cells slots : Nat) (Q : State → Prop), ev_Rep g σ H → va_S (ev_A g) s.heap H locs → (∀ (H1 : Heap) (locs1 : List Loc), ev_Rep g τ H1 → va_S (ev_A g) s.heap H1 locs1 → W p l e (ev_rm d σ0 r.2) s m args below meth c H1 locs1 cells slots Q (F0 m pc' lc (st'.map (ev_uv g)))) → W p l e (ev_rm d σ0 r.2) s m args below meth c H locs cells slots Q (F0 m pc lc (st.map (ev_uv g))))
    (h : ev_P p l e s m args below meth c g sd d M σ0 r pc' ls st' τ) : ev_P p l e s m args below meth c g sd d M σ0 r pc ls st σ := by
  intro h0
  have e1 : ev_c τ = ev_c σ := by unfold ev_c; rw [h1]
  have e2 : ev_s τ = ev_s σ := by unfold ev_s; rw [h1]
  have hle : ev_le sd σ τ := ⟨Nat.le_of_eq e1.symm, Nat.le_of_eq e2.symm, fun z => ⟨by rw [h1], h2 z⟩⟩
  obtain ⟨g1, g2⟩ := h (h0.tr hle)
  rw [e1, e2] at g2
  exact ⟨hle.tr g1, fun H lc locs hR hl hS => hw H lc locs _ _ _ hR hS (fun H1 locs1 hR1 hS1 => g2 H1 lc locs1 hR1 hl hS1)⟩
/-- a step that writes one cell -/
theorem ev_P.wrl {pc pc' : Nat} {ls st st' : List Value} {σ τ : ev_S} (h1 : τ.1 = σ.1) (h2 : sd = true → τ.2.2.2 = σ.2.2.2)
    (hw : ∀ (H : Heap) (lc : Array Slot) (locs : List Loc) (cells slots : Nat) (Q : State → Prop), ev_Rep g σ H → ev_lv g lc M.2.2.1 ls → va_S (ev_A g) s.heap H locs → (∀ (H1 : Heap) (locs1 : List Loc), ev_Rep g τ H1 → va_S (ev_A g) s.heap H1 locs1 → W p l e (ev_rm d σ0 r.2) s m args below meth c H1 locs1 cells slots Q (F0 m pc' lc (st'.map (ev_uv g)))) → W p l e (ev_rm d σ0 r.2) s m args below meth c H locs cells slots Q (F0 m pc lc (st.map (ev_uv g))))
    (h : ev_P p l e s m args below meth c g sd d M σ0 r pc' ls st' τ) : ev_P p l e s m args below meth c g sd d M σ0 r pc ls st σ := by
  intro h0
  have e1 : ev_c τ = ev_c σ := by unfold ev_c; rw [h1]
  have e2 : ev_s τ = ev_s σ := by unfold ev_s; rw [h1]
  have hle : ev_le sd σ τ := ⟨Nat.le_of_eq e1.symm, Nat.le_of_eq e2.symm, fun z => ⟨by rw [h1], h2 z⟩⟩
  obtain ⟨g1, g2⟩ := h (h0.tr hle)
  rw [e1, e2] at g2
  exact ⟨hle.tr g1, fun H lc locs hR hl hS => hw H lc locs _ _ _ hR hl hS (fun H1 locs1 hR1 hS1 => g2 H1 lc locs1 hR1 hl hS1)⟩
/-- a putfield: v goes to the field j of the object k -/
theorem ev_putF (hTC : ev_TC) (hA : ev_At p g M s m args meth c) {ci j fin k idx pc : Nat} {σ τ : ev_S} {v : Value} (hci : ci < 11) (hj : j < (ev_cl ci).2.2) (hw : Cond.fieldLink (ev_cn M.2.2.2.2.1) idx (ev_cl ci).1 ((ev_cl ci).2.1 j).2.1 ((ev_cl ci).2.1 j).2.2.1 ∈ ev_gw) (hd : ((ev_cl ci).2.1 j).1 = (ev_cl ci).1) (hfin : ((ev_cl ci).2.1 j).2.2.2 = Nat.beq fin 1) (hini : (Nat.beq fin 1 && !(M.1.name == "<init>" && ci + 1 == M.2.2.2.2.1)) = false)
    (hk : k < σ.1.1) (hlay : ev_lay k = (0, ci)) (hn : narrow (ev_ft ci j) (ev_uv g v) = ev_uv g v) (hfit : fits (ev_ft ci j) (ev_uv g v) = true) (h1 : τ.1 = σ.1) (hE : ∀ q, q ≠ k → ev_E g τ q = ev_E g σ q) (hv : ∀ q, q < (ev_cl ci).2.2 → ev_fldv g τ k ci q = if q = j then ev_uv g v else ev_fldv g σ k ci q) (hdg : decode M.2.1 pc = .ok (.putfield idx, 3))
    {H : Heap} {lc : Array Slot} {locs : List Loc} {cells slots : Nat} {Q : State → Prop} {rest : List Value} (hR : ev_Rep g σ H) (hS : va_S (ev_A g) s.heap H locs)
    (kk : ∀ (H1 : Heap) (locs1 : List Loc), ev_Rep g τ H1 → va_S (ev_A g) s.heap H1 locs1 → W p l e R s m args below meth c H1 locs1 cells slots Q (F0 m (pc + 3) lc rest)) : W p l e R s m args below meth c H locs cells slots Q (F0 m pc lc (ev_uv g v :: .ref (ev_ad g k) :: rest)) := by
  obtain ⟨hx, hb, hml, hr, hlocks, hown, hnm, -, hts, hCx, hold, hb0⟩ := hA
  obtain ⟨c1, c2, c3, c4, c5, c6, c7⟩ := hTC ci hci
  obtain ⟨cell, q1, q2, q3, q4⟩ := ev_atO hTC hci hR hk hlay
  obtain ⟨hSl, hfc, kC, hkC, hkind⟩ := hCx.1.1 ci _ c1
  obtain ⟨cf, kf, fi, f, hi, hsl⟩ := hSl j hj
  have hap := va_apart (own := ev_cn M.2.2.2.2.1) hts c2 (ev_ft ci) c3 c4 hCx.1 c1
  have hst := (u_facts hfc hkC (u_lays hts c2 hj) hi).1
  rw [ev_ad_cell (Nat.lt_of_lt_of_le hk hR.2.2.2.1)]
  have done : ∀ H' : Heap, H'[g.2.1 + k]? = some (cell.setSlot (g.1.2 ci j) (ev_uv g v)) → H'.size = H.size → (∀ q, q ≠ g.2.1 + k → H'[q]? = H[q]?) → W p l e R s m args below meth c H' (locs ++ [⟨g.2.1 + k, g.1.2 ci j⟩]) cells slots Q (F0 m (pc + 3) lc rest) := by
    intro H' e1 e2 e3
    refine kk H' _ (ev_Rep_upd hR h1 e2 e3 ?_ hE) (hS.put e2 e3 (show g.2.1 ≤ g.2.1 + k by omega))
    unfold ev_E
    rw [hlay]
    refine ⟨_, c1, t_OB.to (V := updV (ev_fldv g σ k ci) j (ev_uv g v)) ⟨_, e1, q2, q3, t_set q4 hap hj (ev_uv g v)⟩ (fun q hq => ?_)⟩
    show updV (ev_fldv g σ k ci) j (ev_uv g v) q = ((List.range (ev_cl ci).2.2).map (ev_fldv g τ k ci)).getD q .null
    simp only [List.getD, List.getElem?_map, List.getElem?_range hq, Option.map_some, Option.getD_some]
    rw [hv q hq]
    by_cases z : q = j
    · simp [updV, z]
    · simp [updV, z]
  have hlay2 := hts _ (c2 _ (u_in_lay hj))
  unfold u_lay at hlay2
  cases hf1 : Nat.beq fin 1 with
  | false =>
    rw [if_neg (by rw [hfin, hf1]; decide)] at hlay2
    have h6 := u_store hfc hkC hkind hlay2 hi (c3 j hj) hn hfit
    refine W.putK hx hb (f := f) ⟨hown, hts _ hw, ⟨_, _, _, by rw [hd] at hi; exact hi⟩, hst⟩ (by rw [q2]; exact h6) q1 q3 (by rw [hsl]; exact k2_hasslot (q4 j hj)) rfl rfl hdg fun H' e1 e2 e3 => ?_
    rw [hsl] at e1 ⊢
    exact done H' e1 e2 e3
  | true =>
    rw [hf1] at hini
    simp only [Bool.true_and, Bool.not_eq_false', Bool.and_eq_true, beq_iff_eq] at hini
    rw [if_pos (by rw [hfin, hf1])] at hlay2
    have hcf : m.cls = cf := by
      obtain ⟨_, _, c', _, _, _, -, -, hf', -, -, -, hown2, -⟩ := Cond.laysFinal_spec hlay2
      have e1 : c' = cf := by have := hi.symm.trans hf'; simp at this; exact this.1.symm
      rw [hd, ← c5, hini.2] at hown2
      rw [← e1]; exact Option.some.inj (hown.symm.trans hown2)
    have h6 := u_fits hfc hkC hkind (Or.inr hlay2) hi (c3 j hj) hn hfit
    refine W.putFinK hx hb hown (hts _ hw) (by rw [hd] at hi; exact hi) hst hcf (hnm.trans hini.1) (by rw [q2]; exact h6) q1 q3 (by rw [hsl]; exact k2_hasslot (q4 j hj)) rfl rfl hdg fun H' e1 e2 e3 => ?_
    rw [hsl] at e1 ⊢
    exact done H' e1 e2 e3
theorem ev_nar_int (x : Int32) : narrow .int (.int x) = .int x := rfl
theorem ev_nar_ref {ty : FieldType} (h : (∃ n, ty = .object n) ∨ ∃ t, ty = .array t) (a : Nat) : narrow ty (.ref a) = .ref a ∧ fits ty (.ref a) = true := by
  rcases h with ⟨n, rfl⟩ | ⟨t, rfl⟩ <;> exact ⟨rfl, rfl⟩
theorem ev_fit_bool {x : Int32} (h : narrow .boolean (.int x) = .int x) : fits .boolean (.int x) = true := by
  rw [← h]
  simp only [narrow, fits]
  obtain ⟨j, hj, e⟩ := pk_andE x (m := 1) 1 (by decide)
  rw [e]
  rcases (show j = 0 ∨ j = 1 by omega) with rfl | rfl <;> decide
/-- an element of a row of ints is written -/
theorem ev_stI (hCx : ev_Cx g s) {k t n q : Nat} {ty : FieldType} {σ : ev_S} {y : Int32} {H H1 : Heap} (hR : ev_Rep g σ H) (hk : k < σ.1.1) (hlay : ev_lay k = (t, n)) (ht : t = 1 ∧ ty = .int ∨ t = 3 ∧ ty = .char ∨ t = 4 ∧ ty = .boolean) (e1 : H1[g.2.1 + k]? = some ((arrV (g.2.2.2.2.2.2 t) n (fun j => .int (σ.2.1 k j))).setSlot q (.int y))) (e2 : H1.size = H.size) (e3 : ∀ q, q ≠ g.2.1 + k → H1[q]? = H[q]?) : ev_Rep g (ev_putI σ k q y) H1 := by
  refine ev_Rep_upd (σ := σ) hR rfl e2 e3 ?_ (fun a ha => ev_E_congr (ev_up_ne ha) rfl rfl)
  have hE : ev_E g (ev_putI σ k q y) k = .inl (g.2.2.2.2.2.2 t, n, .inl (ev_up σ.2.1 k q y k)) := by
    unfold ev_E
    rw [hlay]
    rcases ht with ⟨rfl, -⟩ | ⟨rfl, -⟩ | ⟨rfl, -⟩ <;> rfl
  rw [hE]
  show H1[g.2.1 + k]? = some (vp_cell _ _)
  rw [e1, vp_cell_i, arrV_store]
  congr 2
  funext j
  by_cases hj : j = q
  · subst hj; simp [updV, ev_up]
  · simp [updV, ev_up, hj]
theorem ev_Rep_more {σ : ev_S} {H H1 : Heap} {x : Nat} (hR : ev_Rep g σ H) (ho : σ.1.2.1 = true) (hn : σ.1.1 < 900000) (hz : H1.size = H.size + 1) (hq : ∀ q : Nat, q < H.size → H1[q]? = H[q]?) (hat : va_at g.1 vwCl (g.2.1 + σ.1.1, ev_E g (ev_more σ x) σ.1.1) H1) : ev_Rep g (ev_more σ x) H1 := by
  obtain ⟨r1, r2, r3, r4, r5⟩ := hR
  have hs := r2 ho
  refine ⟨by show g.2.1 + (σ.1.1 + 1) ≤ _; omega, fun _ => by show H1.size = g.2.1 + (σ.1.1 + 1); omega, fun q h => (hq q (by omega)).trans (r3 q h), hn, fun k hk => ?_⟩
  have hk' : k < σ.1.1 + 1 := hk
  by_cases hkn : k = σ.1.1
  · subst hkn; exact hat
  · have hne : Nat.beq k σ.1.1 = false := by
      cases hb : Nat.beq k σ.1.1 with
      | false => rfl
      | true => exact absurd (Nat.eq_of_beq_eq_true hb) hkn
    rw [ev_E_congr (τ := σ) (by funext b; show (bif Nat.beq k σ.1.1 then _ else _) = _; rw [hne]; rfl) (by funext b; show (bif Nat.beq k σ.1.1 then _ else _) = _; rw [hne]; rfl) (by funext b; show (bif Nat.beq k σ.1.1 then _ else _) = _; rw [hne]; rfl)]
    exact (r5 k (by omega)).kept (hq _ (by show g.2.1 + k < H.size; omega))
theorem ev_more_at {σ : ev_S} {x b : Nat} : (ev_more σ x).2.1 σ.1.1 b = 0 ∧ (ev_more σ x).2.2.1 σ.1.1 b = 0 ∧ (ev_more σ x).2.2.2 σ.1.1 b = none := by
  have h : Nat.beq σ.1.1 σ.1.1 = true := Nat.beq_refl _
  refine ⟨?_, ?_, ?_⟩ <;> (show (bif Nat.beq σ.1.1 σ.1.1 then _ else _) = _; rw [h]; rfl)
theorem ev_S_more {H H1 : Heap} {locs : List Loc} (hS : va_S (ev_A g) s.heap H locs) (hz : H.size ≤ H1.size) (hq : ∀ q : Nat, q < H.size → H1[q]? = H[q]?) : va_S (ev_A g) s.heap H1 locs := ⟨Nat.le_trans hS.1 hz, fun q h1 h2 => (hq q (Nat.lt_of_lt_of_le h1 hS.1)).trans (hS.2.1 q h1 h2), hS.2.2⟩
/-- a step that makes a cell -/
theorem ev_P.al {pc pc' n : Nat} {ls st st' : List Value} {σ : ev_S} (hsd : sd = false)
    (hw : ∀ (H : Heap) (lc : Array Slot) (locs : List Loc) (cells slots : Nat) (Q : State → Prop), ev_Rep g σ H → va_S (ev_A g) s.heap H locs → cells + 1 ≤ ev_c r.2 - ev_c σ0 → slots + n ≤ ev_s r.2 - ev_s σ0 → (∀ (H1 : Heap), ev_Rep g (ev_more σ n) H1 → va_S (ev_A g) s.heap H1 locs → W p l e (ev_rm d σ0 r.2) s m args below meth c H1 locs (cells + 1) (slots + n) Q (F0 m pc' lc (st'.map (ev_uv g)))) → W p l e (ev_rm d σ0 r.2) s m args below meth c H locs cells slots Q (F0 m pc lc (st.map (ev_uv g))))
    (h : ev_P p l e s m args below meth c g sd d M σ0 r pc' ls st' (ev_more σ n)) : ev_P p l e s m args below meth c g sd d M σ0 r pc ls st σ := by
  intro h0
  have e1 : ev_c (ev_more σ n) = ev_c σ + 1 := rfl
  have e2 : ev_s (ev_more σ n) = ev_s σ + n := rfl
  have hle : ev_le sd σ (ev_more σ n) := ⟨by rw [e1]; omega, by rw [e2]; omega, fun z => by rw [hsd] at z; cases z⟩
  obtain ⟨g1, g2⟩ := h (h0.tr hle)
  have k1 := g1.1
  have k2 := g1.2.1
  have k3 := h0.1
  have k4 := h0.2.1
  rw [e1] at k1
  rw [e2] at k2
  rw [e1, e2, show ev_c σ + 1 - ev_c σ0 = ev_c σ - ev_c σ0 + 1 by omega, show ev_s σ + n - ev_s σ0 = ev_s σ - ev_s σ0 + n by omega] at g2
  exact ⟨hle.tr g1, fun H lc locs hR hl hS => hw H lc locs _ _ _ hR hS (by omega) (by omega) (fun H1 hR1 hS1 => g2 H1 lc locs hR1 hl hS1)⟩
theorem ev_N0_lt : ev_N0 < 900000 := by decide
/-- the tables' facts: what is made, what is thrown -/
def ev_TN : Prop := ∀ oc idx v, ev_lk (ev_nl oc) idx = some v → (v < 11 → Cond.classLink (ev_cn oc) idx (ev_cl v).1 ∈ ev_gw ∧ Cond.instantiable (ev_cl v).1 (ev_cl v).2.2 ∈ ev_gw ∧ Cond.initialized (ev_cl v).1 ∈ ev_gw) ∧ (v = 50 → Cond.classLink (ev_cn oc) idx "java/util/NoSuchElementException" ∈ ev_gw) ∧ (v = 60 → Cond.classLink (ev_cn oc) idx ("[" ++ (FieldType.array .int).toString) ∈ ev_gw)
def ev_thrN : List String := ["java/lang/RuntimeException", "java/lang/Exception"]
def ev_TX : Prop := (∀ w ∈ ev_atX (ev_cn ev_thrC.1) ev_thrC.2 "java/util/NoSuchElementException" 13 prog_30_method_4_code ev_thrN, (w ∈ ev_gw ∨ (w ∈ ev_nest ∧ w.onTables = true)) ∧ vx_ot w = true) ∧ Cond.initialized "java/util/NoSuchElementException" ∈ ev_gw
def ev_TA : Prop := Cond.arrayClass .int ∈ ev_gw ∧ Cond.arrayClass .long ∈ ev_gw ∧ Cond.arrayClass .char ∈ ev_gw ∧ Cond.arrayClass .boolean ∈ ev_gw
/-- the rows are the method's code -/
def ev_rows (M : ev_Me) : Prop := ∀ pc i n, ev_lk M.2.2.2.2.2.1 pc = some (i, n) → decode M.2.1 pc = .ok (i, ev_len pc i) ∧ ev_jok pc i = true
theorem ev_cat_sum {g : ev_G} (hf : g.2.2.2.2.2.1.category = 1) : ∀ st : List Value, ((st.map (ev_uv g)).map fun v => v.category).sum ≤ 2 * st.length
  | [] => by simp
  | v :: t => by
    have h1 := ev_cat_sum hf t
    have h2 : (ev_uv g v).category ≤ 2 := by rcases lv_cat (ev_uv g v) with h | h <;> omega
    simp only [List.map_cons, List.sum_cons, List.length_cons]
    omega
end EVS
end
section
section EVT
variable {p : Program} {l : Launch} {e : Env} {R : Room} {s : State} {m : MethodId} {args : Array Value} {below : List Frame} {meth : Method} {c : Code} {g : ev_G} {sd : Bool} {d : Nat} {M : ev_Me} {σ0 : ev_S} {r : ev_R}
theorem ev_ofNat_nn {n : Nat} (h : n < 1000) : ¬ Int32.ofNat n < 0 ∧ (Int32.ofNat n).toNatClampNeg = n := ⟨nI_pos (by omega), nI_clamp (by omega)⟩
theorem ev_moreN_facts (b : Nat) : ∀ (a : Nat) (σ : ev_S), (ev_moreN b a σ).1 = (σ.1.1 + a, σ.1.2.1, σ.1.2.2.1 + a, σ.1.2.2.2 + a * b) ∧ (∀ k, k < σ.1.1 → (ev_moreN b a σ).2.1 k = σ.2.1 k ∧ (ev_moreN b a σ).2.2.1 k = σ.2.2.1 k ∧ (ev_moreN b a σ).2.2.2 k = σ.2.2.2 k) ∧ (∀ j, j < a → (ev_moreN b a σ).2.1 (σ.1.1 + j) = fun _ => 0)
  | 0, σ => ⟨by simp [ev_moreN], fun k hk => ⟨rfl, rfl, rfl⟩, fun j hj => absurd hj (Nat.not_lt_zero j)⟩
  | a + 1, σ => by
    obtain ⟨h1, h2, h3⟩ := ev_moreN_facts b a σ
    have hn : (ev_moreN b a σ).1.1 = σ.1.1 + a := by rw [h1]
    have hb : ∀ k, k ≠ σ.1.1 + a → Nat.beq k (ev_moreN b a σ).1.1 = false := fun k hk => by
      cases hz : Nat.beq k (ev_moreN b a σ).1.1 with
      | false => rfl
      | true => exact absurd ((Nat.eq_of_beq_eq_true hz).trans hn) hk
    refine ⟨?_, fun k hk => ?_, fun j hj => ?_⟩
    · show ((ev_moreN b a σ).1.1 + 1, (ev_moreN b a σ).1.2.1, (ev_moreN b a σ).1.2.2.1 + 1, (ev_moreN b a σ).1.2.2.2 + b) = _
      rw [h1]
      simp only [Prod.mk.injEq, true_and]
      refine ⟨by omega, by omega, ?_⟩
      rw [Nat.succ_mul]; omega
    · obtain ⟨e1, e2, e3⟩ := h2 k hk
      have hz := hb k (by omega)
      refine ⟨?_, ?_, ?_⟩
      · rw [← e1]; funext q; show (bif Nat.beq k (ev_moreN b a σ).1.1 then _ else _) = _; rw [hz]; rfl
      · rw [← e2]; funext q; show (bif Nat.beq k (ev_moreN b a σ).1.1 then _ else _) = _; rw [hz]; rfl
      · rw [← e3]; funext q; show (bif Nat.beq k (ev_moreN b a σ).1.1 then _ else _) = _; rw [hz]; rfl
    · by_cases hja : j = a
      · subst hja
        funext q
        show (bif Nat.beq (σ.1.1 + j) (ev_moreN b j σ).1.1 then _ else _) = _
        rw [hn, Nat.beq_refl]; rfl
      · rw [← h3 j (by omega)]
        funext q
        show (bif Nat.beq (σ.1.1 + j) (ev_moreN b a σ).1.1 then _ else _) = _
        rw [hb _ (by omega)]; rfl
theorem ev_rowsOk_spec {b : Nat} : ∀ {a k : Nat}, ev_rowsOk b a k = true → ∀ j, j < a → ev_lay (k + j) = (1, b)
  | 0, _, _, j, hj => absurd hj (Nat.not_lt_zero j)
  | a + 1, k, h, j, hj => by
    unfold ev_rowsOk at h
    rw [Bool.and_eq_true] at h
    cases j with
    | zero => exact eq_of_beq h.1
    | succ j =>
      have := ev_rowsOk_spec h.2 j (by omega)
      rw [show k + (j + 1) = k + 1 + j by omega]
      exact this
/-- new int[a][b] -/
theorem ev_mna {cc : ByteArray} (hexec : p.tables.exec = Jvm.exec) (hb : c.code = cc) {H : Heap} {locs : List Loc} {cells slots : Nat} {Q : State → Prop} {pc : Nat} {ls : Array Slot} {rest : List Value} {own : String} {index : Nat} {cA cI : ClassId} (hown : s.vm.findClass own = some m.cls) (hclink : (Cond.classLink own index ("[" ++ (FieldType.array .int).toString)).before args s = true) (hover : (Cond.arrayOver (.array .int)).before args s = true) (harr : (Cond.arrayClass .int).before args s = true) (hcA : s.vm.findClass ("[" ++ (FieldType.array .int).toString) = some cA) (hcI : s.vm.findClass (FieldType.array .int).toString = some cI)
    {a b : Nat} (ha : a < 1000) (hb' : b < 1000) (hcells : cells + (1 + a) ≤ R.cells) (hslots : slots + (a + a * b) ≤ R.slots) (hdg : decode cc pc = .ok (.multianewarray index 2, 4))
    (kk : ∀ H1 : Heap, H1.size = H.size + 1 + a → H1[H.size]? = some (vp_cell cA (a, .inr (.inr (.inr (.inr (fun i => if i < a then some (H.size + 1 + i) else none)))))) → (∀ j, j < a → H1[H.size + 1 + j]? = some (vp_cell cI (b, .inl (fun _ => 0)))) → (∀ q : Nat, q < H.size → H1[q]? = H[q]?) →
      W p l e R s m args below meth c H1 locs (cells + 1 + a) (slots + a + a * b) Q (F0 m (pc + 4) ls (.ref H.size :: rest))) : W p l e R s m args below meth c H locs cells slots Q (F0 m pc ls (.int (Int32.ofNat b) :: .int (Int32.ofNat a) :: rest)) := by
  obtain ⟨a1, a2⟩ := ev_ofNat_nn ha
  obtain ⟨b1, b2⟩ := ev_ofNat_nn hb'
  intro T hT Xs
  obtain ⟨vm₁, cA', comp, -, fA, fC, hO, -, X', step⟩ := Xs.multianewarray2F hexec hown hclink hover harr (g := F0 m pc ls (.int (Int32.ofNat b) :: .int (Int32.ofNat a) :: rest)) rfl (by rw [hb]; exact hdg) rfl a1 b1 (by rw [a2]; omega) (by rw [b2]; simp [componentBytes]; omega) (by rw [b2]; omega) rfl rfl (by rw [a2]; exact hcells) (by rw [a2, b2]; exact hslots)
  have ec : some cI = some comp := hcI.symm.trans fC
  cases ec
  have ec2 : some cA = some cA' := hcA.symm.trans fA
  cases ec2
  rw [a2, b2] at X' step
  generalize hF : Jvm.Free.Multi.fill (T.setVm vm₁) cA cI a b (defaultValue .int) a = F at X' step
  have hTh : (T.setVm vm₁).heap = H := hT
  obtain ⟨f1, f2, -, -⟩ := Jvm.Free.Multi.fill_facts (T.setVm vm₁) cA cI a b (defaultValue .int) a
  rw [hF, hTh] at f1 f2
  obtain ⟨t, q1, q2⟩ := kk F.heap f1 (by rw [f2, vr_outer, vp_cell_q]) (fun j hj => by
    have := Jvm.Free.Multi.fill_inner (T.setVm vm₁) cA cI a b (defaultValue .int) a j hj
    rw [hF, hTh] at this
    rw [this, vp_cell_i, ← arrV_new]
    rfl) (fun x hx => by
    have := Jvm.Free.Multi.fill_old (T.setVm vm₁) cA cI a b (defaultValue .int) (a := x) (by rw [hTh]; exact hx) a
    rw [hF, hTh] at this
    exact this) F rfl X'
  refine ⟨t, step t ?_, q2⟩
  rw [hT]
  exact q1
end EVT
end
section
section EVU
variable {p : Program} {l : Launch} {e : Env} {R : Room} {s : State} {m : MethodId} {args : Array Value} {below : List Frame} {meth : Method} {c : Code} {g : ev_G} {sd : Bool} {d : Nat} {M : ev_Me} {σ0 : ev_S} {r : ev_R}
theorem ev_fldv_put {σ : ev_S} {k ci j q : Nat} {x : Int32} (hj : ev_isr ci j = false) : ev_fldv g (ev_putI σ k j x) k ci q = if q = j then .int x else ev_fldv g σ k ci q := by
  unfold ev_fldv
  by_cases h : q = j
  · subst h
    rw [hj, if_pos rfl]
    show Value.int (ev_up σ.2.1 k q x k q) = _
    simp [ev_up]
  · rw [if_neg h]
    have e1 : (ev_putI σ k j x).2.1 k q = σ.2.1 k q := by show ev_up σ.2.1 k j x k q = _; simp [ev_up, h]
    have e2 : (ev_putI σ k j x).2.2.2 k q = σ.2.2.2 k q := rfl
    rw [e1, e2]
theorem ev_fldv_putR {σ : ev_S} {k ci j q a : Nat} (hj : ev_isr ci j = true) : ev_fldv g (ev_putR σ k j (some a)) k ci q = if q = j then .ref (ev_ad g a) else ev_fldv g σ k ci q := by
  unfold ev_fldv
  by_cases h : q = j
  · subst h
    rw [hj, if_pos rfl]
    show va_rf ((ev_up σ.2.2.2 k q (some a) k q).map (ev_ad g)) = _
    simp [ev_up, va_rf]
  · rw [if_neg h]
    have e1 : (ev_putR σ k j (some a)).2.1 k q = σ.2.1 k q := rfl
    have e2 : (ev_putR σ k j (some a)).2.2.2 k q = σ.2.2.2 k q := by show ev_up σ.2.2.2 k j (some a) k q = _; simp [ev_up, h]
    rw [e1, e2]
theorem ev_notString {k : Nat} : ev_lay k ≠ (0, 20) := by
  intro z
  have : ∀ q ∈ ev_layL, q ≠ (0, 20) := by decide +kernel
  unfold ev_lay at z
  cases h : ev_nth ev_layL k with
  | none => rw [h] at z; cases z
  | some q => rw [h] at z; exact this q (ev_nth_mem h) z
set_option maxHeartbeats 4000000 in
theorem ev_put_ok (hTF : ev_TF) (hTC : ev_TC) (hA : ev_At p g M s m args meth c) {idx pc : Nat} {ls st : List Value} {σ : ev_S} (hdg : decode M.2.1 pc = .ok (.putfield idx, 3)) {K : ev_K} (hK : ∀ pc' ls' st' σ', K pc' ls' st' σ' = some r → ev_P p l e s m args below meth c g sd d M σ0 r pc' ls' st' σ')
    (h : ev_wr sd M K (.putfield idx) pc ls st σ = some r) : ev_P p l e s m args below meth c g sd d M σ0 r pc ls st σ := by
  unfold ev_wr at h
  simp only [] at h
  split at h
  rotate_left
  · cases h
  rename_i ci j kd fin hlk
  cases hini : (Nat.beq fin 1 && !(M.1.name == "<init>" && ci + 1 == M.2.2.2.2.1)) with
  | true => rw [hini] at h; cases h
  | false =>
    rw [hini] at h
    simp only [cond_false] at h
    split at h
    · rename_i x k rest
      cases hkd : ev_kd σ.1.1 k == (0, ci) with
      | false => rw [hkd] at h; cases h
      | true =>
        rw [hkd] at h
        obtain ⟨hk, hlay⟩ := ev_kd_cell (eq_of_beq hkd) (by omega)
        rcases hTF _ _ _ _ _ _ hlk with ⟨h1, h2, h3, h4, h5, h6, h7, h8⟩ | ⟨h1, -⟩
        rotate_left
        · rw [h1] at hlay; exact absurd hlay ev_notString
        cases hk0 : Nat.beq kd 0 with
        | true =>
          rw [hk0] at h
          simp only [cond_true] at h
          have e0 := Nat.eq_of_beq_eq_true hk0
          have hft := h6 e0
          have hisr : ev_isr ci j = false := by rw [← h5, e0]; rfl
          refine ev_P.wr (τ := ev_putI σ k j x) rfl (fun _ => rfl) (fun H lc locs cells slots Q hR hS hW => ?_) (hK _ _ _ _ h)
          exact ev_putF hTC hA (v := .int x) (σ := σ) (τ := ev_putI σ k j x) h1 h2 h3 h4 h8 hini hk hlay (by rw [hft]; rfl) (by rw [hft]; rfl) rfl (fun q hq => ev_E_congr (ev_up_ne hq) rfl rfl) (fun q _ => ev_fldv_put hisr) hdg hR hS hW
        | false =>
          rw [hk0] at h
          cases hk1 : Nat.beq kd 1 with
          | false => rw [hk1] at h; cases h
          | true =>
            rw [hk1] at h
            have e1 := Nat.eq_of_beq_eq_true hk1
            have hft := h7 e1
            have hisr : ev_isr ci j = false := by rw [← h5, e1]; rfl
            by_cases hfit : ev_fit .boolean x = true
            rotate_left
            · simp only [cond_true, cond_false] at h; rw [if_neg hfit] at h; cases h
            simp only [cond_true, cond_false] at h
            rw [if_pos hfit] at h
            have hn : narrow .boolean (.int x) = .int x := of_decide_eq_true hfit
            refine ev_P.wr (τ := ev_putI σ k j x) rfl (fun _ => rfl) (fun H lc locs cells slots Q hR hS hW => ?_) (hK _ _ _ _ h)
            exact ev_putF hTC hA (v := .int x) (σ := σ) (τ := ev_putI σ k j x) h1 h2 h3 h4 h8 hini hk hlay (by rw [hft]; exact hn) (by rw [hft]; exact ev_fit_bool hn) rfl (fun q hq => ev_E_congr (ev_up_ne hq) rfl rfl) (fun q _ => ev_fldv_put hisr) hdg hR hS hW
    · rename_i a k rest
      cases hkd : (!sd && ev_kd σ.1.1 k == (0, ci) && Nat.beq kd 2) with
      | false => rw [hkd] at h; cases h
      | true =>
        rw [hkd] at h
        simp only [cond_true] at h
        simp only [Bool.and_eq_true, Bool.not_eq_true'] at hkd
        obtain ⟨⟨hsd, hk9⟩, hk2⟩ := hkd
        obtain ⟨hk, hlay⟩ := ev_kd_cell (eq_of_beq hk9) (by omega)
        rcases hTF _ _ _ _ _ _ hlk with ⟨h1, h2, h3, h4, h5, h6, h7, h8⟩ | ⟨h1, -⟩
        rotate_left
        · rw [h1] at hlay; exact absurd hlay ev_notString
        have hisr : ev_isr ci j = true := by rw [← h5]; exact hk2
        obtain ⟨c1, c2, c3, c4, c5, c6, c7⟩ := hTC ci h1
        refine ev_P.wr (τ := ev_putR σ k j (some a)) rfl (fun z => by rw [hsd] at z; cases z) (fun H lc locs cells slots Q hR hS hW => ?_) (hK _ _ _ _ h)
        exact ev_putF hTC hA (v := .ref a) (σ := σ) (τ := ev_putR σ k j (some a)) h1 h2 h3 h4 h8 hini hk hlay (ev_nar_ref (c7 j h2 hisr) _).1 (ev_nar_ref (c7 j h2 hisr) _).2 rfl (fun q hq => ev_E_congr rfl rfl (ev_up_ne hq)) (fun q _ => ev_fldv_putR hisr) hdg hR hS hW
    · cases h
set_option maxHeartbeats 4000000 in
theorem ev_ast_ok (hTC : ev_TC) (hA : ev_At p g M s m args meth c) {i : Instr} {pc : Nat} {ls st : List Value} {σ : ev_S} (hi : i = .iastore ∨ i = .castore ∨ i = .bastore ∨ i = .lastore ∨ i = .aastore) (hdg : decode M.2.1 pc = .ok (i, ev_len pc i)) {K : ev_K} (hK : ∀ pc' ls' st' σ', K pc' ls' st' σ' = some r → ev_P p l e s m args below meth c g sd d M σ0 r pc' ls' st' σ')
    (h : ev_wr sd M K i pc ls st σ = some r) : ev_P p l e s m args below meth c g sd d M σ0 r pc ls st σ := by
  obtain ⟨hx, hb, hml, hr, hlocks, hown, hnm, -, hts, hCx, hold, hb0⟩ := hA
  rcases hi with rfl | rfl | rfl | rfl | rfl <;> unfold ev_wr at h <;> simp only [] at h
  · split at h
    rotate_left
    · cases h
    rename_i y x v rest
    unfold ev_sI at h
    split at h
    rotate_left
    · cases h
    rename_i k
    split at h
    rotate_left
    · cases h
    rename_i n hkd
    obtain ⟨hk, hlay⟩ := ev_kd_cell hkd (by omega)
    by_cases hin : ev_in x n = true
    rotate_left
    · rw [if_neg hin] at h; cases h
    rw [if_pos hin] at h
    refine ev_P.wr (τ := ev_putI σ k x.toNatClampNeg y) rfl (fun _ => rfl) (fun H lc locs cells slots Q hR hS hW => ?_) (hK _ _ _ _ h)
    obtain ⟨q1, q2⟩ := ev_rowI hCx hR hk hlay (Or.inl ⟨rfl, rfl⟩)
    show W p l e _ s m args below meth c H locs cells slots Q (F0 m pc lc (.int y :: .int x :: .ref (ev_ad g k) :: rest.map (ev_uv g)))
    rw [ev_ad_cell (Nat.lt_of_lt_of_le hk hR.2.2.2.1)]
    refine W.iast hx hb q1 (q2 n _) (fun q => by cases q) (by rw [arrV_size]; exact ev_in_vp hin) rfl rfl hdg fun H1 e1 e2 e3 => ?_
    exact hW H1 _ (ev_stI hCx hR hk hlay (Or.inl ⟨rfl, rfl⟩) e1 e2 e3) (hS.put e2 e3 (show g.2.1 ≤ g.2.1 + k by omega))
  · split at h
    rotate_left
    · cases h
    rename_i y x k rest
    split at h
    rotate_left
    · cases h
    rename_i n hkd
    obtain ⟨hk, hlay⟩ := ev_kd_cell hkd (by omega)
    by_cases hin : ev_in x n = true
    rotate_left
    · rw [if_neg hin] at h; cases h
    rw [if_pos hin] at h
    refine ev_P.wr (τ := ev_putI σ k x.toNatClampNeg (vp_nar .char y)) rfl (fun _ => rfl) (fun H lc locs cells slots Q hR hS hW => ?_) (hK _ _ _ _ h)
    obtain ⟨q1, q2⟩ := ev_rowI hCx hR hk hlay (Or.inr (Or.inl ⟨rfl, rfl⟩))
    show W p l e _ s m args below meth c H locs cells slots Q (F0 m pc lc (.int y :: .int x :: .ref (ev_ad g k) :: rest.map (ev_uv g)))
    rw [ev_ad_cell (Nat.lt_of_lt_of_le hk hR.2.2.2.1)]
    refine W.cast hx hb q1 (q2 n _) (fun q => by cases q) (by rw [arrV_size]; exact ev_in_vp hin) rfl rfl hdg fun H1 e1 e2 e3 => ?_
    exact hW H1 _ (ev_stI hCx hR hk hlay (Or.inr (Or.inl ⟨rfl, rfl⟩)) (by rw [e1]; rfl) e2 e3) (hS.put e2 e3 (show g.2.1 ≤ g.2.1 + k by omega))
  · split at h
    rotate_left
    · cases h
    rename_i y x k rest
    split at h
    rotate_left
    · cases h
    rename_i n hkd
    obtain ⟨hk, hlay⟩ := ev_kd_cell hkd (by omega)
    by_cases hin : ev_in x n = true
    rotate_left
    · rw [if_neg hin] at h; cases h
    rw [if_pos hin] at h
    refine ev_P.wr (τ := ev_putI σ k x.toNatClampNeg (vp_nar .boolean y)) rfl (fun _ => rfl) (fun H lc locs cells slots Q hR hS hW => ?_) (hK _ _ _ _ h)
    obtain ⟨q1, q2⟩ := ev_rowI hCx hR hk hlay (Or.inr (Or.inr ⟨rfl, rfl⟩))
    show W p l e _ s m args below meth c H locs cells slots Q (F0 m pc lc (.int y :: .int x :: .ref (ev_ad g k) :: rest.map (ev_uv g)))
    rw [ev_ad_cell (Nat.lt_of_lt_of_le hk hR.2.2.2.1)]
    refine W.zast hx hb q1 (q2 n _) (fun q => by cases q) (by rw [arrV_size]; exact ev_in_vp hin) rfl rfl hdg fun H1 e1 e2 e3 => ?_
    exact hW H1 _ (ev_stI hCx hR hk hlay (Or.inr (Or.inr ⟨rfl, rfl⟩)) (by rw [e1]; rfl) e2 e3) (hS.put e2 e3 (show g.2.1 ≤ g.2.1 + k by omega))
  · split at h
    rotate_left
    · cases h
    rename_i y x k rest
    split at h
    rotate_left
    · cases h
    rename_i n hkd
    obtain ⟨hk, hlay⟩ := ev_kd_cell hkd (by omega)
    by_cases hin : ev_in x n = true
    rotate_left
    · rw [if_neg hin] at h; cases h
    rw [if_pos hin] at h
    refine ev_P.wr (τ := ev_putL σ k x.toNatClampNeg y) rfl (fun _ => rfl) (fun H lc locs cells slots Q hR hS hW => ?_) (hK _ _ _ _ h)
    have q1 := ev_atA (t := 2) (n := n) (x := (n, .inr (.inl (σ.2.2.1 k)))) hR hk (by unfold ev_E; rw [hlay]; rfl)
    have q2 := (hCx.1.2 1 _ rfl).1
    show W p l e _ s m args below meth c H locs cells slots Q (F0 m pc lc (.long y :: .int x :: .ref (ev_ad g k) :: rest.map (ev_uv g)))
    rw [ev_ad_cell (Nat.lt_of_lt_of_le hk hR.2.2.2.1)]
    refine W.last hx hb q1 (q2 n (fun j => .long (σ.2.2.1 k j))) (fun q => by cases q) (by rw [vp_cell_l, arrV_size]; exact ev_in_vp hin) rfl rfl hdg fun H1 e1 e2 e3 => ?_
    refine hW H1 _ (ev_Rep_upd (σ := σ) hR rfl e2 e3 ?_ (fun a ha => ev_E_congr rfl (ev_up_ne ha) rfl)) (hS.put e2 e3 (show g.2.1 ≤ g.2.1 + k by omega))
    have hE : ev_E g (ev_putL σ k x.toNatClampNeg y) k = .inl (g.2.2.2.2.2.2 2, n, .inr (.inl (ev_up σ.2.2.1 k x.toNatClampNeg y k))) := by
      unfold ev_E
      rw [hlay]; rfl
    rw [hE]
    show H1[g.2.1 + k]? = some (vp_cell _ _)
    rw [e1, vp_cell_l, vp_cell_l, arrV_store]
    congr 2
    funext q
    by_cases hq : q = x.toNatClampNeg
    · subst hq; simp [updV, ev_up]
    · simp [updV, ev_up, hq]
  · split at h
    rotate_left
    · cases h
    rename_i a x k rest
    split at h
    rotate_left
    · cases h
    rename_i n hkd
    obtain ⟨hk, hlay⟩ := ev_kd_cell hkd (by omega)
    cases hka : (!sd && ev_kd σ.1.1 a == (0, 6)) with
    | false => rw [hka] at h; cases h
    | true =>
      rw [hka] at h
      simp only [Bool.and_eq_true, Bool.not_eq_true'] at hka
      obtain ⟨hsd, hka⟩ := hka
      obtain ⟨ha, hlaya⟩ := ev_kd_cell (eq_of_beq hka) (by omega)
      by_cases hin : ev_in x n = true
      rotate_left
      · simp only [cond_true] at h; rw [if_neg hin] at h; cases h
      simp only [cond_true] at h
      rw [if_pos hin] at h
      refine ev_P.wr (τ := ev_putR σ k x.toNatClampNeg (some a)) rfl (fun z => by rw [hsd] at z; cases z) (fun H lc locs cells slots Q hR hS hW => ?_) (hK _ _ _ _ h)
      have q1 := ev_atA (t := 5) (n := n) (x := (n, .inr (.inr (.inr (.inr (fun j => (σ.2.2.2 k j).map (ev_ad g))))))) hR hk (by unfold ev_E; rw [hlay]; rfl)
      obtain ⟨c1, -⟩ := hTC 6 (by omega)
      obtain ⟨cellV, g1, g2, g3, -⟩ := ev_atO hTC (by omega) hR ha hlaya
      have hcls := (hCx.1.1 6 _ c1).2
      obtain ⟨kA, comp, k1, k2, k3, -⟩ := (hCx.1.2 4 _ rfl).2
      have hcomp : comp = g.1.1 6 := Option.some.inj (k3.symm.trans hcls.1)
      subst hcomp
      obtain ⟨kC, hkC, -⟩ := hcls.2
      have hvp := ev_in_vp hin
      have hlt : x.toNatClampNeg < n := Nat.not_le.mp fun q => hvp (Or.inr q)
      show W p l e _ s m args below meth c H locs cells slots Q (F0 m pc lc (.ref (ev_ad g a) :: .int x :: .ref (ev_ad g k) :: rest.map (ev_uv g)))
      rw [ev_ad_cell (Nat.lt_of_lt_of_le hk hR.2.2.2.1), ev_ad_cell (Nat.lt_of_lt_of_le ha hR.2.2.2.1)]
      refine W.aast hx hb q1 (fun q h => by cases h) (fun h => by cases h) k1 k2 rfl hkC ⟨fun z => hvp (Or.inl z), by show _ < (arrV _ _ _).slots.size; rw [arrV_size]; exact hlt⟩ g1 (fun q h => by rw [g3] at h; cases h) (by rw [g2]; exact hkC) (by rw [g2]; exact va_assign hcls) rfl rfl hdg fun H1 e1 e2 e3 => ?_
      refine hW H1 _ (ev_Rep_upd (σ := σ) hR rfl e2 e3 ?_ (fun b hb => ev_E_congr rfl rfl (ev_up_ne hb))) (hS.put e2 e3 (show g.2.1 ≤ g.2.1 + k by omega))
      have hE : ev_E g (ev_putR σ k x.toNatClampNeg (some a)) k = .inl (g.2.2.2.2.2.2 5, n, .inr (.inr (.inr (.inr (fun j => (ev_up σ.2.2.2 k x.toNatClampNeg (some a) k j).map (ev_ad g)))))) := by
        unfold ev_E
        rw [hlay]; rfl
      rw [hE]
      show H1[g.2.1 + k]? = some (vp_cell _ _)
      rw [e1, vp_cell_q, vp_cell_q, arrV_store]
      congr 2
      funext q
      by_cases hq : q = x.toNatClampNeg
      · subst hq; simp [updV, ev_up, va_rf, ev_ad_cell (Nat.lt_of_lt_of_le ha hR.2.2.2.1)]
      · simp [updV, ev_up, hq]
end EVU
end
section
section EVV
variable {p : Program} {l : Launch} {e : Env} {R : Room} {s : State} {m : MethodId} {args : Array Value} {below : List Frame} {meth : Method} {c : Code} {g : ev_G} {sd : Bool} {d : Nat} {M : ev_Me} {σ0 : ev_S} {r : ev_R}
theorem va_any9 {U : State} {A A' : Array Value} {t : FieldType} (h : (Cond.arrayOver t).before A U = true) : (Cond.arrayOver t).before A' U = true := h
theorem ev_lay_lt11 {k ci : Nat} (h : ev_lay k = (0, ci)) : ci < 11 := by
  have : ∀ q ∈ ev_layL, q.1 = 0 → q.2 < 11 := by decide +kernel
  unfold ev_lay at h
  cases hn : ev_nth ev_layL k with
  | none => rw [hn] at h; cases h
  | some q =>
    rw [hn] at h
    have h' : q = (0, ci) := h
    have := this q (ev_nth_mem hn) (by rw [h'])
    rw [h'] at this
    exact this
/-- the words of a throw at the method's entry -/
theorem ev_thr_words (hTX : ev_TX) (hA : ev_At p g M s m args meth c) : ∀ w ∈ ev_atX (ev_cn ev_thrC.1) ev_thrC.2 "java/util/NoSuchElementException" 13 prog_30_method_4_code ev_thrN, w.before args s = true := by
  obtain ⟨hx, hb, hml, hr, hlocks, hown, hnm, hexc, hts, hCx, hold, hb0⟩ := hA
  intro w hw
  rcases (hTX.1 w hw).1 with h | ⟨h, h2⟩
  · exact hts w h
  · exact va_Nw.use h2 (hCx.2.2.2.1 w h)
set_option maxHeartbeats 4000000 in
theorem ev_new_ok (hl0 : l.stackTraces = false) (hTC : ev_TC) (hTN : ev_TN) (hTX : ev_TX) (hrows : ev_rows M) (hA : ev_At p g M s m args meth c) {idx pc : Nat} {ls st : List Value} {σ : ev_S} (hdg : decode M.2.1 pc = .ok (.new idx, 3)) {K : ev_K} (hK : ∀ pc' ls' st' σ', K pc' ls' st' σ' = some r → ev_P p l e s m args below meth c g sd d M σ0 r pc' ls' st' σ')
    (h : ev_wr sd M K (.new idx) pc ls st σ = some r) : ev_P p l e s m args below meth c g sd d M σ0 r pc ls st σ := by
  have hA0 := hA
  obtain ⟨hx, hb, hml, hr, hlocks, hown, hnm, hexc, hts, hCx, hold, hb0⟩ := hA
  have hgl : ∀ a : Nat, a < g.2.2.1.size → ¬ ev_A g a → s.heap[a]? = g.2.2.1[a]? := fun a _ h2 => hold a (Nat.lt_of_not_le h2)
  have hf := hCx.2.2.2.2.2.2.2.2.2.2
  unfold ev_wr at h
  simp only [] at h
  split at h
  · -- a throw
    rename_i hlk
    cases hth : ev_isThrow M pc && Nat.ble st.length 4 with
    | false => rw [hth] at h; cases h
    | true =>
      rw [hth] at h
      simp only [cond_true] at h
      rw [Bool.and_eq_true] at hth
      obtain ⟨hth, hst⟩ := hth
      have hst4 := Nat.le_of_ble_eq_true hst
      cases h
      have hck := (hTN _ _ _ hlk).2.1 rfl
      unfold ev_isThrow at hth
      rw [Bool.and_eq_true] at hth
      obtain ⟨hoc, hth⟩ := hth
      have eoc := Nat.eq_of_beq_eq_true hoc
      intro h0
      have hle : ev_le sd σ (((σ.1.1, false, σ.1.2.2.1 + 1, σ.1.2.2.2 + 6), σ.2) : ev_S) := ⟨Nat.le_succ _, Nat.le_add_right _ _, fun _ => ⟨rfl, rfl⟩⟩
      refine ⟨hle, fun H lc locs hR hl hS => ?_⟩
      have k3 := h0.1
      have k4 := h0.2.1
      have e1 : ev_c (((σ.1.1, false, σ.1.2.2.1 + 1, σ.1.2.2.2 + 6), σ.2) : ev_S) = ev_c σ + 1 := rfl
      have e2 : ev_s (((σ.1.1, false, σ.1.2.2.1 + 1, σ.1.2.2.2 + 6), σ.2) : ev_S) = ev_s σ + 6 := rfl
      have hrest := ev_cat_sum hf st
      have hw := ev_thr_words hTX hA0
      have hgood : ∀ w ∈ Cond.classLink (ev_cn M.2.2.2.2.1) idx "java/util/NoSuchElementException" :: Cond.initialized "java/util/NoSuchElementException" :: ev_atX (ev_cn M.2.2.2.2.1) ev_thrC.2 "java/util/NoSuchElementException" 13 prog_30_method_4_code ev_thrN, vx_ot w = true := by
        intro w hw2
        rcases List.mem_cons.mp hw2 with rfl | hw2
        · rfl
        · rcases List.mem_cons.mp hw2 with rfl | hw2
          · rfl
          · rw [eoc] at hw2
            exact (hTX.1 w hw2).2
      have hX : ∀ t : State, s.vm.Alike t.vm → H.size ≤ t.heap.size → (∀ q : Nat, q < H.size → t.heap[q]? = H[q]?) → ev_XC g (none, (((σ.1.1, false, σ.1.2.2.1 + 1, σ.1.2.2.2 + 6), σ.2) : ev_S)) "java/util/NoSuchElementException" s t := by
        intro t _ hz hq
        obtain ⟨r1, r2, r3, r4, r5⟩ := hR
        refine ⟨rfl, rfl, Nat.le_trans r1 hz, fun z => (by cases z), fun q hq1 => (hq q (by omega)).trans (r3 q hq1), r4, fun k hk => ?_⟩
        have hE : ev_E g (((σ.1.1, false, σ.1.2.2.1 + 1, σ.1.2.2.2 + 6), σ.2) : ev_S) k = ev_E g σ k := ev_E_congr rfl rfl rfl
        rw [hE]
        have hk' : k < σ.1.1 := hk
        exact (r5 k hk').kept (hq _ (by show g.2.1 + k < H.size; omega))
      have hU := vx_Zq.kept hCx.2.2.2.2.2.2.2.2.1 hgl
      have hN := vx_Zq.kept hCx.2.2.2.2.2.2.2.2.2.1 hgl
      split at hth
      rotate_left
      · cases hth
      rename_i n3 hd3
      split at hth
      · rename_i is n4 hd4
        split at hth
        rotate_left
        · cases hth
        rename_i ic n6 n9 hd6 hd9
        rw [Bool.and_eq_true] at hth
        have eic := Nat.eq_of_beq_eq_true hth.1
        obtain ⟨a, ha⟩ := Option.isSome_iff_exists.mp hth.2
        have hd3' := (hrows _ _ _ hd3).1
        have hd4' := (hrows _ _ _ hd4).1
        have hd6' := (hrows _ _ _ hd6).1
        have hd9' := (hrows _ _ _ hd9).1
        subst eic
        exact ev_throwS hx hb hl0 (ix := 13) (rx := prog_30_method_4_code) (by decide +kernel) (by decide +kernel) (by decide +kernel) (by decide +kernel) (own := ev_cn M.2.2.2.2.1) (cls := "java/util/NoSuchElementException") (names := ev_thrN) (ik := idx) (is := is) (ic := ev_thrC.2) (A := ev_A g) hown (by decide) (by decide) (hts _ hck) (hts _ hTX.2) (hCx.2.2.2.2.1 _ _ _ ha) (by rw [eoc]; exact hw) hgood hU hN hS (hl.1.trans hml.symm) hdg hd3' hd4' hd6' hd9' (fun x hx9 => hexc x hx9 _)
          (by show 2 + 3 < d + 10; omega) (by show _ + (13 * (2 + 1) + 43) ≤ 100 * d + 400; omega) (by show _ + 1 ≤ ev_c _ - ev_c σ0; rw [e1]; omega) (by show _ + 6 ≤ ev_s _ - ev_s σ0; rw [e2]; omega) hlocks hX hS.2.2 (by rw [e1]; omega) (by rw [e2]; omega)
      · rename_i is n4 hd4
        split at hth
        rotate_left
        · cases hth
        rename_i ic n6 n9 hd6 hd9
        rw [Bool.and_eq_true] at hth
        have eic := Nat.eq_of_beq_eq_true hth.1
        obtain ⟨a, ha⟩ := Option.isSome_iff_exists.mp hth.2
        have hd3' := (hrows _ _ _ hd3).1
        have hd4' := (hrows _ _ _ hd4).1
        have hd6' := (hrows _ _ _ hd6).1
        have hd9' := (hrows _ _ _ hd9).1
        subst eic
        exact ev_throwSW hx hb hl0 (ix := 13) (rx := prog_30_method_4_code) (by decide +kernel) (by decide +kernel) (by decide +kernel) (by decide +kernel) (own := ev_cn M.2.2.2.2.1) (cls := "java/util/NoSuchElementException") (names := ev_thrN) (ik := idx) (is := is) (ic := ev_thrC.2) (A := ev_A g) hown (by decide) (by decide) (hts _ hck) (hts _ hTX.2) (hCx.2.2.2.2.1 _ _ _ ha) (by rw [eoc]; exact hw) hgood hU hN hS (hl.1.trans hml.symm) hdg hd3' hd4' hd6' hd9' (fun x hx9 => hexc x hx9 _)
          (by show 2 + 3 < d + 10; omega) (by show _ + (13 * (2 + 1) + 43) ≤ 100 * d + 400; omega) (by show _ + 1 ≤ ev_c _ - ev_c σ0; rw [e1]; omega) (by show _ + 6 ≤ ev_s _ - ev_s σ0; rw [e2]; omega) hlocks hX hS.2.2 (by rw [e1]; omega) (by rw [e2]; omega)
      · cases hth
  · -- an object
    rename_i ci _ hlk
    cases hc : (!sd && σ.1.2.1 && (ev_lay σ.1.1 == (0, ci)) && Nat.blt σ.1.1 ev_N0 && Nat.blt ci 11) with
    | false => rw [hc] at h; cases h
    | true =>
      rw [hc] at h
      simp only [cond_true] at h
      simp only [Bool.and_eq_true, Bool.not_eq_true'] at hc
      obtain ⟨⟨⟨⟨hsd, hop⟩, hly⟩, hN0⟩, h11⟩ := hc
      have hci : ci < 11 := ev_blt h11
      have hlay : ev_lay σ.1.1 = (0, ci) := eq_of_beq hly
      obtain ⟨w1, w2, w3⟩ := (hTN _ _ _ hlk).1 hci
      obtain ⟨c1, c2, c3, c4, c5, c6, c7⟩ := hTC ci hci
      have hKn := hCx.1.1 ci _ c1
      refine ev_P.al hsd (fun H lc locs cells slots Q hR hS hcells hslots hW => ?_) (hK _ _ _ _ h)
      have hsz := hR.2.1 hop
      have had : ev_ad g σ.1.1 = H.size := by rw [hsz]; exact ev_ad_cell (Nat.lt_trans (ev_blt hN0) ev_N0_lt)
      have hW' : ∀ H1 : Heap, ev_Rep g (ev_more σ (ev_cl ci).2.2) H1 → va_S (ev_A g) s.heap H1 locs → W p l e (ev_rm d σ0 r.2) s m args below meth c H1 locs (cells + 1) (slots + (ev_cl ci).2.2) Q (F0 m (pc + 3) lc (.ref H.size :: st.map (ev_uv g))) := by
        intro H1 a1 a2
        rw [← had]
        exact hW H1 a1 a2
      refine W.newcK hx hb hown (hts _ w1) (hts _ w2) (hts _ w3) rfl hdg hcells hslots hKn.2.1 rfl fun H1 kC hkC e1 z1 o1 => ?_
      refine hW' H1 (ev_Rep_more hR hop (Nat.lt_trans (ev_blt hN0) ev_N0_lt) z1 o1 ?_) (ev_S_more hS (by omega) o1)
      unfold ev_E
      rw [hlay]
      rw [hsz] at e1
      refine ⟨_, c1, (u_born (ev_ft ci) hts c2 hKn hkC e1 c3).to (fun j hj => ?_)⟩
      show defaultValue (ev_ft ci j) = ((List.range (ev_cl ci).2.2).map (ev_fldv g (ev_more σ (ev_cl ci).2.2) σ.1.1 ci)).getD j .null
      simp only [List.getD, List.getElem?_map, List.getElem?_range hj, Option.map_some, Option.getD_some]
      rw [c6 j hj]
      unfold ev_fldv
      rw [(ev_more_at (b := j)).1, (ev_more_at (b := j)).2.2]
      rfl
  · cases h
set_option maxHeartbeats 4000000 in
theorem ev_arr_ok (hTN : ev_TN) (hTA : ev_TA) (hA : ev_At p g M s m args meth c) {i : Instr} {pc : Nat} {ls st : List Value} {σ : ev_S} (hi : (∃ ty, i = .newarray ty) ∨ (∃ idx, i = .anewarray idx) ∨ (∃ idx k, i = .multianewarray idx k)) (hdg : decode M.2.1 pc = .ok (i, ev_len pc i)) {K : ev_K} (hK : ∀ pc' ls' st' σ', K pc' ls' st' σ' = some r → ev_P p l e s m args below meth c g sd d M σ0 r pc' ls' st' σ')
    (h : ev_wr sd M K i pc ls st σ = some r) : ev_P p l e s m args below meth c g sd d M σ0 r pc ls st σ := by
  obtain ⟨hx, hb, hml, hr, hlocks, hown, hnm, hexc, hts, hCx, hold, hb0⟩ := hA
  rcases hi with ⟨ty, rfl⟩ | ⟨idx, rfl⟩ | ⟨idx, k, rfl⟩
  · unfold ev_wr at h
    simp only [] at h
    split at h
    rotate_left
    · cases h
    rename_i x rest
    rcases hlay : ev_lay σ.1.1 with ⟨kd, n⟩
    simp only [hlay] at h
    have fin : ∀ (t : Nat) (fty : FieldType) (a0 : vp_A), kd = t → newarray.typeOf ty = fty → σ.1.2.1 = true → sd = false → σ.1.1 < ev_N0 → n < 1000 → x = Int32.ofNat n → Cond.arrayClass fty ∈ ev_gw → s.vm.findClass ("[" ++ fty.toString) = some (g.2.2.2.2.2.2 t) → componentBytes fty ≤ 8 → (∀ cA : ClassId, vp_cell cA a0 = arrV cA n (fun _ => defaultValue fty)) → (ev_E g (ev_more σ n) σ.1.1 = .inl (g.2.2.2.2.2.2 t, a0)) → K (pc + 2) ls (.ref σ.1.1 :: rest) (ev_more σ n) = some r → ev_P p l e s m args below meth c g sd d M σ0 r pc ls (.int x :: rest) σ := by
      intro t fty a0 ht hty hop hsd hN0 hn hxe hw hfc hcb ha0 hE h
      refine ev_P.al hsd (fun H lc locs cells slots Q hR hS hcells hslots hW => ?_) (hK _ _ _ _ h)
      have hsz := hR.2.1 hop
      have had : ev_ad g σ.1.1 = H.size := by rw [hsz]; exact ev_ad_cell (Nat.lt_trans hN0 ev_N0_lt)
      have hW' : ∀ H1 : Heap, ev_Rep g (ev_more σ n) H1 → va_S (ev_A g) s.heap H1 locs → W p l e (ev_rm d σ0 r.2) s m args below meth c H1 locs (cells + 1) (slots + n) Q (F0 m (pc + 2) lc (.ref H.size :: rest.map (ev_uv g))) := by
        intro H1 a1 a2
        rw [← had]
        exact hW H1 a1 a2
      subst hxe
      subst hty
      obtain ⟨b1, b2⟩ := ev_ofNat_nn hn
      refine va_newaK hx hb (hts _ hw) rfl hdg rfl b1 b2 (by have : n * componentBytes (newarray.typeOf ty) ≤ 1000 * 8 := Nat.mul_le_mul (by omega) hcb; omega) hcells hslots rfl fun H1 cA e1 z1 o1 hAr hNm => ?_
      have ecA : cA = g.2.2.2.2.2.2 t := Option.some.inj (hNm.symm.trans hfc)
      subst ecA
      refine hW' H1 (ev_Rep_more hR hop (Nat.lt_trans hN0 ev_N0_lt) z1 o1 ?_) (ev_S_more hS (by omega) o1)
      rw [hE]
      show H1[g.2.1 + σ.1.1]? = some (vp_cell _ _)
      rw [ha0, ← hsz]
      exact e1
    cases hc : (!sd && σ.1.2.1 && Nat.blt σ.1.1 ev_N0 && ev_aty ty kd && decide (x = Int32.ofNat n) && Nat.blt n 1000) with
    | false => rw [hc] at h; cases h
    | true =>
      rw [hc] at h
      simp only [cond_true] at h
      simp only [Bool.and_eq_true, Bool.not_eq_true', decide_eq_true_eq] at hc
      obtain ⟨⟨⟨⟨⟨hsd, hop⟩, hN0⟩, hty⟩, hxe⟩, hn⟩ := hc
      have m0 : (ev_more σ n).2.1 σ.1.1 = fun _ => 0 := funext fun b => ev_more_at.1
      have m1 : (ev_more σ n).2.2.1 σ.1.1 = fun _ => 0 := funext fun b => ev_more_at.2.1
      unfold ev_aty at hty
      split at hty
      · exact fin 1 .int (n, .inl (fun _ => 0)) rfl rfl hop hsd (ev_blt hN0) (ev_blt hn) hxe hTA.1 (hCx.1.2 0 _ rfl).2 (by decide) (fun cA => rfl) (by unfold ev_E; rw [hlay]; show Sum.inl _ = _; rw [m0]) h
      · exact fin 2 .long (n, .inr (.inl (fun _ => 0))) rfl rfl hop hsd (ev_blt hN0) (ev_blt hn) hxe hTA.2.1 (hCx.1.2 1 _ rfl).2 (by decide) (fun cA => rfl) (by unfold ev_E; rw [hlay]; show Sum.inl _ = _; rw [m1]) h
      · exact fin 3 .char (n, .inl (fun _ => 0)) rfl rfl hop hsd (ev_blt hN0) (ev_blt hn) hxe hTA.2.2.1 (hCx.1.2 2 _ rfl).2 (by decide) (fun cA => rfl) (by unfold ev_E; rw [hlay]; show Sum.inl _ = _; rw [m0]) h
      · exact fin 4 .boolean (n, .inl (fun _ => 0)) rfl rfl hop hsd (ev_blt hN0) (ev_blt hn) hxe hTA.2.2.2 (hCx.1.2 3 _ rfl).2 (by decide) (fun cA => rfl) (by unfold ev_E; rw [hlay]; show Sum.inl _ = _; rw [m0]) h
      · cases hty
  · unfold ev_wr at h
    simp only [] at h
    split at h
    rotate_left
    · cases h
    rename_i x rest hlk
    split at h
    rotate_left
    · cases h
    rename_i n hlay
    cases hc : (!sd && σ.1.2.1 && Nat.blt σ.1.1 ev_N0 && decide (x = Int32.ofNat n) && Nat.blt n 1000) with
    | false => rw [hc] at h; cases h
    | true =>
      rw [hc] at h
      simp only [cond_true] at h
      simp only [Bool.and_eq_true, Bool.not_eq_true', decide_eq_true_eq] at hc
      obtain ⟨⟨⟨⟨hsd, hop⟩, hN0⟩, hxe⟩, hn⟩ := hc
      obtain ⟨b1, b2⟩ := ev_ofNat_nn (ev_blt hn)
      refine ev_P.al hsd (fun H lc locs cells slots Q hR hS hcells hslots hW => ?_) (hK _ _ _ _ h)
      have hsz := hR.2.1 hop
      have had : ev_ad g σ.1.1 = H.size := by rw [hsz]; exact ev_ad_cell (Nat.lt_trans (ev_blt hN0) ev_N0_lt)
      have hW' : ∀ H1 : Heap, ev_Rep g (ev_more σ n) H1 → va_S (ev_A g) s.heap H1 locs → W p l e (ev_rm d σ0 r.2) s m args below meth c H1 locs (cells + 1) (slots + n) Q (F0 m (pc + 3) lc (.ref H.size :: rest.map (ev_uv g))) := by
        intro H1 a1 a2
        rw [← had]
        exact hW H1 a1 a2
      subst hxe
      obtain ⟨kA0, comp0, k1, k2, k3, k4⟩ := (hCx.1.2 4 _ rfl).2
      refine W.anew hx hb hown (hts _ ((hTN _ _ _ hlk).1 (by omega)).1) (va_AO.use hCx.2.1) rfl hdg rfl b1 (by rw [b2]; have := ev_blt hn; omega) hcells (by rw [b2]; exact hslots) fun cA kA comp f1 f2 f3 f4 => ?_
      rw [b2]
      have ecA : cA = g.2.2.2.2.2.2 5 := Option.some.inj (f1.symm.trans k4)
      subst ecA
      generalize hH1 : H.push ({ cls := g.2.2.2.2.2.2 5, slots := Array.replicate n .null, vm := .none } : Cell) = H1
      have z1 : H1.size = H.size + 1 := by rw [← hH1, Array.size_push]
      have e1 : H1[H.size]? = some (arrV (g.2.2.2.2.2.2 5) n (fun _ => .null)) := by rw [← hH1, Array.getElem?_push_size, ← arrV_new]
      have o1 : ∀ q : Nat, q < H.size → H1[q]? = H[q]? := fun q hq => by rw [← hH1, Array.getElem?_push, if_neg (Nat.ne_of_lt hq)]
      refine hW' H1 (ev_Rep_more hR hop (Nat.lt_trans (ev_blt hN0) ev_N0_lt) z1 o1 ?_) (ev_S_more hS (by omega) o1)
      have hE : ev_E g (ev_more σ n) σ.1.1 = .inl (g.2.2.2.2.2.2 5, n, .inr (.inr (.inr (.inr (fun _ => none))))) := by
        unfold ev_E
        rw [hlay]
        have : (fun j => ((ev_more σ n).2.2.2 σ.1.1 j).map (ev_ad g)) = fun _ => none := by
          funext b
          rw [ev_more_at.2.2]; rfl
        show Sum.inl (_, _, Sum.inr (Sum.inr (Sum.inr (Sum.inr (fun j => ((ev_more σ n).2.2.2 σ.1.1 j).map (ev_ad g)))))) = _
        rw [this]
      rw [hE]
      show H1[g.2.1 + σ.1.1]? = some (vp_cell _ _)
      rw [vp_cell_q, ← hsz]
      exact e1
  · by_cases hk2 : k = 2
    rotate_left
    · exfalso
      have : ev_wr sd M K (.multianewarray idx k) pc ls st σ = none := by
        unfold ev_wr
        split <;> first | rfl | (rename_i heq; cases heq; exact absurd rfl hk2) | (rename_i heq; cases heq)
      rw [this] at h
      cases h
    subst hk2
    unfold ev_wr at h
    simp only [] at h
    split at h
    rotate_left
    · cases h
    rename_i y x rest hlk
    split at h
    rotate_left
    · cases h
    rename_i a b hlay hlay1
    cases hc : (!sd && σ.1.2.1 && Nat.ble (σ.1.1 + 1 + a) ev_N0 && decide (x = Int32.ofNat a) && decide (y = Int32.ofNat b) && ev_rowsOk b a (σ.1.1 + 1) && Nat.blt a 1000 && Nat.blt b 1000) with
    | false => rw [hc] at h; cases h
    | true =>
      rw [hc] at h
      simp only [cond_true] at h
      simp only [Bool.and_eq_true, Bool.not_eq_true', decide_eq_true_eq] at hc
      obtain ⟨⟨⟨⟨⟨⟨⟨hsd, hop⟩, hN0⟩, hxe⟩, hye⟩, hrow⟩, ha⟩, hb1⟩ := hc
      subst hxe
      subst hye
      have hN0' := Nat.le_of_ble_eq_true hN0
      have hP := hK _ _ _ _ h
      generalize hτ : (((ev_moreN b a (ev_more σ a)).1, (ev_moreN b a (ev_more σ a)).2.1, (ev_moreN b a (ev_more σ a)).2.2.1, (fun p q => bif Nat.beq p σ.1.1 then (if q < a then some (σ.1.1 + 1 + q) else none) else (ev_moreN b a (ev_more σ a)).2.2.2 p q)) : ev_S) = τ at hP
      obtain ⟨m1, m2, m3⟩ := ev_moreN_facts b a (ev_more σ a)
      have t1 : τ.1 = (σ.1.1 + 1 + a, σ.1.2.1, σ.1.2.2.1 + 1 + a, σ.1.2.2.2 + a + a * b) := by rw [← hτ]; exact m1
      have hN := ev_N0_lt
      have hnb : ∀ k, k ≠ σ.1.1 → Nat.beq k σ.1.1 = false := fun k hk => by
        cases hz : Nat.beq k σ.1.1 with
        | false => rfl
        | true => exact absurd (Nat.eq_of_beq_eq_true hz) hk
      have told : ∀ k, k < σ.1.1 → ev_E g τ k = ev_E g σ k := fun k hk => by
        obtain ⟨q1, q2, q3⟩ := m2 k (Nat.lt_succ_of_lt hk)
        have hz := hnb k (by omega)
        refine ev_E_congr ?_ ?_ ?_
        · rw [← hτ]; refine q1.trans ?_; funext q; show (bif Nat.beq k σ.1.1 then _ else _) = _; rw [hz]; rfl
        · rw [← hτ]; refine q2.trans ?_; funext q; show (bif Nat.beq k σ.1.1 then _ else _) = _; rw [hz]; rfl
        · rw [← hτ]
          funext q
          show (bif Nat.beq k σ.1.1 then _ else (ev_moreN b a (ev_more σ a)).2.2.2 k q) = _
          rw [hz]
          refine (congrFun q3 q).trans ?_
          show (bif Nat.beq k σ.1.1 then _ else _) = _
          rw [hz]; rfl
      intro h0
      have e1 : ev_c τ = ev_c σ + 1 + a := by unfold ev_c; rw [t1]
      have e2 : ev_s τ = ev_s σ + a + a * b := by unfold ev_s; rw [t1]
      have hle : ev_le sd σ τ := ⟨by rw [e1]; omega, by rw [e2]; omega, fun z => by rw [hsd] at z; cases z⟩
      obtain ⟨g1, g2⟩ := hP (h0.tr hle)
      have k1 := g1.1
      have k2 := g1.2.1
      have k3 := h0.1
      have k4 := h0.2.1
      rw [e1] at k1
      rw [e2] at k2
      rw [e1, e2, show ev_c σ + 1 + a - ev_c σ0 = ev_c σ - ev_c σ0 + 1 + a by omega, show ev_s σ + a + a * b - ev_s σ0 = ev_s σ - ev_s σ0 + a + a * b by omega] at g2
      refine ⟨hle.tr g1, fun H lc locs hR hl hS => ?_⟩
      have hsz := hR.2.1 hop
      have had : ev_ad g σ.1.1 = H.size := by rw [hsz]; exact ev_ad_cell (by omega)
      refine ev_mna hx hb hown (hts _ ((hTN _ _ _ hlk).2.2 rfl)) (va_any9 hCx.2.2.1) (hts _ hTA.1) (hCx.1.2 5 _ rfl).2 (hCx.1.2 0 _ rfl).2 (ev_blt ha) (ev_blt hb1) (by show _ ≤ ev_c r.2 - ev_c σ0; omega) (by show _ ≤ ev_s r.2 - ev_s σ0; omega) hdg (fun H1 z1 q1 q2 q3 => ?_)
      have hg2 := g2 H1 lc locs ⟨by rw [t1]; show g.2.1 + (σ.1.1 + 1 + a) ≤ _; omega, fun _ => by rw [t1]; show H1.size = g.2.1 + (σ.1.1 + 1 + a); omega, fun q hq => (q3 q (by omega)).trans (hR.2.2.1 q hq), by rw [t1]; show σ.1.1 + 1 + a ≤ _; omega, fun k hk => ?_⟩ hl (ev_S_more hS (by omega) q3)
      · rw [← had]
        exact hg2
      · rw [t1] at hk
        have hk' : k < σ.1.1 + 1 + a := hk
        rcases (show k < σ.1.1 ∨ k = σ.1.1 ∨ σ.1.1 < k by omega) with z | z | z
        · rw [told k z]
          exact (hR.2.2.2.2 k z).kept (q3 _ (by show g.2.1 + k < H.size; omega))
        · subst z
          have hE : ev_E g τ σ.1.1 = .inl (g.2.2.2.2.2.2 6, a, .inr (.inr (.inr (.inr (fun i => if i < a then some (H.size + 1 + i) else none))))) := by
            unfold ev_E
            rw [hlay]
            have : (fun j => (τ.2.2.2 σ.1.1 j).map (ev_ad g)) = fun i => if i < a then some (H.size + 1 + i) else none := by
              funext j
              rw [← hτ]
              show Option.map (ev_ad g) (bif Nat.beq σ.1.1 σ.1.1 then (if j < a then some (σ.1.1 + 1 + j) else none) else _) = _
              rw [Nat.beq_refl]
              show Option.map (ev_ad g) (if j < a then some (σ.1.1 + 1 + j) else none) = _
              by_cases hj : j < a
              · rw [if_pos hj, if_pos hj, Option.map_some, ev_ad_cell (by omega), hsz]
                congr 1
                omega
              · rw [if_neg hj, if_neg hj]; rfl
            show Sum.inl (_, _, Sum.inr (Sum.inr (Sum.inr (Sum.inr (fun j => (τ.2.2.2 σ.1.1 j).map (ev_ad g)))))) = _
            rw [this]
          rw [hE]
          show H1[g.2.1 + σ.1.1]? = some (vp_cell _ _)
          rw [← hsz]
          exact q1
        · obtain ⟨j, rfl⟩ : ∃ j, k = σ.1.1 + 1 + j := ⟨k - (σ.1.1 + 1), by omega⟩
          have hj : j < a := by omega
          have hl1 := ev_rowsOk_spec hrow j hj
          have hE : ev_E g τ (σ.1.1 + 1 + j) = .inl (g.2.2.2.2.2.2 1, b, .inl (fun _ => 0)) := by
            unfold ev_E
            rw [hl1]
            show Sum.inl (_, _, Sum.inl (τ.2.1 (σ.1.1 + 1 + j))) = _
            rw [← hτ]
            exact congrArg (fun f => (Sum.inl (g.2.2.2.2.2.2 1, b, Sum.inl f) : va_E)) (m3 j hj)
          rw [hE]
          show H1[g.2.1 + (σ.1.1 + 1 + j)]? = some (vp_cell _ _)
          have := q2 j hj
          rw [hsz] at this
          rw [show g.2.1 + (σ.1.1 + 1 + j) = g.2.1 + σ.1.1 + 1 + j by omega]
          exact this
end EVV
end
section
/-- what is asked of a method's data -/
def ev_MOk (M : ev_Me) : Prop := Cond.code M.1 M.2.1 M.2.2.1 M.2.2.2.1 ∈ ev_gw ∧ ev_rows M ∧ M.2.2.1 ≤ 80 ∧ M.1.cls = ev_cn M.2.2.2.2.1 ∧ plainName M.1.cls = true ∧ M.1.cls ≠ "java/lang/invoke/MethodHandle" ∧ M.1.cls ≠ "java/lang/invoke/VarHandle"
def ev_np (M : ev_Me) : Option Nat := (parseMethodDescriptor M.1.desc).map (fun d => d.parameters.length)
/-- the tables' facts: calls -/
def ev_TM : Prop := ∀ oc idx kind n ci Mc, ev_lk (ev_ml oc) idx = some (kind, n, ci, Mc) →
  (kind = 6 → Cond.methodLink (ev_cn oc) idx Lib.Math.max.name ∈ ev_gw ∧ Cond.static Lib.Math.max.name ∈ ev_gw ∧ Cond.initialized "java/lang/Math" ∈ ev_gw ∧ Cond.code Lib.Math.max.name Lib.Math.max.code 2 (some .int) ∈ ev_gw) ∧
  (kind = 7 → Cond.methodLink (ev_cn oc) idx Lib.Math.min.name ∈ ev_gw ∧ Cond.static Lib.Math.min.name ∈ ev_gw ∧ Cond.initialized "java/lang/Math" ∈ ev_gw ∧ Cond.code Lib.Math.min.name Lib.Math.min.code 2 (some .int) ∈ ev_gw) ∧
  (kind = 8 → Cond.methodLink (ev_cn oc) idx objectInit ∈ ev_gw ∧ Cond.instanceMethod objectInit ∈ ev_gw ∧ Cond.code objectInit ⟨#[0xb1]⟩ 1 none ∈ ev_gw) ∧
  (kind = 9 → Cond.methodLink (ev_cn oc) idx arraycopyName ∈ ev_gw ∧ Cond.native arraycopyName ∈ ev_gw ∧ Cond.static arraycopyName ∈ ev_gw ∧ Cond.initialized "java/lang/System" ∈ ev_gw) ∧
  (kind = 0 → ev_MOk Mc ∧ ((ci < 11 ∧ Mc.1.cls = (ev_cl ci).1) ∨ (ci = 20 ∧ Mc.1.cls = "java/lang/String")) ∧ Cond.methodLink (ev_cn oc) idx Mc.1 ∈ ev_gw ∧ Cond.instanceMethod Mc.1 ∈ ev_gw ∧ Cond.selects Mc.1.cls Mc.1 Mc.1 ∈ ev_gw ∧ Cond.initialized Mc.1.cls ∈ ev_gw ∧ 1 ≤ n ∧ ev_np Mc = some (n - 1)) ∧
  (kind = 1 → ev_MOk Mc ∧ Cond.methodLink (ev_cn oc) idx Mc.1 ∈ ev_gw ∧ Cond.instanceMethod Mc.1 ∈ ev_gw ∧ Cond.initialized Mc.1.cls ∈ ev_gw ∧ Mc.1.name = "<init>" ∧ Mc.2.2.2.1 = none ∧ 1 ≤ n ∧ ev_np Mc = some (n - 1)) ∧
  (kind = 2 → ev_MOk Mc ∧ Cond.methodLink (ev_cn oc) idx Mc.1 ∈ ev_gw ∧ Cond.static Mc.1 ∈ ev_gw ∧ Cond.initialized Mc.1.cls ∈ ev_gw ∧ ev_np Mc = some n) ∧
  (kind = 3 → ev_MOk Mc ∧ (∃ host, Cond.methodLinkNest (ev_cn oc) idx Mc.1 host ∈ ev_nest) ∧ Cond.instanceMethod Mc.1 ∈ ev_gw ∧ Cond.initialized Mc.1.cls ∈ ev_gw ∧ Mc.1.name = "<init>" ∧ Mc.2.2.2.1 = none ∧ 1 ≤ n ∧ ev_np Mc = some (n - 1)) ∧
  (kind = 4 → ev_MOk Mc ∧ (∃ host, Cond.methodLinkNest (ev_cn oc) idx Mc.1 host ∈ ev_nest) ∧ Cond.static Mc.1 ∈ ev_gw ∧ Cond.initialized Mc.1.cls ∈ ev_gw ∧ ev_np Mc = some n)
theorem ev_gw_good {w : Cond} (h : w ∈ ev_gw) : (w.onTables && w.keeps) = true ∨ ∃ ty, w = .arrayClass ty := good_of_word (List.mem_filter.mp h).2
theorem ev_gi {ws : List Cond} (h : ∀ w ∈ ws, w ∈ ev_gw) : GoodIn ev_gw ws := fun w hw => ⟨h w hw, ev_gw_good (h w hw)⟩
theorem ev_wsM_in {M : ev_Me} (h : ev_MOk M) : ∀ w ∈ ev_wsM M, w ∈ ev_gw := fun w hw => (List.mem_cons.mp hw).elim (fun e => e ▸ h.1) id
theorem ev_blind {g : ev_G} {args : List Value} {σ : ev_S} : FrameBlind (ev_Pc g args σ) := fun a U fr mk h => ⟨h.1, h.2.1, ev_Cx.same (u := U) (U := U.calling fr mk a) rfl h.2.2⟩
theorem ev_Met.met {l : Launch} {g : ev_G} {d : Nat} {M : ev_Me} {args : List Value} {σ : ev_S} {r : ev_R} {v : Option Value} (h : ev_Met l g d M args σ r) (hr : r.1 = some v) : Met l M.1 (ev_wsM M) (ev_rm d σ r.2) (ev_Pc g args σ) (ev_Qc g r) (ev_c r.2 - ev_c σ) (ev_s r.2 - ev_s σ) (ev_A g) := by
  intro p e ha hc hk s m args below hf happ hP hK
  obtain ⟨n, o, h1, h2, h3, h4⟩ := h p e ha hc hk s m args below hf happ hP hK
  refine ⟨n, o, h1, h2, h3, ?_⟩
  rcases h4 with h4 | ⟨q, -, E, ce, L, hx, -⟩
  · exact h4
  · rw [hx.1] at hr; cases hr
section EVCALL
variable {p : Program} {l : Launch} {e : Env} {R : Room} {s : State} {m : MethodId} {args : Array Value} {below : List Frame} {meth : Method} {c : Code} {g : ev_G} {sd : Bool} {d : Nat} {M : ev_Me} {σ0 : ev_S} {r : ev_R}
theorem ev_room {m : MethodId} {pc : Nat} {lc : Array Slot} {st0 rest : List Value} (hf : g.2.2.2.2.2.1.category = 1) (h : rest.length ≤ 4) : 2 * (F0 m pc lc st0).monitorRoom + ((rest.map (ev_uv g)).map fun v => v.category).sum ≤ 8 := by
  have := ev_cat_sum hf rest
  show 2 * 0 + _ ≤ 8
  omega
/-- behind a call that returned -/
theorem ev_called (hA : ev_At p g M s m args meth c) {H : Heap} {lc : Array Slot} {locs : List Loc} {cells slots mc ms pc : Nat} {st0 rest : List Value} {r' : ev_R} {v : Option Value} {a : Array Value} {Q : State → Prop} (hr' : r'.1 = some v)
    (hrun : va_Run p l e R s m args below meth c H locs cells slots mc ms (F0 m pc lc st0) rest (ev_Qc g r' a) (ev_A g)) (hS : va_S (ev_A g) s.heap H locs)
    (kk : ∀ (H1 : Heap) (locs1 : List Loc), ev_Rep g r'.2 H1 → va_S (ev_A g) s.heap H1 locs1 → W p l e R s m args below meth c H1 locs1 (cells + mc) (slots + ms) Q (F0 m (pc + 3) lc ((v.map (ev_uv g)).toList ++ rest))) : W p l e R s m args below meth c H locs cells slots Q (F0 m pc lc st0) := by
  obtain ⟨hx, hb, hml, hr, hlocks, hown, hnm, hexc, hts, hCx, hold, hb0⟩ := hA
  intro T hT X
  obtain ⟨v2, st₀, t, T', L, h0, X', hL, e1, e2, ⟨⟨v3, hv3, hv4⟩, hR1⟩, st⟩ := hrun T hT X
  have ev : v3 = v := Option.some.inj (hv3.symm.trans hr')
  subst ev
  have ev2 : v2 = v3.map (ev_uv g) := Outcome.returned.inj hv4
  subst ev2
  rw [← e1] at hR1
  have hsz : s.heap.size ≤ T'.heap.size := X'.same.2.1
  obtain ⟨t2, a1, b1⟩ := kk T'.heap (locs ++ L) hR1 ⟨hsz, fun q _ h2 => (hR1.2.2.1 q (Nat.lt_of_not_le h2)).trans (hold q (Nat.lt_of_not_le h2)).symm, fun q hq => by
    rcases List.mem_append.mp hq with h | h
    · exact hS.2.2 q h
    · exact hL q h⟩ T' rfl X'
  exact ⟨t2, st t2 a1, b1⟩
theorem ev_fx_rep {σ τ : ev_S} {H : Heap} (h : sd = true → τ.1.1 = σ.1.1 ∧ τ.2.2.2 = σ.2.2.2) : ev_fx sd σ τ = τ := by
  unfold ev_fx
  cases sd with
  | false => rfl
  | true =>
    obtain ⟨h1, h2⟩ := h rfl
    show ((σ.1.1, τ.1.2), τ.2.1, τ.2.2.1, σ.2.2.2) = τ
    rw [← h1, ← h2]
/-- arraycopy between two rows of ints -/
theorem ev_cpyW {cc : ByteArray} (hexec : p.tables.exec = Jvm.exec) (hb : c.code = cc) {H : Heap} {locs : List Loc} {cells slots : Nat} {Q : State → Prop} {pc : Nat} {ls : Array Slot} {rest : List Value} (hml : c.maxLocals = ls.size) {own : String} {index : Nat} (hown : s.vm.findClass own = some m.cls) (hlink : (Cond.methodLink own index arraycopyName).before args s = true) (hnat : (Cond.native arraycopyName).before args s = true) (hstat : (Cond.static arraycopyName).before args s = true) (hini : (Cond.initialized "java/lang/System").before args s = true)
    {A : Nat → Prop} (hS : va_S A s.heap H locs) {a0 a : Nat} {c0 : ClassId} {n0 n1 : Nat} {f f2 : Nat → Int32} (hc0 : H[a0]? = some (vp_cell c0 (n0, .inl f))) (hc1 : H[a]? = some (vp_cell c0 (n1, .inl f2))) (ht : ArrOfT s c0 .int) (hAa : A a)
    {sp dp n : Int32} (h1 : ¬ sp < 0) (h2 : ¬ dp < 0) (h3 : ¬ n < 0) (h4 : sp.toNatClampNeg + n.toNatClampNeg ≤ n0) (h5 : dp.toNatClampNeg + n.toNatClampNeg ≤ n1)
    (hframes : 1 ≤ R.frames) (hlocals : (rest.map fun v => v.category).sum + (nativeFrameWords "java/lang/System" "arraycopy" 5 + 11) ≤ R.locals) (hdg : decode cc pc = .ok (.invokestatic index, 3))
    (kk : ∀ (H1 : Heap) (locs1 : List Loc), H1[a]? = some (vp_cell c0 (n1, .inl (va_cpy f f2 sp.toNatClampNeg dp.toNatClampNeg n.toNatClampNeg))) → H1.size = H.size → (∀ q : Nat, q ≠ a → H1[q]? = H[q]?) → va_S A s.heap H1 locs1 → W p l e R s m args below meth c H1 locs1 cells slots Q (F0 m (pc + 3) ls rest)) : W p l e R s m args below meth c H locs cells slots Q (F0 m pc ls (.int n :: .int dp :: .ref a :: .int sp :: .ref a0 :: rest)) := by
  have nn : ∀ z : Int32, ¬ z < 0 → z.toInt = (z.toNatClampNeg : Int) := by
    intro z hz
    have hz0 : (0 : Int) ≤ z.toInt := by
      have := Int32.not_lt.mp hz
      simpa using Int32.le_iff_toInt_le.mp this
    show z.toInt = ((z.toInt.toNat : Nat) : Int)
    omega
  intro T hT X
  obtain ⟨-, k0, hk0, cm0, hkk0⟩ := ht n0 (fun j => .int (f j))
  obtain ⟨-, k1, hk1, cm1, hkk1⟩ := ht n1 (fun j => .int (f2 j))
  obtain ⟨vm', X', step⟩ := X.arraycopy hexec hown hlink hnat hstat hini (src := a0) (dst := a) (cs := vp_cell c0 (n0, .inl f)) (cd := vp_cell c0 (n1, .inl f2)) (srcPos := sp) (destPos := dp) (n := n) (by rw [hT]; exact hc0) (by rw [hT]; exact hc1)
    (fun _ h => by cases h) (fun _ h => by cases h) (fun h => by cases h) (fun h => by cases h) hk0 hk1 hkk0 hkk1 (by simp [refKind]) h1 h2 h3
    (by rw [nn sp h1, nn n h3]; show ¬ _ > ((arrV c0 n0 (fun j => .int (f j))).slots.size : Int); rw [arrV_size]; omega)
    (by rw [nn dp h2, nn n h3]; show ¬ _ > ((arrV c0 n1 (fun j => .int (f2 j))).slots.size : Int); rw [arrV_size]; omega)
    (fun vm₁ _ i hi => by
      have e : (vp_cell c0 (n0, .inl f)).slots.getD (sp.toNatClampNeg + i) .null = .int (f (sp.toNatClampNeg + i)) := by
        show (arrV c0 n0 (fun j => .int (f j))).slots.getD _ _ = _
        rw [Array.getD_eq_getD_getElem?, arrV_read _ _ (by omega)]
        rfl
      refine ⟨?_, ?_⟩
      · rw [e]; rfl
      · rw [e]
        exact trivial)
    (g := F0 m pc ls (.int n :: .int dp :: .ref a :: .int sp :: .ref a0 :: rest)) rfl (by rw [hml]) (rest := rest) rfl (by rw [hb]; exact hdg) hframes (by show 2 * 0 + _ + _ ≤ _; omega)
  have e1 : copied (vp_cell c0 (n0, .inl f)) (vp_cell c0 (n1, .inl f2)) sp dp n = vp_cell c0 (n1, .inl (va_cpy f f2 sp.toNatClampNeg dp.toNatClampNeg n.toNatClampNeg)) := va_copied (fun z => .int z) c0 c0 f f2 h4
  rw [e1] at X' step
  have hl : a < H.size := (Array.getElem?_eq_some_iff.mp hc1).1
  have hheap : ((T.setVm vm').setCell a (vp_cell c0 (n1, .inl (va_cpy f f2 sp.toNatClampNeg dp.toNatClampNeg n.toNatClampNeg)))).heap = H.setIfInBounds a (vp_cell c0 (n1, .inl (va_cpy f f2 sp.toNatClampNeg dp.toNatClampNeg n.toNatClampNeg))) := by rw [← hT]; rfl
  have oq : ∀ q : Nat, q ≠ a → (H.setIfInBounds a (vp_cell c0 (n1, .inl (va_cpy f f2 sp.toNatClampNeg dp.toNatClampNeg n.toNatClampNeg))))[q]? = H[q]? := fun q hq => by simp [Array.getElem?_setIfInBounds, Ne.symm hq]
  obtain ⟨t, a1, b1⟩ := kk _ _ (by simp [Array.getElem?_setIfInBounds, hl]) (by simp) oq ⟨by simp; exact hS.1, fun q g1 g2 => by
      rw [oq q (fun e => g2 (by rw [e]; exact hAa))]
      exact hS.2.1 q g1 g2, fun q hq => by
      rcases List.mem_append.mp hq with h | h
      · exact hS.2.2 q h
      · obtain ⟨z, -, hz⟩ := List.mem_map.mp h
        rw [← hz]
        exact hAa⟩ _ hheap X'
  exact ⟨t, step t a1, b1⟩
theorem ev_take {st : List Value} {n : Nat} : st = ((st.take n).reverse).reverse ++ st.drop n := by simp
/-- what every call owes -/
theorem ev_go_on (hA : ev_At p g M s m args meth c) {Mc : ev_Me} {pc n : Nat} {ls st : List Value} {σ : ev_S} {d' : Nat} (hd : d = d' + 1) (hOk : ev_MOk Mc) {cf : ev_Me → List Value → ev_S → Option ev_R} (hcf : ∀ Mc args σ r', cf Mc args σ = some r' → ev_MOk Mc → ev_Met l g d' Mc args σ r' ∧ ev_le sd σ r'.2) {K : ev_K} (hK : ∀ pc' ls' st' σ', K pc' ls' st' σ' = some r → ev_P p l e s m args below meth c g sd d M σ0 r pc' ls' st' σ')
    (h : (match Mc.2.2.2.1 with
        | none => ev_cV (cf Mc (st.take n).reverse σ) (fun σ' => K (pc + 3) ls (st.drop n) (ev_fx sd σ σ'))
        | some .long => ev_cL (cf Mc (st.take n).reverse σ) (fun x σ' => K (pc + 3) ls (.long x :: st.drop n) (ev_fx sd σ σ'))
        | some .int => ev_cI (cf Mc (st.take n).reverse σ) (fun x σ' => K (pc + 3) ls (.int x :: st.drop n) (ev_fx sd σ σ'))
        | some .boolean => ev_cI (cf Mc (st.take n).reverse σ) (fun x σ' => K (pc + 3) ls (.int x :: st.drop n) (ev_fx sd σ σ'))
        | some .char => ev_cI (cf Mc (st.take n).reverse σ) (fun x σ' => K (pc + 3) ls (.int x :: st.drop n) (ev_fx sd σ σ'))
        | some .byte => ev_cI (cf Mc (st.take n).reverse σ) (fun x σ' => K (pc + 3) ls (.int x :: st.drop n) (ev_fx sd σ σ'))
        | _ => none) = some r)
    (run : ∀ (r' : ev_R) (v : Option Value), r'.1 = some v → Met l Mc.1 (ev_wsM Mc) (ev_rm d' σ r'.2) (ev_Pc g (st.take n).reverse σ) (ev_Qc g r') (ev_c r'.2 - ev_c σ) (ev_s r'.2 - ev_s σ) (ev_A g) → ∀ (H : Heap) (lc : Array Slot) (locs : List Loc) (cells slots : Nat), ev_Rep g σ H → ev_lv g lc M.2.2.1 ls → cells + (ev_c r'.2 - ev_c σ) ≤ ev_c r.2 - ev_c σ0 → slots + (ev_s r'.2 - ev_s σ) ≤ ev_s r.2 - ev_s σ0 →
      va_Run p l e (ev_rm d σ0 r.2) s m args below meth c H locs cells slots (ev_c r'.2 - ev_c σ) (ev_s r'.2 - ev_s σ) (F0 m pc lc (st.map (ev_uv g))) ((st.drop n).map (ev_uv g)) (ev_Qc g r' (((st.take n).reverse).map (ev_uv g)).toArray) (ev_A g)) :
    ev_P p l e s m args below meth c g sd d M σ0 r pc ls st σ := by
  have fin : ∀ (r' : ev_R) (v : Option Value), cf Mc (st.take n).reverse σ = some r' → r'.1 = some v → K (pc + 3) ls (v.toList ++ st.drop n) (ev_fx sd σ r'.2) = some r → ev_P p l e s m args below meth c g sd d M σ0 r pc ls st σ := by
    intro r' v hc hr' hk
    obtain ⟨hM, hle⟩ := hcf _ _ _ _ hc hOk
    rw [ev_fx_rep (H := s.heap) hle.2.2] at hk
    intro h0
    obtain ⟨g1, g2⟩ := hK _ _ _ _ hk (h0.tr hle)
    refine ⟨hle.tr g1, fun H lc locs hR hl hS => ?_⟩
    have k1 := h0.1
    have k2 := h0.2.1
    have k3 := hle.1
    have k4 := hle.2.1
    have k5 := g1.1
    have k6 := g1.2.1
    refine ev_called hA hr' (run r' v hr' (hM.met hr') H lc locs _ _ hR hl (by omega) (by omega)) hS (fun H1 locs1 hR1 hS1 => ?_)
    rw [show ev_c σ - ev_c σ0 + (ev_c r'.2 - ev_c σ) = ev_c r'.2 - ev_c σ0 by omega, show ev_s σ - ev_s σ0 + (ev_s r'.2 - ev_s σ) = ev_s r'.2 - ev_s σ0 by omega]
    have := g2 H1 lc locs1 hR1 hl hS1
    rw [List.map_append] at this
    cases v with
    | none => exact this
    | some v => exact this
  have fI : ev_cI (cf Mc (st.take n).reverse σ) (fun x σ' => K (pc + 3) ls (.int x :: st.drop n) (ev_fx sd σ σ')) = some r → ev_P p l e s m args below meth c g sd d M σ0 r pc ls st σ := by
    intro h
    unfold ev_cI at h
    split at h
    · rename_i x σ1 hc
      exact fin (some (some (.int x)), σ1) (some (.int x)) hc rfl h
    · cases h
  split at h
  · unfold ev_cV at h
    split at h
    · rename_i σ1 hc
      exact fin (some none, σ1) none hc rfl h
    · cases h
  · unfold ev_cL at h
    split at h
    · rename_i x σ1 hc
      exact fin (some (some (.long x)), σ1) (some (.long x)) hc rfl h
    · cases h
  · exact fI h
  · exact fI h
  · exact fI h
  · exact fI h
  · cases h
theorem ev_stk {st : List Value} {n : Nat} {v : Value} {as : List Value} (h : (st.take n).reverse = v :: as) : st.map (ev_uv g) = (as.map (ev_uv g)).reverse ++ ev_uv g v :: (st.drop n).map (ev_uv g) := by
  have h1 : st.take n = as.reverse ++ [v] := by
    have := congrArg List.reverse h
    rw [List.reverse_reverse] at this
    rw [this]; simp
  conv => lhs; rw [← List.take_append_drop n st, h1]
  simp
set_option maxHeartbeats 4000000 in
theorem ev_inv_ok (hTM : ev_TM) (hTC : ev_TC) (hA : ev_At p g M s m args meth c) {pc idx : Nat} {ls st : List Value} {σ : ev_S} {d' : Nat} (hd : d = d' + 1) {cf : ev_Me → List Value → ev_S → Option ev_R} (hcf : ∀ Mc args σ r', cf Mc args σ = some r' → ev_MOk Mc → ev_Met l g d' Mc args σ r' ∧ ev_le sd σ r'.2) {K : ev_K} (hK : ∀ pc' ls' st' σ', K pc' ls' st' σ' = some r → ev_P p l e s m args below meth c g sd d M σ0 r pc' ls' st' σ') {vir spe sta : Bool}
    (hvir : vir = true → decode M.2.1 pc = .ok (.invokevirtual idx, 3)) (hspe : spe = true → decode M.2.1 pc = .ok (.invokespecial idx, 3)) (hsta : sta = true → decode M.2.1 pc = .ok (.invokestatic idx, 3))
    (h : ev_inv sd cf M K vir spe sta idx pc ls st σ = some r) : ev_P p l e s m args below meth c g sd d M σ0 r pc ls st σ := by
  have hA0 := hA
  obtain ⟨hx, hb, hml, hr, hlocks, hown, hnm, hexc, hts, hCx, hold, hb0⟩ := hA
  have hf := hCx.2.2.2.2.2.2.2.2.2.2
  have hgl : ∀ a : Nat, a < g.2.2.1.size → ¬ ev_A g a → s.heap[a]? = g.2.2.1[a]? := fun a _ h2 => hold a (Nat.lt_of_not_le h2)
  unfold ev_inv at h
  split at h
  · cases h
  rename_i kind n ci Mc hlk
  obtain ⟨t6, t7, t8, t9, t0, t1, t2, t3, t4⟩ := hTM _ _ _ _ _ _ hlk
  cases h8 : Nat.beq kind 8 with
  | true =>
    rw [h8] at h
    simp only [cond_true] at h
    obtain ⟨w1, w2, w3⟩ := t8 (Nat.eq_of_beq_eq_true h8)
    cases hs : spe with
    | false => rw [hs] at h; cases h
    | true =>
      rw [hs] at h
      simp only [cond_true] at h
      split at h
      rotate_left
      · cases h
      rename_i k rest
      cases h4 : Nat.ble rest.length 4 with
      | false => rw [h4] at h; cases h
      | true =>
        rw [h4] at h
        simp only [cond_true] at h
        refine ev_P.step (fun H lc locs cells slots Q hR hl hS hW => ?_) (hK _ _ _ _ h)
        exact W.objInit hx hb hown (hts _ w1) (hts _ w2) (hts _ w3) rfl (hl.1.trans hml.symm) rfl (hspe hs) (by show 1 ≤ d + 10; omega) (by have := ev_room (g := g) (m := m) (pc := pc) (lc := lc) (st0 := []) (rest := rest) hf (Nat.le_of_ble_eq_true h4); show 2 * 0 + _ + 12 ≤ 100 * d + 400; have h9 : 2 * 0 + ((rest.map (ev_uv g)).map fun v => v.category).sum ≤ 8 := this; omega) hW
  | false =>
    rw [h8] at h
    simp only [cond_false] at h
    cases h9 : Nat.beq kind 9 with
    | true =>
      rw [h9] at h
      simp only [cond_true] at h
      obtain ⟨w1, w2, w3, w4⟩ := t9 (Nat.eq_of_beq_eq_true h9)
      cases hs : sta with
      | false => rw [hs] at h; cases h
      | true =>
        rw [hs] at h
        simp only [cond_true] at h
        split at h
        rotate_left
        · cases h
        rename_i len dp kd sp ks rest
        split at h
        rotate_left
        · cases h
        rename_i n1 n2 hks hkd
        cases hne : Nat.beq ks kd with
        | true => rw [hne] at h; cases h
        | false =>
          rw [hne] at h
          simp only [cond_false] at h
          split at h
          rotate_left
          · cases h
          rename_i hc
          simp only [Bool.and_eq_true, Bool.not_eq_true', decide_eq_true_eq, decide_eq_false_iff_not] at hc
          obtain ⟨⟨⟨⟨⟨hr4, c1⟩, c2⟩, c3⟩, c4⟩, c5⟩ := hc
          obtain ⟨q1, q2⟩ := ev_kd_cell hks (by omega)
          obtain ⟨q3, q4⟩ := ev_kd_cell hkd (by omega)
          refine ev_P.wrl (τ := (σ.1, ev_cp σ.2.1 ks kd sp.toNatClampNeg dp.toNatClampNeg len.toNatClampNeg, σ.2.2)) rfl (fun _ => rfl) (fun H lc locs cells slots Q hR hlv hS hW => ?_) (hK _ _ _ _ h)
          have a1 := ev_rowI hCx hR q1 q2 (Or.inl ⟨rfl, rfl⟩)
          have a2 := ev_rowI hCx hR q3 q4 (Or.inl ⟨rfl, rfl⟩)
          have a3 : W p l e (ev_rm d σ0 r.2) s m args below meth c H locs cells slots Q (F0 m pc lc (.int len :: .int dp :: .ref (g.2.1 + kd) :: .int sp :: .ref (g.2.1 + ks) :: rest.map (ev_uv g))) := by
            have hcat := ev_cat_sum hf rest
            have hr5 := Nat.le_of_ble_eq_true hr4
            have hnf : nativeFrameWords "java/lang/System" "arraycopy" 5 ≤ 100 := by decide
            refine ev_cpyW hx hb (hml.trans hlv.1.symm) hown (hts _ w1) (hts _ w2) (hts _ w3) (hts _ w4) hS a1.1 a2.1 a1.2 (show g.2.1 ≤ g.2.1 + kd by omega) c1 c2 c3 c4 c5 (by show 1 ≤ d + 10; omega) (by show _ ≤ 100 * d + 400; omega) (hsta hs) (fun H1 locs1 z1 z2 z3 z4 => hW H1 locs1 (ev_Rep_upd (σ := σ) (k := kd) hR rfl z2 z3 ?_ (fun q hq => ev_E_congr ?_ rfl rfl)) z4)
            · have hE : ev_E g ((σ.1, ev_cp σ.2.1 ks kd sp.toNatClampNeg dp.toNatClampNeg len.toNatClampNeg, σ.2.2) : ev_S) kd = .inl (g.2.2.2.2.2.2 1, n2, .inl (ev_cp σ.2.1 ks kd sp.toNatClampNeg dp.toNatClampNeg len.toNatClampNeg kd)) := by
                unfold ev_E
                rw [q4]; rfl
              rw [hE]
              show H1[g.2.1 + kd]? = some (vp_cell _ _)
              rw [z1]
              congr 4
              funext j
              unfold va_cpy ev_cp
              by_cases hj : dp.toNatClampNeg ≤ j ∧ j < dp.toNatClampNeg + len.toNatClampNeg
              · rw [if_pos hj, if_pos ⟨rfl, hj⟩]
              · rw [if_neg hj, if_neg (fun z => hj z.2)]
            · funext j
              show ev_cp σ.2.1 ks kd _ _ _ q j = _
              unfold ev_cp
              rw [if_neg (fun z => hq z.1)]
          show W p l e _ s m args below meth c H locs cells slots Q (F0 m pc lc (.int len :: .int dp :: .ref (ev_ad g kd) :: .int sp :: .ref (ev_ad g ks) :: rest.map (ev_uv g)))
          rw [ev_ad_cell (Nat.lt_of_lt_of_le q1 hR.2.2.2.1), ev_ad_cell (Nat.lt_of_lt_of_le q3 hR.2.2.2.1)]
          exact a3
    | false =>
      rw [h9] at h
      simp only [cond_false] at h
      cases h6 : Nat.beq kind 6 with
      | true =>
        rw [h6] at h
        simp only [cond_true] at h
        obtain ⟨w1, w2, w3, w4⟩ := t6 (Nat.eq_of_beq_eq_true h6)
        cases hs : sta with
        | false => rw [hs] at h; cases h
        | true =>
          rw [hs] at h
          simp only [cond_true] at h
          split at h
          rotate_left
          · cases h
          rename_i y x rest
          cases h4 : Nat.ble rest.length 4 with
          | false => rw [h4] at h; cases h
          | true =>
            rw [h4] at h
            simp only [cond_true] at h
            intro h0
            obtain ⟨g1, g2⟩ := hK _ _ _ _ h h0
            refine ⟨g1, fun H lc locs hR hl hS => ?_⟩
            have k1 := h0.1
            have k2 := h0.2.1
            have k3 := g1.1
            have k4 := g1.2.1
            exact va_mmax hx hb (hml.trans hl.1.symm) hown (hts _ w1) (hts _ w2) (hts _ w3) (hts _ w4) (by show 1 ≤ d + 10; omega) (by have hcat := ev_cat_sum hf rest; have hr5 := Nat.le_of_ble_eq_true h4; show _ ≤ 100 * d + 400; omega) (by show ev_c σ - ev_c σ0 ≤ ev_c r.2 - ev_c σ0; omega) (by show ev_s σ - ev_s σ0 ≤ ev_s r.2 - ev_s σ0; omega) (hsta hs) (g2 H lc locs hR hl hS)
      | false =>
      rw [h6] at h
      simp only [cond_false] at h
      cases h7 : Nat.beq kind 7 with
      | true =>
        rw [h7] at h
        simp only [cond_true] at h
        obtain ⟨w1, w2, w3, w4⟩ := t7 (Nat.eq_of_beq_eq_true h7)
        cases hs : sta with
        | false => rw [hs] at h; cases h
        | true =>
          rw [hs] at h
          simp only [cond_true] at h
          split at h
          rotate_left
          · cases h
          rename_i y x rest
          cases h4 : Nat.ble rest.length 4 with
          | false => rw [h4] at h; cases h
          | true =>
            rw [h4] at h
            simp only [cond_true] at h
            intro h0
            obtain ⟨g1, g2⟩ := hK _ _ _ _ h h0
            refine ⟨g1, fun H lc locs hR hl hS => ?_⟩
            have k1 := h0.1
            have k2 := h0.2.1
            have k3 := g1.1
            have k4 := g1.2.1
            exact va_mmin hx hb (hml.trans hl.1.symm) hown (hts _ w1) (hts _ w2) (hts _ w3) (hts _ w4) (by show 1 ≤ d + 10; omega) (by have hcat := ev_cat_sum hf rest; have hr5 := Nat.le_of_ble_eq_true h4; show _ ≤ 100 * d + 400; omega) (by show ev_c σ - ev_c σ0 ≤ ev_c r.2 - ev_c σ0; omega) (by show ev_s σ - ev_s σ0 ≤ ev_s r.2 - ev_s σ0; omega) (hsta hs) (g2 H lc locs hR hl hS)
      | false =>
      rw [h7] at h
      simp only [cond_false] at h
      cases hc : ((Nat.beq kind 0 && vir) || ((Nat.beq kind 1 || Nat.beq kind 3) && spe) || ((Nat.beq kind 2 || Nat.beq kind 4) && sta)) && Nat.ble (st.drop n).length 4 && Nat.ble n st.length && (!(Nat.beq kind 1 || Nat.beq kind 3) || ev_hd (st.take n).reverse) with
      | false => rw [hc] at h; cases h
      | true =>
        rw [hc] at h
        simp only [cond_true] at h
        simp only [Bool.and_eq_true] at hc
        obtain ⟨⟨⟨hk, h4⟩, hnl⟩, hhd⟩ := hc
        have h4' := Nat.le_of_ble_eq_true h4
        have hnl' := Nat.le_of_ble_eq_true hnl
        have hlen : (st.take n).reverse.length = n := by rw [List.length_reverse, List.length_take]; omega
        simp only [Bool.or_eq_true, Bool.and_eq_true] at hk
        rcases hk with (⟨hk, hv⟩ | ⟨hk, hv⟩) | ⟨hk, hv⟩
        · -- virtual
          have ek := Nat.eq_of_beq_eq_true hk
          obtain ⟨hOk, hcls, w1, w2, w3, w4, hn1, hnp⟩ := t0 ek
          rw [hk] at h
          unfold ev_rc at h
          simp only [cond_true] at h
          split at h
          rotate_left
          · cases h
          rename_i k as hargs
          cases hrc : ((ev_kd σ.1.1 k == (0, ci)) || (Nat.beq ci 20 && Nat.beq (ev_kd σ.1.1 k).1 10)) with
          | false => rw [hrc] at h; cases h
          | true =>
            rw [hrc] at h
            simp only [cond_true] at h
            refine ev_go_on hA0 hd hOk hcf hK h (fun r' v hr' hM H lc locs cells slots hR hl hc1 hc2 => ?_)
            rw [hargs] at hM hlen
            have hl1 : as.length + 1 = n := hlen
            refine va_runV (C := Mc.1.cls) (bytes := Mc.2.1) (maxL := Mc.2.2.1) (ret := Mc.2.2.2.1) (n := n - 1) (b := ev_ad g k) (As := as.map (ev_uv g)) (rest := (st.drop n).map (ev_uv g)) ⟨hx, hb, hml, hown, hts⟩ hM (cwV (n - 1) hts (ev_gi (fun w hw => ?_)) rfl rfl rfl ⟨rfl, hOk.2.2.2.2.2.1, hOk.2.2.2.2.2.2, hnp⟩ ⟨by show d' + 10 + 1 ≤ d + 10; omega, by have := hOk.2.2.1; show 8 + (Mc.2.2.1 + 11) + (100 * d' + 400) ≤ 100 * d + 400; omega⟩) ⟨ev_blind, ?_, fun U hU hW => ⟨rfl, by rw [hU]; exact hR, hCx.warm hW⟩⟩ rfl (by rw [List.length_map]; omega) hl.1 (by show st.map (ev_uv g) = _; exact ev_stk hargs) (ev_room hf h4') (hvir hv) ⟨hc1, hc2⟩
            · unfold wsV at hw
              rcases List.mem_append.mp hw with hw | hw
              · simp only [List.mem_cons, List.not_mem_nil, or_false] at hw
                rcases hw with rfl | rfl | rfl | rfl
                · exact w1
                · exact w2
                · exact w3
                · exact w4
              · exact ev_wsM_in hOk w hw
            · simp only [Bool.or_eq_true, Bool.and_eq_true] at hrc
              rcases hrc with hrc | ⟨hrc1, hrc2⟩
              · obtain ⟨q1, q2⟩ := ev_kd_cell (eq_of_beq hrc) (by omega)
                have hci := ev_lay_lt11 q2
                obtain ⟨cell, z1, z2, z3, -⟩ := ev_atO hTC hci hR q1 q2
                rw [ev_ad_cell (Nat.lt_of_lt_of_le q1 hR.2.2.2.1)]
                refine ⟨cell, z1, by rw [z3]; rfl, ?_⟩
                rcases hcls with ⟨-, hcls⟩ | ⟨hci2, -⟩
                · rw [hcls, z2]
                  exact (hCx.1.1 ci _ (hTC ci hci).1).2.1
                · omega
              · have e20 := Nat.eq_of_beq_eq_true hrc1
                obtain ⟨u1, u2, u3, u4⟩ := ev_kd_text (n := σ.1.1) (k := k) (t := 10) (x := (ev_kd σ.1.1 k).2) (by rw [← Nat.eq_of_beq_eq_true hrc2]) (Or.inl rfl)
                have hadk : ev_ad g k = g.2.2.2.1 (ev_kd σ.1.1 k).2 := by
                  unfold ev_ad
                  rw [if_neg (by omega), if_pos (by omega), u4]
                obtain ⟨cell, z1, z2, z3, z4⟩ := (hCx.2.2.2.2.2.1 _ u2).1
                rw [hadk]
                have hlt : ¬ ev_A g (g.2.2.2.1 (ev_kd σ.1.1 k).2) := z4
                refine ⟨cell, (hR.2.2.1 _ (Nat.lt_of_not_le hlt)).trans z1, z2, ?_⟩
                rcases hcls with ⟨hci2, -⟩ | ⟨-, hcls⟩
                · omega
                · rw [hcls]; exact z3
        · -- constructors
          have hkk : kind = 1 ∨ kind = 3 := hk.elim (fun z => Or.inl (Nat.eq_of_beq_eq_true z)) (fun z => Or.inr (Nat.eq_of_beq_eq_true z))
          have hk0 : Nat.beq kind 0 = false := by rcases hkk with rfl | rfl <;> rfl
          rw [hk0] at h
          unfold ev_rc at h
          simp only [cond_false] at h
          have hk13 : (Nat.beq kind 1 || Nat.beq kind 3) = true := by rcases hkk with rfl | rfl <;> rfl
          rw [hk13] at hhd
          simp only [Bool.not_true, Bool.false_or] at hhd
          unfold ev_hd at hhd
          split at hhd
          rotate_left
          · cases hhd
          rename_i k as hargs
          rcases hkk with ek | ek
          · obtain ⟨hOk, w1, w2, w3, hnm1, hret, hn1, hnp⟩ := t1 ek
            refine ev_go_on hA0 hd hOk hcf hK h (fun r' v hr' hM H lc locs cells slots hR hl hc1 hc2 => ?_)
            rw [hargs] at hM hlen
            have hl1 : as.length + 1 = n := hlen
            exact va_runI (bytes := Mc.2.1) (maxL := Mc.2.2.1) (n := n - 1) (b := ev_ad g k) (As := as.map (ev_uv g)) (rest := (st.drop n).map (ev_uv g)) ⟨hx, hb, hml, hown, hts⟩ hM (cwI (n - 1) hts (ev_gi (ev_wsM_in hOk)) (by rw [← hret]; rfl) rfl rfl (hts _ w3) (hts _ w1) (hts _ w2) hnm1 ⟨hOk.2.2.2.2.2.1, hOk.2.2.2.2.2.2, hnp⟩ ⟨by show d' + 10 + 1 ≤ d + 10; omega, by have := hOk.2.2.1; show 8 + (Mc.2.2.1 + 11) + (100 * d' + 400) ≤ 100 * d + 400; omega⟩) ⟨ev_blind, fun U hU hW => ⟨rfl, by rw [hU]; exact hR, hCx.warm hW⟩⟩ rfl (by rw [List.length_map]; omega) hl.1 (by show st.map (ev_uv g) = _; exact ev_stk hargs) (ev_room hf h4') (hspe hv) ⟨hc1, hc2⟩
          · obtain ⟨hOk, ⟨host, w1⟩, w2, w3, hnm1, hret, hn1, hnp⟩ := t3 ek
            refine ev_go_on hA0 hd hOk hcf hK h (fun r' v hr' hM H lc locs cells slots hR hl hc1 hc2 => ?_)
            rw [hargs] at hM hlen
            have hl1 : as.length + 1 = n := hlen
            exact va_runIN (host := host) (bytes := Mc.2.1) (maxL := Mc.2.2.1) (n := n - 1) (b := ev_ad g k) (As := as.map (ev_uv g)) (rest := (st.drop n).map (ev_uv g)) ⟨hx, hb, hml, hown, hts⟩ hM ⟨va_cnB (n - 1) hts (ev_gi (ev_wsM_in hOk)) (by rw [← hret]; rfl) rfl rfl (hCx.2.2.2.1 _ w1) (hts _ w3) ⟨hOk.2.2.2.2.2.1, hOk.2.2.2.2.2.2, hnp⟩ ⟨by show d' + 10 + 1 ≤ d + 10; omega, by have := hOk.2.2.1; show 8 + (Mc.2.2.1 + 11) + (100 * d' + 400) ≤ 100 * d + 400; omega⟩, hnm1, hts _ w2⟩ ⟨ev_blind, fun U hU hW => ⟨rfl, by rw [hU]; exact hR, hCx.warm hW⟩⟩ rfl (by rw [List.length_map]; omega) hl.1 (by show st.map (ev_uv g) = _; exact ev_stk hargs) (ev_room hf h4') (hspe hv) ⟨hc1, hc2⟩
        · -- static
          have hkk : kind = 2 ∨ kind = 4 := hk.elim (fun z => Or.inl (Nat.eq_of_beq_eq_true z)) (fun z => Or.inr (Nat.eq_of_beq_eq_true z))
          have hk0 : Nat.beq kind 0 = false := by rcases hkk with rfl | rfl <;> rfl
          rw [hk0] at h
          unfold ev_rc at h
          simp only [cond_false] at h
          have hstk : st.map (ev_uv g) = (((st.take n).reverse).map (ev_uv g)).reverse ++ (st.drop n).map (ev_uv g) := by
            rw [← List.map_reverse, List.reverse_reverse, ← List.map_append, List.take_append_drop]
          rcases hkk with ek | ek
          · obtain ⟨hOk, w1, w2, w3, hnp⟩ := t2 ek
            refine ev_go_on hA0 hd hOk hcf hK h (fun r' v hr' hM H lc locs cells slots hR hl hc1 hc2 => ?_)
            refine va_runS (bytes := Mc.2.1) (maxL := Mc.2.2.1) (ret := Mc.2.2.2.1) (n := n) (As := ((st.take n).reverse).map (ev_uv g)) (rest := (st.drop n).map (ev_uv g)) ⟨hx, hb, hml, hown, hts⟩ hM (va_cwS n hts (ev_gi (fun w hw => ?_)) rfl rfl rfl ⟨hOk.2.2.2.2.2.1, hOk.2.2.2.2.2.2, hnp⟩ ⟨by show d' + 10 + 1 ≤ d + 10; omega, by have := hOk.2.2.1; show 8 + (Mc.2.2.1 + 11) + (100 * d' + 400) ≤ 100 * d + 400; omega⟩) ⟨ev_blind, fun U hU hW => ⟨rfl, by rw [hU]; exact hR, hCx.warm hW⟩⟩ rfl (by rw [List.length_map]; exact hlen) hl.1 hstk (ev_room hf h4') (hsta hv) ⟨hc1, hc2⟩
            unfold va_wsS at hw
            rcases List.mem_append.mp hw with hw | hw
            · simp only [List.mem_cons, List.not_mem_nil, or_false] at hw
              rcases hw with rfl | rfl | rfl
              · exact w1
              · exact w2
              · exact w3
            · exact ev_wsM_in hOk w hw
          · obtain ⟨hOk, ⟨host, w1⟩, w2, w3, hnp⟩ := t4 ek
            refine ev_go_on hA0 hd hOk hcf hK h (fun r' v hr' hM H lc locs cells slots hR hl hc1 hc2 => ?_)
            exact va_runSN (host := host) (bytes := Mc.2.1) (maxL := Mc.2.2.1) (ret := Mc.2.2.2.1) (n := n) (As := ((st.take n).reverse).map (ev_uv g)) (rest := (st.drop n).map (ev_uv g)) ⟨hx, hb, hml, hown, hts⟩ hM ⟨va_cnB n hts (ev_gi (ev_wsM_in hOk)) rfl rfl rfl (hCx.2.2.2.1 _ w1) (hts _ w3) ⟨hOk.2.2.2.2.2.1, hOk.2.2.2.2.2.2, hnp⟩ ⟨by show d' + 10 + 1 ≤ d + 10; omega, by have := hOk.2.2.1; show 8 + (Mc.2.2.1 + 11) + (100 * d' + 400) ≤ 100 * d + 400; omega⟩, hts _ w2, trivial⟩ ⟨ev_blind, fun U hU hW => ⟨rfl, by rw [hU]; exact hR, hCx.warm hW⟩⟩ rfl (by rw [List.length_map]; exact hlen) hl.1 hstk (ev_room hf h4') (hsta hv) ⟨hc1, hc2⟩
end EVCALL
end
section
/-! The store only grows. -/
def ev_mn (sd : Bool) (σ : ev_S) (F : ev_K → Option ev_R) : Prop := ∀ (K : ev_K) (r : ev_R), F K = some r → ev_le sd σ r.2 ∨ ∃ pc ls st σ', K pc ls st σ' = some r ∧ ev_le sd σ σ'
section EVMN
variable {sd : Bool} {σ : ev_S}
theorem ev_mn_none : ev_mn sd σ (fun _ => none) := fun _ _ h => by cases h
theorem ev_mn_some {x : Option (Option Value)} {σ' : ev_S} (hl : ev_le sd σ σ') : ev_mn sd σ (fun _ => some (x, σ')) := fun _ _ h => Or.inl (by cases h; exact hl)
theorem ev_mn_K {pc : Nat} {ls st : List Value} {σ' : ev_S} (hl : ev_le sd σ σ') : ev_mn sd σ (fun K => K pc ls st σ') := fun _ _ h => Or.inr ⟨_, _, _, _, h, hl⟩
theorem ev_mn_ite {c : Prop} [Decidable c] {F G : ev_K → Option ev_R} (hF : ev_mn sd σ F) (hG : ev_mn sd σ G) : ev_mn sd σ (fun K => if c then F K else G K) := by
  by_cases h : c
  · simp only [h, if_true]; exact hF
  · simp only [h, if_false]; exact hG
theorem ev_mn_bif {b : Bool} {F G : ev_K → Option ev_R} (hF : ev_mn sd σ F) (hG : ev_mn sd σ G) : ev_mn sd σ (fun K => bif b then F K else G K) := by
  cases b
  · exact hG
  · exact hF
theorem ev_mn_cI {o : Option ev_R} {F : Int32 → ev_S → ev_K → Option ev_R} (ho : ∀ r, o = some r → ev_le sd σ r.2) (h : ∀ x σ', ev_le sd σ σ' → ev_mn sd σ (F x σ')) : ev_mn sd σ (fun K => ev_cI o (fun x σ => F x σ K)) := by
  unfold ev_cI
  split
  · exact h _ _ (ho _ rfl)
  · exact ev_mn_none
theorem ev_mn_cL {o : Option ev_R} {F : Int64 → ev_S → ev_K → Option ev_R} (ho : ∀ r, o = some r → ev_le sd σ r.2) (h : ∀ x σ', ev_le sd σ σ' → ev_mn sd σ (F x σ')) : ev_mn sd σ (fun K => ev_cL o (fun x σ => F x σ K)) := by
  unfold ev_cL
  split
  · exact h _ _ (ho _ rfl)
  · exact ev_mn_none
theorem ev_mn_cV {o : Option ev_R} {F : ev_S → ev_K → Option ev_R} (ho : ∀ r, o = some r → ev_le sd σ r.2) (h : ∀ σ', ev_le sd σ σ' → ev_mn sd σ (F σ')) : ev_mn sd σ (fun K => ev_cV o (fun σ => F σ K)) := by
  unfold ev_cV
  split
  · exact h _ (ho _ rfl)
  · exact ev_mn_none
theorem ev_mn_rc {b : Bool} {n ci : Nat} {args : List Value} {F : ev_K → Option ev_R} (h : ev_mn sd σ F) : ev_mn sd σ (fun K => ev_rc b n ci args (F K)) := by
  unfold ev_rc
  repeat' (first | exact ev_mn_none | exact h | apply ev_mn_bif | split)
theorem ev_mn_aI {v : Value} {x : Int32} {F : Int32 → ev_K → Option ev_R} {τ : ev_S} (h : ∀ x, ev_mn sd σ (F x)) : ev_mn sd σ (fun K => ev_aI τ v x (fun y => F y K)) := by
  unfold ev_aI
  repeat' (first | exact ev_mn_none | exact h _ | apply ev_mn_ite | split)
theorem ev_mn_sI {v : Value} {x y : Int32} {F : (Nat → Nat → Int32) → ev_K → Option ev_R} {τ : ev_S} (h : ∀ x, ev_mn sd σ (F x)) : ev_mn sd σ (fun K => ev_sI τ v x y (fun y => F y K)) := by
  unfold ev_sI
  repeat' (first | exact ev_mn_none | exact h _ | apply ev_mn_ite | split)
theorem ev_mn_sk1 : ∀ (ls : List Value) (n : Nat) (v : Value) (F : List Value → ev_K → Option ev_R) (_ : ∀ l, ev_mn sd σ (F l)), ev_mn sd σ (fun K => ev_sk1 ls n v (fun l => F l K))
  | [], _, _, _, _ => ev_mn_none
  | _ :: _, 0, _, _, h => h _
  | a :: t, 1, v, F, h => by
    exact ev_mn_sk1 t 0 v (fun t' K => bif Nat.beq a.category 2 then F (ev_U :: t') K else F (a :: t') K) (fun l => ev_mn_bif (h _) (h _))
  | a :: t, n + 2, v, F, h => ev_mn_sk1 t (n + 1) v (fun t' => F (a :: t')) (fun l => h _)
theorem ev_mn_sk2 : ∀ (ls : List Value) (n : Nat) (v : Value) (F : List Value → ev_K → Option ev_R) (_ : ∀ l, ev_mn sd σ (F l)), ev_mn sd σ (fun K => ev_sk2 ls n v (fun l => F l K))
  | [], _, _, _, _ => by simp only [ev_sk2]; exact ev_mn_none
  | [_], 0, _, _, _ => ev_mn_none
  | _ :: _ :: _, 0, _, _, h => h _
  | a :: t, 1, v, F, h => by
    simp only [ev_sk2]
    exact ev_mn_sk2 t 0 v (fun t' K => bif Nat.beq a.category 2 then F (ev_U :: t') K else F (a :: t') K) (fun l => ev_mn_bif (h _) (h _))
  | a :: t, n + 2, v, F, h => by
    simp only [ev_sk2]
    exact ev_mn_sk2 t (n + 1) v (fun t' => F (a :: t')) (fun l => h _)
theorem ev_mn_tsw (dflt lo hi : Int) (offs : Array Int) (pc : Nat) (x : Int32) (ls st : List Value) : ∀ n, ev_mn sd σ (fun K => ev_tsw dflt lo hi offs pc x (fun p => K p ls st σ) n)
  | 0 => ev_mn_K ev_le.rf
  | n + 1 => ev_mn_ite (ev_mn_K ev_le.rf) (ev_mn_tsw dflt lo hi offs pc x ls st n)
theorem ev_mn_lsw (dflt : Int) (pc : Nat) (x : Int32) (ls st : List Value) : ∀ l, ev_mn sd σ (fun K => ev_lsw dflt pc x (fun p => K p ls st σ) l)
  | [] => ev_mn_K ev_le.rf
  | (_, _) :: t => ev_mn_ite (ev_mn_K ev_le.rf) (ev_mn_lsw dflt pc x ls st t)
theorem ev_fx_le {σ' : ev_S} (h : ev_le sd σ σ') : ev_le sd σ (ev_fx sd σ σ') := by
  cases sd with
  | false => exact h
  | true => exact ⟨h.1, h.2.1, fun _ => ⟨rfl, rfl⟩⟩
theorem ev_moreN_le (b : Nat) : ∀ (a : Nat) (τ : ev_S), ev_c τ ≤ ev_c (ev_moreN b a τ) ∧ ev_s τ ≤ ev_s (ev_moreN b a τ)
  | 0, _ => ⟨Nat.le_refl _, Nat.le_refl _⟩
  | a + 1, τ => by
    obtain ⟨h1, h2⟩ := ev_moreN_le b a τ
    exact ⟨Nat.le_trans h1 (Nat.le_succ _), Nat.le_trans h2 (Nat.le_add_right _ _)⟩
theorem ev_more_le {n : Nat} : ev_le false σ (ev_more σ n) := ⟨Nat.le_succ _, Nat.le_add_right _ _, fun h => by cases h⟩
set_option maxHeartbeats 4000000 in
theorem ev_inv_mn {cf : ev_Me → List Value → ev_S → Option ev_R} (hcf : ∀ Mc args τ r', cf Mc args τ = some r' → ev_le sd τ r'.2) (M : ev_Me) (v s t : Bool) (idx pc : Nat) (ls st : List Value) : ev_mn sd σ (fun K => ev_inv sd cf M K v s t idx pc ls st σ) := by
  unfold ev_inv
  repeat' (first | exact ev_mn_none | exact ev_mn_K ev_le.rf | exact ev_mn_K ⟨Nat.le_refl _, Nat.le_refl _, fun _ => ⟨rfl, rfl⟩⟩ | exact ev_mn_cI (hcf _ _ _) (fun _ _ h => ev_mn_K (ev_fx_le h)) | exact ev_mn_cL (hcf _ _ _) (fun _ _ h => ev_mn_K (ev_fx_le h)) | exact ev_mn_cV (hcf _ _ _) (fun _ h => ev_mn_K (ev_fx_le h)) | apply ev_mn_bif | apply ev_mn_ite | apply ev_mn_rc | (split <;> try exact ev_mn_none) | intro _)
set_option maxHeartbeats 4000000 in
theorem ev_rd_mn (M : ev_Me) (i : Instr) (pc : Nat) (ls st : List Value) : ev_mn sd σ (fun K => ev_rd M K i pc ls st σ) := by
  unfold ev_rd
  repeat' (first | exact ev_mn_none | exact ev_mn_K ev_le.rf | exact ev_mn_aI (fun _ => ev_mn_K ev_le.rf) | apply ev_mn_bif | apply ev_mn_ite | (split <;> try exact ev_mn_none))
set_option maxHeartbeats 4000000 in
theorem ev_wr_mn (M : ev_Me) (i : Instr) (pc : Nat) (ls st : List Value) : ev_mn sd σ (fun K => ev_wr sd M K i pc ls st σ) := by
  unfold ev_wr
  cases sd with
  | true =>
    simp only [Bool.not_true, Bool.false_and, cond_false]
    repeat' (first | exact ev_mn_none | exact ev_mn_K ⟨Nat.le_refl _, Nat.le_refl _, fun _ => ⟨rfl, rfl⟩⟩ | exact ev_mn_sI (fun _ => ev_mn_K ⟨Nat.le_refl _, Nat.le_refl _, fun _ => ⟨rfl, rfl⟩⟩) | exact ev_mn_some ⟨Nat.le_succ _, Nat.le_add_right _ _, fun _ => ⟨rfl, rfl⟩⟩ | apply ev_mn_bif | apply ev_mn_ite | (split <;> try exact ev_mn_none))
  | false =>
    repeat' (first | exact ev_mn_none | exact ev_mn_K ⟨Nat.le_refl _, Nat.le_refl _, fun h => by cases h⟩ | exact ev_mn_K ev_more_le | exact ev_mn_K ⟨Nat.le_trans ev_more_le.1 (ev_moreN_le _ _ _).1, Nat.le_trans ev_more_le.2.1 (ev_moreN_le _ _ _).2, fun h => by cases h⟩ | exact ev_mn_sI (fun _ => ev_mn_K ⟨Nat.le_refl _, Nat.le_refl _, fun h => by cases h⟩) | exact ev_mn_some ⟨Nat.le_succ _, Nat.le_add_right _ _, fun h => by cases h⟩ | apply ev_mn_bif | apply ev_mn_ite | (split <;> try exact ev_mn_none))
set_option maxHeartbeats 4000000 in
theorem ev_pl_mn (M : ev_Me) (i : Instr) (pc : Nat) (ls st : List Value) : ev_mn sd σ (fun K => ev_pl M K i pc ls st σ) := by
  unfold ev_pl
  repeat' (first | exact ev_mn_none | exact ev_mn_K ev_le.rf | exact ev_mn_some ev_le.rf | exact ev_mn_tsw _ _ _ _ _ _ _ _ _ | exact ev_mn_lsw _ _ _ _ _ _ | exact ev_mn_sk1 _ _ _ (fun ls' K => K _ ls' _ _) (fun _ => ev_mn_K ev_le.rf) | apply ev_mn_bif | apply ev_mn_ite | (split <;> try exact ev_mn_none))
set_option maxHeartbeats 4000000 in
theorem ev_exe_mn {cf : ev_Me → List Value → ev_S → Option ev_R} (hcf : ∀ Mc args τ r', cf Mc args τ = some r' → ev_le sd τ r'.2) (M : ev_Me) (i : Instr) (pc : Nat) (ls st : List Value) : ev_mn sd σ (fun K => ev_exe sd cf M K i pc ls st σ) := by
  unfold ev_exe
  repeat' (first | exact ev_mn_none | exact ev_mn_K ev_le.rf | exact ev_inv_mn hcf _ _ _ _ _ _ _ _ | exact ev_mn_sk1 _ _ _ (fun ls' K => K _ ls' _ _) (fun _ => ev_mn_K ev_le.rf) | exact ev_mn_sk2 _ _ _ (fun ls' K => K _ ls' _ _) (fun _ => ev_mn_K ev_le.rf) | exact ev_rd_mn _ _ _ _ _ | exact ev_wr_mn _ _ _ _ _ | exact ev_pl_mn _ _ _ _ _ | apply ev_mn_bif | (split <;> try exact ev_mn_none))
theorem ev_seg_mn {cf : ev_Me → List Value → ev_S → Option ev_R} (hcf : ∀ Mc args τ r', cf Mc args τ = some r' → ev_le sd τ r'.2) (M : ev_Me) : ∀ (k pc : Nat) (ls st : List Value) (σ : ev_S), ev_mn sd σ (fun K => ev_seg sd cf M K k pc ls st σ)
  | 0, _, _, _, _ => ev_mn_none
  | k + 1, pc, ls, st, σ => by
    intro K r h
    simp only [ev_seg] at h
    cases hl : ev_lk M.2.2.2.2.2.1 pc with
    | none => simp [hl] at h
    | some x =>
      obtain ⟨i, n⟩ := x
      simp only [hl] at h
      rcases ev_exe_mn hcf M i pc ls st _ r h with h1 | ⟨p2, l2, s2, g2, h1, h2⟩
      · exact Or.inl h1
      · cases hc : ev_lk M.2.2.2.2.2.2 p2 with
        | some dead =>
          rw [hc] at h1
          exact Or.inr ⟨p2, _, s2, g2, h1, h2⟩
        | none =>
          rw [hc] at h1
          rcases ev_seg_mn hcf M k p2 l2 s2 g2 K r h1 with h3 | ⟨p3, l3, s3, g3, h3, h4⟩
          · exact Or.inl (h2.tr h3)
          · exact Or.inr ⟨p3, l3, s3, g3, h3, h2.tr h4⟩
theorem ev_run_mn {cf : ev_Me → List Value → ev_S → Option ev_R} (hcf : ∀ Mc args τ r', cf Mc args τ = some r' → ev_le sd τ r'.2) (M : ev_Me) : ∀ (f pc : Nat) (ls st : List Value) (σ : ev_S) (r : ev_R), ev_run sd cf M f pc ls st σ = some r → ev_le sd σ r.2
  | 0, _, _, _, _, _, h => by simp [ev_run] at h
  | f + 1, pc, ls, st, σ, r, h => by
    rw [ev_run] at h
    rcases ev_seg_mn hcf M 1000 pc ls st σ _ r h with h1 | ⟨p2, l2, s2, g2, h1, h2⟩
    · exact h1
    · exact h2.tr (ev_run_mn hcf M f p2 l2 s2 g2 r h1)
theorem ev_call_mn : ∀ (d : Nat) (M : ev_Me) (args : List Value) (τ : ev_S) (r : ev_R), ev_call sd d M args τ = some r → ev_le sd τ r.2
  | 0, _, _, _, _, h => by simp [ev_call] at h
  | d + 1, M, args, τ, r, h => by
    simp only [ev_call] at h
    cases hw : Nat.ble (ev_words args) M.2.2.1 with
    | false => rw [hw] at h; cases h
    | true =>
      rw [hw] at h
      obtain ⟨f, hf⟩ := ev_lim_iff.mp h
      exact ev_run_mn (ev_call_mn d) M f _ _ _ _ _ hf
end EVMN
end
section
/-- all that the tables owe -/
def ev_T : Prop := ev_TF ∧ ev_TC ∧ ev_TK ∧ ev_TN ∧ ev_TX ∧ ev_TA ∧ ev_TM
section EVTOP
variable {p : Program} {l : Launch} {e : Env} {R : Room} {s : State} {m : MethodId} {args : Array Value} {below : List Frame} {meth : Method} {c : Code} {g : ev_G} {sd : Bool} {d : Nat} {M : ev_Me} {σ0 : ev_S} {r : ev_R}
set_option maxHeartbeats 4000000 in
theorem ev_exe_ok (hT : ev_T) (hl0 : l.stackTraces = false) (hrows : ev_rows M) (hA : ev_At p g M s m args meth c) {i : Instr} {pc : Nat} {ls st : List Value} {σ : ev_S} {d' : Nat} (hd : d = d' + 1) {cf : ev_Me → List Value → ev_S → Option ev_R} (hcf : ∀ Mc args σ r', cf Mc args σ = some r' → ev_MOk Mc → ev_Met l g d' Mc args σ r' ∧ ev_le sd σ r'.2) (hdg : decode M.2.1 pc = .ok (i, ev_len pc i)) (hj : ev_jok pc i = true) {K : ev_K} (hK : ∀ pc' ls' st' σ', K pc' ls' st' σ' = some r → ev_P p l e s m args below meth c g sd d M σ0 r pc' ls' st' σ')
    (h : ev_exe sd cf M K i pc ls st σ = some r) : ev_P p l e s m args below meth c g sd d M σ0 r pc ls st σ := by
  obtain ⟨hTF, hTC, hTK, hTN, hTX, hTA, hTM⟩ := hT
  unfold ev_exe at h
  split at h
  · rename_i v n hc
    exact ev_con_ok hA hdg hc (hK _ _ _ _ h)
  split at h
  · rename_i t k n hc
    split at h
    · rename_i v hn
      cases hi : ev_is v t with
      | false => rw [hi] at h; cases h
      | true =>
        rw [hi] at h
        exact ev_loa_ok hA hdg hc hn hi (hK _ _ _ _ h)
    · cases h
  split at h
  · rename_i t k n hc
    split at h
    · rename_i v rest
      cases hi : ev_is v t with
      | false => rw [hi] at h; cases h
      | true =>
        rw [hi] at h
        exact ev_sto_ok hA hdg hc hi hK h
    · cases h
  split at h
  · rename_i f hc
    split at h
    · exact ev_i2_ok hA hdg hc (hK _ _ _ _ h)
    · cases h
  split at h
  · rename_i f hc
    split at h
    · exact ev_i1_ok hA hdg hc (hK _ _ _ _ h)
    · cases h
  split at h
  · rename_i f hc
    split at h
    · exact ev_l2_ok hA hdg hc (hK _ _ _ _ h)
    · cases h
  split at h
  · rename_i f hc
    split at h
    · exact ev_l3_ok hA hdg hc (hK _ _ _ _ h)
    · cases h
  split at h
  · exact ev_inv_ok hTM hTC hA hd hcf hK (fun _ => hdg) (fun z => by cases z) (fun z => by cases z) h
  · exact ev_inv_ok hTM hTC hA hd hcf hK (fun z => by cases z) (fun _ => hdg) (fun z => by cases z) h
  · exact ev_inv_ok hTM hTC hA hd hcf hK (fun z => by cases z) (fun z => by cases z) (fun _ => hdg) h
  · exact ev_rd_ok hTF hTC hTK hA hdg hK h
  · exact ev_rd_ok hTF hTC hTK hA hdg hK h
  · exact ev_rd_ok hTF hTC hTK hA hdg hK h
  · exact ev_rd_ok hTF hTC hTK hA hdg hK h
  · exact ev_rd_ok hTF hTC hTK hA hdg hK h
  · exact ev_rd_ok hTF hTC hTK hA hdg hK h
  · exact ev_rd_ok hTF hTC hTK hA hdg hK h
  · exact ev_rd_ok hTF hTC hTK hA hdg hK h
  · exact ev_rd_ok hTF hTC hTK hA hdg hK h
  · exact ev_rd_ok hTF hTC hTK hA hdg hK h
  · exact ev_rd_ok hTF hTC hTK hA hdg hK h
  · exact ev_put_ok hTF hTC hA hdg hK h
  · exact ev_ast_ok hTC hA (Or.inl rfl) hdg hK h
  · exact ev_ast_ok hTC hA (Or.inr (Or.inl rfl)) hdg hK h
  · exact ev_ast_ok hTC hA (Or.inr (Or.inr (Or.inl rfl))) hdg hK h
  · exact ev_ast_ok hTC hA (Or.inr (Or.inr (Or.inr (Or.inl rfl)))) hdg hK h
  · exact ev_ast_ok hTC hA (Or.inr (Or.inr (Or.inr (Or.inr rfl)))) hdg hK h
  · exact ev_new_ok hl0 hTC hTN hTX hrows hA hdg hK h
  · exact ev_arr_ok hTN hTA hA (Or.inl ⟨_, rfl⟩) hdg hK h
  · exact ev_arr_ok hTN hTA hA (Or.inr (Or.inl ⟨_, rfl⟩)) hdg hK h
  · exact ev_arr_ok hTN hTA hA (Or.inr (Or.inr ⟨_, _, rfl⟩)) hdg hK h
  · exact ev_pl_ok hA hdg hj hK h
theorem ev_set_nth {α : Type} : ∀ {ls : List α} {k i : Nat} {u w : α}, ev_nth (ev_set ls k u) i = some w → (i = k ∧ w = u) ∨ ev_nth ls i = some w
  | [], _, _, _, _, h => by simp [ev_set, ev_nth] at h
  | a :: t, 0, 0, u, w, h => by simp [ev_set, ev_nth] at h; exact Or.inl ⟨rfl, h.symm⟩
  | a :: t, 0, i + 1, u, w, h => Or.inr h
  | a :: t, k + 1, 0, u, w, h => Or.inr h
  | a :: t, k + 1, i + 1, u, w, h => by
    rcases ev_set_nth (ls := t) (k := k) (i := i) h with ⟨e1, e2⟩ | e1
    · exact Or.inl ⟨by omega, e2⟩
    · exact Or.inr e1
theorem ev_set_len {α : Type} : ∀ {ls : List α} {k : Nat} {u : α}, (ev_set ls k u).length = ls.length
  | [], _, _ => rfl
  | _ :: _, 0, _ => rfl
  | _ :: t, k + 1, u => by simp [ev_set, ev_set_len (ls := t) (k := k) (u := u)]
theorem ev_lv.clr {lc : Array Slot} {n : Nat} : ∀ {dead : List Nat} {ls : List Value}, ev_lv g lc n ls → ev_lv g lc n (ev_clr ls dead)
  | [], _, h => h
  | k :: t, ls, h => by
    unfold ev_clr
    refine ev_lv.clr (dead := t) ⟨h.1, ev_set_len.trans h.2.1, h.2.2.1, fun i w hi hw => ?_⟩
    rcases ev_set_nth hi with ⟨-, e2⟩ | e1
    · exact absurd e2 hw
    · exact h.2.2.2 i w e1 hw
theorem ev_P.weak {pc : Nat} {ls ls2 st : List Value} {σ : ev_S} (hw : ∀ lc, ev_lv g lc M.2.2.1 ls → ev_lv g lc M.2.2.1 ls2) (h : ev_P p l e s m args below meth c g sd d M σ0 r pc ls2 st σ) : ev_P p l e s m args below meth c g sd d M σ0 r pc ls st σ := by
  intro h0
  obtain ⟨g1, g2⟩ := h h0
  exact ⟨g1, fun H lc locs hR hl hS => g2 H lc locs hR (hw lc hl) hS⟩
theorem ev_seg_ok (hT : ev_T) (hl0 : l.stackTraces = false) (hrows : ev_rows M) (hA : ev_At p g M s m args meth c) {d' : Nat} (hd : d = d' + 1) {cf : ev_Me → List Value → ev_S → Option ev_R} (hcf : ∀ Mc args σ r', cf Mc args σ = some r' → ev_MOk Mc → ev_Met l g d' Mc args σ r' ∧ ev_le sd σ r'.2) {back : ev_K} (hB : ∀ pc' ls' st' σ', back pc' ls' st' σ' = some r → ev_P p l e s m args below meth c g sd d M σ0 r pc' ls' st' σ') :
    ∀ (k pc : Nat) (ls st : List Value) (σ : ev_S), ev_seg sd cf M back k pc ls st σ = some r → ev_P p l e s m args below meth c g sd d M σ0 r pc ls st σ
  | 0, _, _, _, _, h => by simp [ev_seg] at h
  | k + 1, pc, ls, st, σ, h => by
    simp only [ev_seg] at h
    split at h
    · rename_i i n hlk
      obtain ⟨hdg, hj⟩ := hrows _ _ _ hlk
      refine ev_exe_ok hT hl0 hrows hA hd hcf hdg hj (fun pc' ls' st' σ' h' => ?_) h
      split at h'
      · exact ev_P.weak (fun lc hl => hl.clr) (hB _ _ _ _ h')
      · exact ev_seg_ok hT hl0 hrows hA hd hcf hB k _ _ _ _ h'
    · cases h
theorem ev_run_ok (hT : ev_T) (hl0 : l.stackTraces = false) (hrows : ev_rows M) (hA : ev_At p g M s m args meth c) {d' : Nat} (hd : d = d' + 1) {cf : ev_Me → List Value → ev_S → Option ev_R} (hcf : ∀ Mc args σ r', cf Mc args σ = some r' → ev_MOk Mc → ev_Met l g d' Mc args σ r' ∧ ev_le sd σ r'.2) :
    ∀ (f pc : Nat) (ls st : List Value) (σ : ev_S), ev_run sd cf M f pc ls st σ = some r → ev_P p l e s m args below meth c g sd d M σ0 r pc ls st σ
  | 0, _, _, _, _, h => by simp [ev_run] at h
  | f + 1, pc, ls, st, σ, h => ev_seg_ok hT hl0 hrows hA hd hcf (fun _ _ _ _ h' => ev_run_ok hT hl0 hrows hA hd hcf f _ _ _ _ h') 1000 pc ls st σ h
end EVTOP
theorem ev_ent_args {g : ev_G} (hf : g.2.2.2.2.2.1.category = 1) : ∀ {args : List Value} {n k i : Nat} {v : Value}, ev_words args ≤ n → ev_nth (ev_ent args n) i = some v → v ≠ ev_U → (k + i, ev_uv g v) ∈ lv_args k (args.map (ev_uv g))
  | [], n, k, i, v, _, h, hv => by
    simp only [ev_ent] at h
    exfalso
    have hm := ev_nth_mem h
    rw [List.mem_replicate] at hm
    exact hv hm.2
  | a :: t, n, k, i, v, hw, h, hv => by
    have hc := ev_uv_cat hf a
    have hw' : a.category + ev_words t ≤ n := hw
    rw [List.map_cons, lv_args, hc]
    simp only [ev_ent] at h
    rcases lv_cat a with ha | ha
    · rw [if_neg (by omega)]
      rw [ha] at h
      have h' : ev_nth (a :: ev_ent t (n - 1)) i = some v := h
      match i, h' with
      | 0, h => simp [ev_nth] at h; subst h; exact List.mem_cons_self
      | i + 1, h =>
        have := ev_ent_args hf (k := k + 1) (i := i) (by omega) h hv
        rw [show k + 1 + i = k + (i + 1) by omega] at this
        exact List.mem_cons_of_mem _ this
    · rw [if_pos ha]
      rw [ha] at h
      have h' : ev_nth (a :: ev_U :: ev_ent t (n - 2)) i = some v := h
      match i, h' with
      | 0, h => simp [ev_nth] at h; subst h; exact List.mem_cons_self
      | 1, h => simp [ev_nth] at h; exact absurd h.symm hv
      | i + 2, h =>
        have := ev_ent_args hf (k := k + 2) (i := i) (by omega) h hv
        rw [show k + 2 + i = k + (i + 2) by omega] at this
        exact List.mem_cons_of_mem _ this
theorem ev_ent_len : ∀ {args : List Value} {n : Nat}, ev_words args ≤ n → (ev_ent args n).length = n
  | [], n, _ => by simp [ev_ent]
  | a :: t, n, h => by
    have h' : a.category + ev_words t ≤ n := h
    simp only [ev_ent]
    rcases lv_cat a with ha | ha
    · rw [ha] at h' ⊢
      show (a :: ev_ent t (n - 1)).length = n
      rw [List.length_cons, ev_ent_len (by omega)]; omega
    · rw [ha] at h' ⊢
      show (a :: ev_U :: ev_ent t (n - 2)).length = n
      rw [List.length_cons, List.length_cons, ev_ent_len (by omega)]; omega
theorem ev_sl_len {g : ev_G} (hf : g.2.2.2.2.2.1.category = 1) : ∀ args : List Value, (lg_sl (args.map (ev_uv g))).length = ev_words args
  | [] => rfl
  | a :: t => by
    have hc := ev_uv_cat hf a
    have ih := ev_sl_len hf t
    show (lg_sl (ev_uv g a :: t.map (ev_uv g))).length = a.category + ev_words t
    unfold lg_sl at ih ⊢
    rw [List.flatMap_cons, List.length_append, ih, hc]
    rcases lv_cat a with ha | ha
    · rw [if_neg (by omega), ha]; rfl
    · rw [if_pos ha, ha]; rfl
/-- THE EVALUATOR IS SOUND: what a call answers in it, the machine does -/
theorem ev_call_ok (hT : ev_T) {l : Launch} (hl0 : l.stackTraces = false) {g : ev_G} {sd : Bool} : ∀ (d : Nat) (M : ev_Me) (args : List Value) (σ : ev_S) (r : ev_R), ev_call sd d M args σ = some r → ev_MOk M → ev_Met l g d M args σ r ∧ ev_le sd σ r.2
  | 0, _, _, _, _, h, _ => by simp [ev_call] at h
  | d + 1, M, args, σ, r, h, hOk => by
    simp only [ev_call] at h
    cases hw : Nat.ble (ev_words args) M.2.2.1 with
    | false => rw [hw] at h; cases h
    | true =>
      rw [hw] at h
      have hw' := Nat.le_of_ble_eq_true hw
      obtain ⟨f, hf⟩ := ev_lim_iff.mp h
      have key : ∀ p e s m (a : Array Value) below meth c s₁, BodyLoose p l M.1 (headSpec (ev_wsM M) (ev_rm (d + 1) σ r.2)) M.2.1 M.2.2.1 M.2.2.2.1 e s m a below meth c s₁ → c.maxLocals = M.2.2.1 → (∀ x ∈ c.exceptionTable.toList, False) → ev_Pc g args σ a s → ev_le sd σ r.2 ∧ W p l e (ev_rm (d + 1) σ r.2) s m a below meth c s.heap [] 0 0 (vx_MQ below (ev_Qc g r) (ev_XC g r) a s (ev_c r.2 - ev_c σ) (ev_s r.2 - ev_s σ) (ev_A g)) (entryFrame m a M.2.2.1) := by
        intro p e s m a below meth c s₁ B hml htab hPc
        obtain ⟨rfl, hR, hCx⟩ := hPc
        have hfv := hCx.2.2.2.2.2.2.2.2.2.2
        have hts := atoms_spec (ws := ev_wsM M) B.pre
        have hA : ev_At p g M s m (args.map (ev_uv g)).toArray meth c := ⟨B.exec, B.bytes, hml, B.returns, B.notSynchronized, by rw [← hOk.2.2.2.1]; exact findClass_of_methodNamed B.named, (name_of_methodNamed B.named B.method).1, fun x hx => (htab x hx).elim, fun w hw => hts w (List.mem_cons_of_mem _ hw), hCx, hR.2.2.1, by have := hR.1; omega⟩
        have hP := ev_run_ok (σ0 := σ) (below := below) (e := e) hT hl0 hOk.2.1 hA rfl (fun Mc a2 σ2 r2 h2 ok2 => ev_call_ok hT hl0 d Mc a2 σ2 r2 h2 ok2) f 0 _ _ _ hf
        obtain ⟨g1, g2⟩ := hP ev_le.rf
        refine ⟨g1, ?_⟩
        rw [lg_entry_eq]
        have hl := lv_entry (args.map (ev_uv g)) (n := M.2.2.1) (by rw [ev_sl_len hfv]; exact hw')
        have := g2 s.heap _ [] hR ⟨hl.1, ev_ent_len hw', hl.2.1, fun i v hi hv => hl.2.2 (i, ev_uv g v) (by have := ev_ent_args hfv (k := 0) hw' hi hv; rwa [Nat.zero_add] at this)⟩ va_S.rf
        rw [Nat.sub_self, Nat.sub_self] at this
        exact this
      refine ⟨vx_ofW (cc := M.2.1) (maxL := M.2.2.1) (ret := M.2.2.2.1) hOk.2.2.2.2.1 rfl (fun p e s m a below meth c s₁ B hml htab hPc => (key p e s m a below meth c s₁ B hml htab hPc).2), ev_call_mn (d + 1) M args σ r (by simp only [ev_call]; rw [hw]; exact h)⟩
end
section
/-! What the tables owe. -/
def ev_ck : Nat → Nat → Option Cond
  | 0, i => ev_nth (k2_sels lw_privs) i
  | 1, i => ev_nth tables_1_1 i
  | 2, i => ev_nth tables_1_2 i
  | 3, i => ev_nth tables_1_3 i
  | 4, i => ev_nth tables_1_4 i
  | 5, i => ev_nth tables_1_5 i
  | 6, i => ev_nth tables_1_6 i
  | 7, i => ev_nth tables_1_7 i
  | 8, i => ev_nth tables_1_8 i
  | _, _ => none
theorem ev_ck_mem {c i : Nat} {w : Cond} (h : ev_ck c i = some w) : w ∈ lw_tbl := by
  unfold lw_tbl tables_1
  simp only [List.mem_append]
  unfold ev_ck at h
  split at h
  · exact Or.inl (ev_nth_mem h)
  · have := ev_nth_mem h; simp only [this, true_or, or_true]
  · have := ev_nth_mem h; simp only [this, true_or, or_true]
  · have := ev_nth_mem h; simp only [this, true_or, or_true]
  · have := ev_nth_mem h; simp only [this, true_or, or_true]
  · have := ev_nth_mem h; simp only [this, true_or, or_true]
  · have := ev_nth_mem h; simp only [this, true_or, or_true]
  · have := ev_nth_mem h; simp only [this, true_or, or_true]
  · have := ev_nth_mem h; simp only [this, true_or, or_true]
  · cases h
def ev_hw (h : Nat) (w : Cond) : Bool := match ev_ck (h / 1000) (h % 1000) with
  | some x => decide (x = w) && goodWord w
  | none => false
theorem ev_hw_ok {h : Nat} {w : Cond} (hh : ev_hw h w = true) : w ∈ ev_gw := by
  unfold ev_hw at hh
  split at hh
  · rename_i x hx
    obtain ⟨h1, h2⟩ := Bool.and_eq_true_iff.mp hh
    rw [← of_decide_eq_true h1]
    exact List.mem_filter.mpr ⟨ev_ck_mem hx, by rw [of_decide_eq_true h1]; exact h2⟩
  · cases hh
def ev_hn (h : Nat) (w : Cond) : Bool := match ev_ck (h / 1000) (h % 1000) with
  | some x => decide (x = w)
  | none => false
theorem ev_hn_ok {h : Nat} {w : Cond} (hh : ev_hn h w = true) : w ∈ lw_tbl := by
  unfold ev_hn at hh
  split at hh
  · rename_i x hx
    rw [← of_decide_eq_true hh]
    exact ev_ck_mem hx
  · cases hh
theorem ev_lk_mem {α : Type} : ∀ {L : List (Nat × α)} {k : Nat} {v : α}, ev_lk L k = some v → (k, v) ∈ L
  | [], _, _, h => by simp [ev_lk] at h
  | (a, b) :: t, k, v, h => by
    simp only [ev_lk] at h
    cases e : Nat.beq a k with
    | true =>
      rw [e] at h
      have e2 := Nat.eq_of_beq_eq_true e
      simp only [cond_true, Option.some.injEq] at h
      subst e2; subst h
      exact List.mem_cons_self
    | false =>
      rw [e] at h
      exact List.mem_cons_of_mem _ (ev_lk_mem h)
def ev_rowsB (M : ev_Me) : Bool := M.2.2.2.2.2.1.all (fun q => decide (decode M.2.1 q.1 = .ok (q.2.1, ev_len q.1 q.2.1)) && ev_jok q.1 q.2.1)
def ev_okB (h : Nat) (M : ev_Me) : Bool := ev_hw h (.code M.1 M.2.1 M.2.2.1 M.2.2.2.1) && ev_rowsB M && Nat.ble M.2.2.1 80 && decide (M.1.cls = ev_cn M.2.2.2.2.1) && plainName M.1.cls && decide (M.1.cls ≠ "java/lang/invoke/MethodHandle") && decide (M.1.cls ≠ "java/lang/invoke/VarHandle")
theorem ev_okB_ok {h : Nat} {M : ev_Me} (hh : ev_okB h M = true) : ev_MOk M := by
  unfold ev_okB at hh
  simp only [Bool.and_eq_true] at hh
  obtain ⟨⟨⟨⟨⟨⟨h1, h2⟩, h3⟩, h4⟩, h5⟩, h6⟩, h7⟩ := hh
  refine ⟨ev_hw_ok h1, fun pc i n hl => ?_, Nat.le_of_ble_eq_true h3, of_decide_eq_true h4, h5, of_decide_eq_true h6, of_decide_eq_true h7⟩
  have := List.all_eq_true.mp h2 _ (ev_lk_mem hl)
  simp only [Bool.and_eq_true, decide_eq_true_eq] at this
  exact this

theorem ok_M_Acts_lengthOf : ev_MOk M_Acts_lengthOf := ev_okB_ok (h := 3235) (by decide +kernel)
theorem ok_M_Acts_faultIn : ev_MOk M_Acts_faultIn := ev_okB_ok (h := 3227) (by decide +kernel)
theorem ok_M_Acts_canStand : ev_MOk M_Acts_canStand := ev_okB_ok (h := 3232) (by decide +kernel)
theorem ok_M_Book_init : ev_MOk M_Book_init := ev_okB_ok (h := 1072) (by decide +kernel)
theorem ok_M_Book_has : ev_MOk M_Book_has := ev_okB_ok (h := 3219) (by decide +kernel)
theorem ok_M_Book_hasBoth : ev_MOk M_Book_hasBoth := ev_okB_ok (h := 4037) (by decide +kernel)
theorem ok_M_Book_hasSign : ev_MOk M_Book_hasSign := ev_okB_ok (h := 3215) (by decide +kernel)
theorem ok_M_Book_faultIn : ev_MOk M_Book_faultIn := ev_okB_ok (h := 3035) (by decide +kernel)
theorem ok_M_Book_takeLines : ev_MOk M_Book_takeLines := ev_okB_ok (h := 3050) (by decide +kernel)
theorem ok_M_Book_closeLine : ev_MOk M_Book_closeLine := ev_okB_ok (h := 3054) (by decide +kernel)
theorem ok_M_Book_letterOf : ev_MOk M_Book_letterOf := ev_okB_ok (h := 3043) (by decide +kernel)
theorem ok_M_Book_isSaid : ev_MOk M_Book_isSaid := ev_okB_ok (h := 3046) (by decide +kernel)
theorem ok_M_Book_mute : ev_MOk M_Book_mute := ev_okB_ok (h := 3211) (by decide +kernel)
theorem ok_M_Book_placesOf : ev_MOk M_Book_placesOf := ev_okB_ok (h := 3161) (by decide +kernel)
theorem ok_M_Book_lettersAt : ev_MOk M_Book_lettersAt := ev_okB_ok (h := 4136) (by decide +kernel)
theorem ok_M_Book_unsaidLetters : ev_MOk M_Book_unsaidLetters := ev_okB_ok (h := 4132) (by decide +kernel)
theorem ok_M_Book_gone : ev_MOk M_Book_gone := ev_okB_ok (h := 3157) (by decide +kernel)
theorem ok_M_Book_bare : ev_MOk M_Book_bare := ev_okB_ok (h := 3058) (by decide +kernel)
theorem ok_M_Book_spell : ev_MOk M_Book_spell := ev_okB_ok (h := 3153) (by decide +kernel)
theorem ok_M_Book_spellAll : ev_MOk M_Book_spellAll := ev_okB_ok (h := 3149) (by decide +kernel)
theorem ok_M_Book_areOne : ev_MOk M_Book_areOne := ev_okB_ok (h := 4144) (by decide +kernel)
theorem ok_M_Book_areTwins : ev_MOk M_Book_areTwins := ev_okB_ok (h := 3169) (by decide +kernel)
theorem ok_M_Measure_init : ev_MOk M_Measure_init := ev_okB_ok (h := 1235) (by decide +kernel)
theorem ok_M_Measure_lay : ev_MOk M_Measure_lay := ev_okB_ok (h := 4049) (by decide +kernel)
theorem ok_M_Measure_layBoth : ev_MOk M_Measure_layBoth := ev_okB_ok (h := 4045) (by decide +kernel)
theorem ok_M_Measure_edits : ev_MOk M_Measure_edits := ev_okB_ok (h := 4041) (by decide +kernel)
theorem ok_M_Measure_editsAt : ev_MOk M_Measure_editsAt := ev_okB_ok (h := 4054) (by decide +kernel)
theorem ok_M_Measure_inCommon : ev_MOk M_Measure_inCommon := ev_okB_ok (h := 4100) (by decide +kernel)
theorem ok_M_Measure_inCommonAt : ev_MOk M_Measure_inCommonAt := ev_okB_ok (h := 4104) (by decide +kernel)
theorem ok_M_Measure_stepsTo : ev_MOk M_Measure_stepsTo := ev_okB_ok (h := 4063) (by decide +kernel)
theorem ok_M_Measure_markNear : ev_MOk M_Measure_markNear := ev_okB_ok (h := 4067) (by decide +kernel)
theorem ok_M_Measure_stepFrom : ev_MOk M_Measure_stepFrom := ev_okB_ok (h := 4073) (by decide +kernel)
theorem ok_M_Notices_init : ev_MOk M_Notices_init := ev_okB_ok (h := 2028) (by decide +kernel)
theorem ok_M_Notices_hasRoom : ev_MOk M_Notices_hasRoom := ev_okB_ok (h := 4175) (by decide +kernel)
theorem ok_M_Notices_take : ev_MOk M_Notices_take := ev_okB_ok (h := 4179) (by decide +kernel)
theorem ok_M_Notices_agreeWith : ev_MOk M_Notices_agreeWith := ev_okB_ok (h := 4195) (by decide +kernel)
theorem ok_M_Past_init : ev_MOk M_Past_init := ev_okB_ok (h := 1145) (by decide +kernel)
theorem ok_M_Past_remember : ev_MOk M_Past_remember := ev_okB_ok (h := 3105) (by decide +kernel)
theorem ok_M_Past_bringBack : ev_MOk M_Past_bringBack := ev_okB_ok (h := 4010) (by decide +kernel)
theorem ok_M_Past_keepUnder : ev_MOk M_Past_keepUnder := ev_okB_ok (h := 5047) (by decide +kernel)
theorem ok_M_Past_takeUp : ev_MOk M_Past_takeUp := ev_okB_ok (h := 5055) (by decide +kernel)
theorem ok_M_Past_forgetAll : ev_MOk M_Past_forgetAll := ev_okB_ok (h := 3062) (by decide +kernel)
theorem ok_M_Row_init : ev_MOk M_Row_init := ev_okB_ok (h := 1056) (by decide +kernel)
theorem ok_M_Row_tell : ev_MOk M_Row_tell := ev_okB_ok (h := 3179) (by decide +kernel)
theorem ok_M_Row_tellTwo : ev_MOk M_Row_tellTwo := ev_okB_ok (h := 3175) (by decide +kernel)
theorem ok_M_Row_tellFraction : ev_MOk M_Row_tellFraction := ev_okB_ok (h := 4236) (by decide +kernel)
theorem ok_M_Rule_init : ev_MOk M_Rule_init := ev_okB_ok (h := 1172) (by decide +kernel)
theorem ok_M_Rule_bePlain : ev_MOk M_Rule_bePlain := ev_okB_ok (h := 2047) (by decide +kernel)
theorem ok_M_Rule_copy : ev_MOk M_Rule_copy := ev_okB_ok (h := 3077) (by decide +kernel)
theorem ok_M_Rule_read : ev_MOk M_Rule_read := ev_okB_ok (h := 3070) (by decide +kernel)
theorem ok_M_Rule_begin : ev_MOk M_Rule_begin := ev_okB_ok (h := 2051) (by decide +kernel)
theorem ok_M_Rule_accepts : ev_MOk M_Rule_accepts := ev_okB_ok (h := 2104) (by decide +kernel)
theorem ok_M_Rule_acceptsDigit : ev_MOk M_Rule_acceptsDigit := ev_okB_ok (h := 2108) (by decide +kernel)
theorem ok_M_Rule_opens : ev_MOk M_Rule_opens := ev_okB_ok (h := 2139) (by decide +kernel)
theorem ok_M_Rule_closes : ev_MOk M_Rule_closes := ev_okB_ok (h := 2116) (by decide +kernel)
theorem ok_M_Rule_acceptsBetween : ev_MOk M_Rule_acceptsBetween := ev_okB_ok (h := 2131) (by decide +kernel)
theorem ok_M_Rule_moveDownTo : ev_MOk M_Rule_moveDownTo := ev_okB_ok (h := 2120) (by decide +kernel)
theorem ok_M_Rule_rankOf : ev_MOk M_Rule_rankOf := ev_okB_ok (h := 2123) (by decide +kernel)
theorem ok_M_Rule_emit : ev_MOk M_Rule_emit := ev_okB_ok (h := 2112) (by decide +kernel)
theorem ok_M_Rule_push : ev_MOk M_Rule_push := ev_okB_ok (h := 2135) (by decide +kernel)
theorem ok_M_Rule_pop : ev_MOk M_Rule_pop := ev_okB_ok (h := 2127) (by decide +kernel)
theorem ok_M_Rule_workOut : ev_MOk M_Rule_workOut := ev_okB_ok (h := 3142) (by decide +kernel)
theorem ok_M_Rule_between : ev_MOk M_Rule_between := ev_okB_ok (h := 3145) (by decide +kernel)
theorem ok_M_State_init : ev_MOk M_State_init := ev_okB_ok (h := 1103) (by decide +kernel)
theorem ok_M_State_copy : ev_MOk M_State_copy := ev_okB_ok (h := 3109) (by decide +kernel)
theorem ok_M_State_moodsTogether : ev_MOk M_State_moodsTogether := ev_okB_ok (h := 3094) (by decide +kernel)
theorem ok_M_State_putOffer : ev_MOk M_State_putOffer := ev_okB_ok (h := 3188) (by decide +kernel)
theorem ok_M_State_stir : ev_MOk M_State_stir := ev_okB_ok (h := 3203) (by decide +kernel)
theorem ok_M_Text_init : ev_MOk M_Text_init := ev_okB_ok (h := 1038) (by decide +kernel)
theorem ok_M_Text_signAt : ev_MOk M_Text_signAt := ev_okB_ok (h := 3040) (by decide +kernel)
theorem ok_M_Text_takeFour : ev_MOk M_Text_takeFour := ev_okB_ok (h := 3023) (by decide +kernel)
theorem ok_M_Union_init : ev_MOk M_Union_init := ev_okB_ok (h := 1203) (by decide +kernel)
theorem ok_M_Union_tally : ev_MOk M_Union_tally := ev_okB_ok (h := 3127) (by decide +kernel)
theorem ok_M_Union_grudge : ev_MOk M_Union_grudge := ev_okB_ok (h := 3132) (by decide +kernel)
theorem ok_M_Union_priceOf : ev_MOk M_Union_priceOf := ev_okB_ok (h := 4211) (by decide +kernel)
theorem ok_M_Union_strikers : ev_MOk M_Union_strikers := ev_okB_ok (h := 3123) (by decide +kernel)
theorem ok_M_Union_passDays : ev_MOk M_Union_passDays := ev_okB_ok (h := 3115) (by decide +kernel)
theorem ok_M_Union_passDay : ev_MOk M_Union_passDay := ev_okB_ok (h := 3119) (by decide +kernel)
theorem ok_M_Union_pairsThatFall : ev_MOk M_Union_pairsThatFall := ev_okB_ok (h := 3165) (by decide +kernel)
theorem ok_M_SL_init : ev_MOk M_SL_init := ev_okB_ok (h := 1030) (by decide +kernel)
theorem ok_M_SL_sign : ev_MOk M_SL_sign := ev_okB_ok (h := 3019) (by decide +kernel)
theorem ok_M_SL_end : ev_MOk M_SL_end := ev_okB_ok (h := 3027) (by decide +kernel)
theorem ok_M_SL_words : ev_MOk M_SL_words := ev_okB_ok (h := 3031) (by decide +kernel)
theorem ok_M_SL_rule : ev_MOk M_SL_rule := ev_okB_ok (h := 3066) (by decide +kernel)
theorem ok_M_SL_word : ev_MOk M_SL_word := ev_okB_ok (h := 5068) (by decide +kernel)
theorem ok_M_SL_at : ev_MOk M_SL_at := ev_okB_ok (h := 5145) (by decide +kernel)
theorem ok_M_SL_letter : ev_MOk M_SL_letter := ev_okB_ok (h := 5154) (by decide +kernel)
theorem ok_M_SL_sheet : ev_MOk M_SL_sheet := ev_okB_ok (h := 3084) (by decide +kernel)
theorem ok_M_SL_days : ev_MOk M_SL_days := ev_okB_ok (h := 3101) (by decide +kernel)
theorem ok_M_SL_offer : ev_MOk M_SL_offer := ev_okB_ok (h := 3183) (by decide +kernel)
theorem ok_M_SL_stirs : ev_MOk M_SL_stirs := ev_okB_ok (h := 3199) (by decide +kernel)
theorem ok_M_SL_mutes : ev_MOk M_SL_mutes := ev_okB_ok (h := 3207) (by decide +kernel)
theorem ok_M_SL_year : ev_MOk M_SL_year := ev_okB_ok (h := 3224) (by decide +kernel)
theorem ok_M_SL_undo : ev_MOk M_SL_undo := ev_okB_ok (h := 4006) (by decide +kernel)
theorem ok_M_SL_looks : ev_MOk M_SL_looks := ev_okB_ok (h := 4014) (by decide +kernel)
theorem ok_M_SL_kinds : ev_MOk M_SL_kinds := ev_okB_ok (h := 4024) (by decide +kernel)
theorem ok_M_SL_apart : ev_MOk M_SL_apart := ev_okB_ok (h := 4033) (by decide +kernel)
theorem ok_M_SL_chain : ev_MOk M_SL_chain := ev_okB_ok (h := 4059) (by decide +kernel)
theorem ok_M_SL_ahead : ev_MOk M_SL_ahead := ev_okB_ok (h := 4078) (by decide +kernel)
theorem ok_M_SL_falls : ev_MOk M_SL_falls := ev_okB_ok (h := 4082) (by decide +kernel)
theorem ok_M_SL_when : ev_MOk M_SL_when := ev_okB_ok (h := 4091) (by decide +kernel)
theorem ok_M_SL_shared : ev_MOk M_SL_shared := ev_okB_ok (h := 4096) (by decide +kernel)
theorem ok_M_SL_crossest : ev_MOk M_SL_crossest := ev_okB_ok (h := 4109) (by decide +kernel)
theorem ok_M_SL_must : ev_MOk M_SL_must := ev_okB_ok (h := 4115) (by decide +kernel)
theorem ok_M_SL_most : ev_MOk M_SL_most := ev_okB_ok (h := 4128) (by decide +kernel)
theorem ok_M_SL_joins : ev_MOk M_SL_joins := ev_okB_ok (h := 4140) (by decide +kernel)
theorem ok_M_SL_safe : ev_MOk M_SL_safe := ev_okB_ok (h := 4148) (by decide +kernel)
theorem ok_M_SL_parts : ev_MOk M_SL_parts := ev_okB_ok (h := 4160) (by decide +kernel)
theorem ok_M_SL_noticed : ev_MOk M_SL_noticed := ev_okB_ok (h := 4171) (by decide +kernel)
theorem ok_M_SL_forget : ev_MOk M_SL_forget := ev_okB_ok (h := 4183) (by decide +kernel)
theorem ok_M_SL_fits : ev_MOk M_SL_fits := ev_okB_ok (h := 4187) (by decide +kernel)
theorem ok_M_SL_next : ev_MOk M_SL_next := ev_okB_ok (h := 4199) (by decide +kernel)
theorem ok_M_SL_calms : ev_MOk M_SL_calms := ev_okB_ok (h := 4207) (by decide +kernel)
theorem ok_M_SL_buys : ev_MOk M_SL_buys := ev_okB_ok (h := 4215) (by decide +kernel)
theorem ok_M_SL_power : ev_MOk M_SL_power := ev_okB_ok (h := 4227) (by decide +kernel)
theorem ok_M_SL_misread : ev_MOk M_SL_misread := ev_okB_ok (h := 5001) (by decide +kernel)
theorem ok_M_SL_game : ev_MOk M_SL_game := ev_okB_ok (h := 5012) (by decide +kernel)
theorem ok_M_SL_law : ev_MOk M_SL_law := ev_okB_ok (h := 5019) (by decide +kernel)
theorem ok_M_SL_rests : ev_MOk M_SL_rests := ev_okB_ok (h := 5024) (by decide +kernel)
theorem ok_M_SL_years : ev_MOk M_SL_years := ev_okB_ok (h := 5034) (by decide +kernel)
theorem ok_M_SL_keep : ev_MOk M_SL_keep := ev_okB_ok (h := 5043) (by decide +kernel)
theorem ok_M_SL_again : ev_MOk M_SL_again := ev_okB_ok (h := 5051) (by decide +kernel)
theorem ok_M_SL_count : ev_MOk M_SL_count := ev_okB_ok (h := 5059) (by decide +kernel)
theorem ok_M_SL_row : ev_MOk M_SL_row := ev_okB_ok (h := 5162) (by decide +kernel)
theorem ok_M_SL_isLetter : ev_MOk M_SL_isLetter := ev_okB_ok (h := 3191) (by decide +kernel)
theorem ok_M_SL_isSet : ev_MOk M_SL_isSet := ev_okB_ok (h := 4018) (by decide +kernel)
theorem ok_M_SL_cutTo : ev_MOk M_SL_cutTo := ev_okB_ok (h := 3088) (by decide +kernel)
theorem ok_M_SL_sum : ev_MOk M_SL_sum := ev_okB_ok (h := 3097) (by decide +kernel)
theorem ok_M_SL_rememberIfDone : ev_MOk M_SL_rememberIfDone := ev_okB_ok (h := 3195) (by decide +kernel)
theorem ok_M_SL_doAct : ev_MOk M_SL_doAct := ev_okB_ok (h := 3239) (by decide +kernel)
theorem ok_M_SL_draw : ev_MOk M_SL_draw := ev_okB_ok (h := 5038) (by decide +kernel)
theorem ok_M_SL_oneWith : ev_MOk M_SL_oneWith := ev_okB_ok (h := 5138) (by decide +kernel)
theorem ok_M_SL_firstLike : ev_MOk M_SL_firstLike := ev_okB_ok (h := 4029) (by decide +kernel)
theorem ok_M_SL_tellFirstFallen : ev_MOk M_SL_tellFirstFallen := ev_okB_ok (h := 4086) (by decide +kernel)
theorem ok_M_SL_tellSet : ev_MOk M_SL_tellSet := ev_okB_ok (h := 4124) (by decide +kernel)
theorem ok_M_SL_tellsApart : ev_MOk M_SL_tellsApart := ev_okB_ok (h := 4120) (by decide +kernel)
theorem ok_M_SL_countPairsThatAreOne : ev_MOk M_SL_countPairsThatAreOne := ev_okB_ok (h := 4152) (by decide +kernel)
theorem ok_M_SL_neverMeet : ev_MOk M_SL_neverMeet := ev_okB_ok (h := 4156) (by decide +kernel)
theorem ok_M_SL_neverTaken : ev_MOk M_SL_neverTaken := ev_okB_ok (h := 4167) (by decide +kernel)
theorem ok_M_SL_agrees : ev_MOk M_SL_agrees := ev_okB_ok (h := 4191) (by decide +kernel)
theorem ok_M_SL_tellBestLook : ev_MOk M_SL_tellBestLook := ev_okB_ok (h := 4203) (by decide +kernel)
theorem ok_M_SL_priceStrikers : ev_MOk M_SL_priceStrikers := ev_okB_ok (h := 4219) (by decide +kernel)
theorem ok_M_SL_sumOver : ev_MOk M_SL_sumOver := ev_okB_ok (h := 4223) (by decide +kernel)
theorem ok_M_SL_setsTurnedBy : ev_MOk M_SL_setsTurnedBy := ev_okB_ok (h := 4232) (by decide +kernel)
theorem ok_M_SL_raised : ev_MOk M_SL_raised := ev_okB_ok (h := 5007) (by decide +kernel)
theorem ok_M_SL_chanceOf : ev_MOk M_SL_chanceOf := ev_okB_ok (h := 5004) (by decide +kernel)
theorem ok_M_SL_winningTake : ev_MOk M_SL_winningTake := ev_okB_ok (h := 5015) (by decide +kernel)
theorem ok_M_SL_gainOf : ev_MOk M_SL_gainOf := ev_okB_ok (h := 5030) (by decide +kernel)
theorem ok_M_SL_isBest : ev_MOk M_SL_isBest := ev_okB_ok (h := 5027) (by decide +kernel)
theorem ok_M_Mo_thrown : ev_MOk M_Mo_thrown := ev_okB_ok (h := 5167) (by decide +kernel)
theorem ok_M_Mo_refuse : ev_MOk M_Mo_refuse := ev_okB_ok (h := 6175) (by decide +kernel)
theorem ok_M_Mo_in : ev_MOk M_Mo_in := ev_okB_ok (h := 6092) (by decide +kernel)
theorem ok_M_Mo_has : ev_MOk M_Mo_has := ev_okB_ok (h := 6178) (by decide +kernel)
theorem ok_M_Mo_flag : ev_MOk M_Mo_flag := ev_okB_ok (h := 6120) (by decide +kernel)
theorem ok_M_Mo_common : ev_MOk M_Mo_common := ev_okB_ok (h := 7216) (by decide +kernel)
theorem ok_M_Mo_enters : ev_MOk M_Mo_enters := ev_okB_ok (h := 7020) (by decide +kernel)
theorem ok_M_Mo_tellsFraction : ev_MOk M_Mo_tellsFraction := ev_okB_ok (h := 7213) (by decide +kernel)
theorem ok_M_Mo_init : ev_MOk M_Mo_init := ev_okB_ok (h := 5172) (by decide +kernel)
theorem ok_M_Mo_isWord : ev_MOk M_Mo_isWord := ev_okB_ok (h := 6170) (by decide +kernel)
theorem ok_M_Mo_arePair : ev_MOk M_Mo_arePair := ev_okB_ok (h := 7089) (by decide +kernel)
theorem ok_M_Mo_isLetter : ev_MOk M_Mo_isLetter := ev_okB_ok (h := 6197) (by decide +kernel)
theorem ok_M_Mo_signsOf : ev_MOk M_Mo_signsOf := ev_okB_ok (h := 6203) (by decide +kernel)
theorem ok_M_Mo_unsaid : ev_MOk M_Mo_unsaid := ev_okB_ok (h := 7008) (by decide +kernel)
theorem ok_M_Mo_sumOf : ev_MOk M_Mo_sumOf := ev_okB_ok (h := 6227) (by decide +kernel)
theorem ok_M_Mo_sign : ev_MOk M_Mo_sign := ev_okB_ok (h := 6085) (by decide +kernel)
theorem ok_M_Mo_end : ev_MOk M_Mo_end := ev_okB_ok (h := 6089) (by decide +kernel)
theorem ok_M_Mo_begins : ev_MOk M_Mo_begins := ev_okB_ok (h := 6100) (by decide +kernel)
theorem ok_M_Mo_takes : ev_MOk M_Mo_takes := ev_okB_ok (h := 6117) (by decide +kernel)
theorem ok_M_Mo_isDigit : ev_MOk M_Mo_isDigit := ev_okB_ok (h := 6148) (by decide +kernel)
theorem ok_M_Mo_takesOf : ev_MOk M_Mo_takesOf := ev_okB_ok (h := 6110) (by decide +kernel)
theorem ok_M_Mo_number : ev_MOk M_Mo_number := ev_okB_ok (h := 6154) (by decide +kernel)
theorem ok_M_Mo_digitIn : ev_MOk M_Mo_digitIn := ev_okB_ok (h := 7068) (by decide +kernel)
theorem ok_M_Mo_faultOf : ev_MOk M_Mo_faultOf := ev_okB_ok (h := 6124) (by decide +kernel)
theorem ok_M_Mo_readsWord : ev_MOk M_Mo_readsWord := ev_okB_ok (h := 6105) (by decide +kernel)
theorem ok_M_Mo_words : ev_MOk M_Mo_words := ev_okB_ok (h := 6096) (by decide +kernel)
theorem ok_M_Mo_codes : ev_MOk M_Mo_codes := ev_okB_ok (h := 6144) (by decide +kernel)
theorem ok_M_Mo_readsThing : ev_MOk M_Mo_readsThing := ev_okB_ok (h := 6140) (by decide +kernel)
theorem ok_M_Mo_readsRank : ev_MOk M_Mo_readsRank := ev_okB_ok (h := 6136) (by decide +kernel)
theorem ok_M_Mo_readsRule : ev_MOk M_Mo_readsRule := ev_okB_ok (h := 6132) (by decide +kernel)
theorem ok_M_Mo_laysCode : ev_MOk M_Mo_laysCode := ev_okB_ok (h := 6162) (by decide +kernel)
theorem ok_M_Mo_rule : ev_MOk M_Mo_rule := ev_okB_ok (h := 6128) (by decide +kernel)
theorem ok_M_Mo_worked : ev_MOk M_Mo_worked := ev_okB_ok (h := 6218) (by decide +kernel)
theorem ok_M_Mo_ruled : ev_MOk M_Mo_ruled := ev_okB_ok (h := 6215) (by decide +kernel)
theorem ok_M_Mo_grudgeAt : ev_MOk M_Mo_grudgeAt := ev_okB_ok (h := 6211) (by decide +kernel)
theorem ok_M_Mo_grudge : ev_MOk M_Mo_grudge := ev_okB_ok (h := 6207) (by decide +kernel)
theorem ok_M_Mo_lays : ev_MOk M_Mo_lays := ev_okB_ok (h := 6186) (by decide +kernel)
theorem ok_M_Mo_isOneBy : ev_MOk M_Mo_isOneBy := ev_okB_ok (h := 6182) (by decide +kernel)
theorem ok_M_Mo_fallen : ev_MOk M_Mo_fallen := ev_okB_ok (h := 7016) (by decide +kernel)
theorem ok_M_Mo_word : ev_MOk M_Mo_word := ev_okB_ok (h := 6166) (by decide +kernel)
theorem ok_M_Mo_at : ev_MOk M_Mo_at := ev_okB_ok (h := 6190) (by decide +kernel)
theorem ok_M_Mo_letter : ev_MOk M_Mo_letter := ev_okB_ok (h := 6194) (by decide +kernel)
theorem ok_M_Mo_sheet : ev_MOk M_Mo_sheet := ev_okB_ok (h := 6222) (by decide +kernel)
theorem ok_M_Mo_putsBy : ev_MOk M_Mo_putsBy := ev_okB_ok (h := 7000) (by decide +kernel)
theorem ok_M_Mo_adds : ev_MOk M_Mo_adds := ev_okB_ok (h := 7024) (by decide +kernel)
theorem ok_M_Mo_counted : ev_MOk M_Mo_counted := ev_okB_ok (h := 7037) (by decide +kernel)
theorem ok_M_Mo_undo : ev_MOk M_Mo_undo := ev_okB_ok (h := 6231) (by decide +kernel)
theorem ok_M_Mo_strikeNext : ev_MOk M_Mo_strikeNext := ev_okB_ok (h := 7012) (by decide +kernel)
theorem ok_M_Mo_dayGoes : ev_MOk M_Mo_dayGoes := ev_okB_ok (h := 7004) (by decide +kernel)
theorem ok_M_Mo_offers : ev_MOk M_Mo_offers := ev_okB_ok (h := 7032) (by decide +kernel)
theorem ok_M_Mo_stirsOne : ev_MOk M_Mo_stirsOne := ev_okB_ok (h := 7045) (by decide +kernel)
theorem ok_M_Mo_mutesOne : ev_MOk M_Mo_mutesOne := ev_okB_ok (h := 7054) (by decide +kernel)
theorem ok_M_Mo_days : ev_MOk M_Mo_days := ev_okB_ok (h := 6235) (by decide +kernel)
theorem ok_M_Mo_offer : ev_MOk M_Mo_offer := ev_okB_ok (h := 7028) (by decide +kernel)
theorem ok_M_Mo_stirs : ev_MOk M_Mo_stirs := ev_okB_ok (h := 7041) (by decide +kernel)
theorem ok_M_Mo_mutes : ev_MOk M_Mo_mutes := ev_okB_ok (h := 7050) (by decide +kernel)
theorem ok_M_Mo_readsAct : ev_MOk M_Mo_readsAct := ev_okB_ok (h := 7062) (by decide +kernel)
theorem ok_M_Mo_does : ev_MOk M_Mo_does := ev_okB_ok (h := 7072) (by decide +kernel)
theorem ok_M_Mo_year : ev_MOk M_Mo_year := ev_okB_ok (h := 7058) (by decide +kernel)
theorem ok_M_Mo_copies : ev_MOk M_Mo_copies := ev_okB_ok (h := 7119) (by decide +kernel)
theorem ok_M_Mo_looks : ev_MOk M_Mo_looks := ev_okB_ok (h := 7076) (by decide +kernel)
theorem ok_M_Mo_kinds : ev_MOk M_Mo_kinds := ev_okB_ok (h := 7081) (by decide +kernel)
theorem ok_M_Mo_square : ev_MOk M_Mo_square := ev_okB_ok (h := 7096) (by decide +kernel)
theorem ok_M_Mo_apartBy : ev_MOk M_Mo_apartBy := ev_okB_ok (h := 7093) (by decide +kernel)
theorem ok_M_Mo_sharedBy : ev_MOk M_Mo_sharedBy := ev_okB_ok (h := 7104) (by decide +kernel)
theorem ok_M_Mo_apart : ev_MOk M_Mo_apart := ev_okB_ok (h := 7085) (by decide +kernel)
theorem ok_M_Mo_shared : ev_MOk M_Mo_shared := ev_okB_ok (h := 7100) (by decide +kernel)
theorem ok_M_Mo_chain : ev_MOk M_Mo_chain := ev_okB_ok (h := 7108) (by decide +kernel)
theorem ok_M_Mo_ahead : ev_MOk M_Mo_ahead := ev_okB_ok (h := 7114) (by decide +kernel)
theorem ok_M_Mo_falls : ev_MOk M_Mo_falls := ev_okB_ok (h := 7123) (by decide +kernel)
theorem ok_M_Mo_when : ev_MOk M_Mo_when := ev_okB_ok (h := 7127) (by decide +kernel)
theorem ok_M_Mo_crossest : ev_MOk M_Mo_crossest := ev_okB_ok (h := 7131) (by decide +kernel)
theorem ok_M_Mo_areApart : ev_MOk M_Mo_areApart := ev_okB_ok (h := 7145) (by decide +kernel)
theorem ok_M_Mo_isFewer : ev_MOk M_Mo_isFewer := ev_okB_ok (h := 7141) (by decide +kernel)
theorem ok_M_Mo_tellsSet : ev_MOk M_Mo_tellsSet := ev_okB_ok (h := 7149) (by decide +kernel)
theorem ok_M_Mo_must : ev_MOk M_Mo_must := ev_okB_ok (h := 7138) (by decide +kernel)
theorem ok_M_Mo_most : ev_MOk M_Mo_most := ev_okB_ok (h := 7153) (by decide +kernel)
theorem ok_M_Mo_joins : ev_MOk M_Mo_joins := ev_okB_ok (h := 7157) (by decide +kernel)
theorem ok_M_Mo_canBeOne : ev_MOk M_Mo_canBeOne := ev_okB_ok (h := 7165) (by decide +kernel)
theorem ok_M_Mo_safe : ev_MOk M_Mo_safe := ev_okB_ok (h := 7161) (by decide +kernel)
theorem ok_M_Mo_parts : ev_MOk M_Mo_parts := ev_okB_ok (h := 7169) (by decide +kernel)
theorem ok_M_Mo_noticed : ev_MOk M_Mo_noticed := ev_okB_ok (h := 7173) (by decide +kernel)
theorem ok_M_Mo_forget : ev_MOk M_Mo_forget := ev_okB_ok (h := 7177) (by decide +kernel)
theorem ok_M_Mo_isAsNoticed : ev_MOk M_Mo_isAsNoticed := ev_okB_ok (h := 7185) (by decide +kernel)
theorem ok_M_Mo_fits : ev_MOk M_Mo_fits := ev_okB_ok (h := 7181) (by decide +kernel)
theorem ok_M_Mo_next : ev_MOk M_Mo_next := ev_okB_ok (h := 7189) (by decide +kernel)
theorem ok_M_Mo_cost : ev_MOk M_Mo_cost := ev_okB_ok (h := 7197) (by decide +kernel)
theorem ok_M_Mo_calms : ev_MOk M_Mo_calms := ev_okB_ok (h := 7193) (by decide +kernel)
theorem ok_M_Mo_buys : ev_MOk M_Mo_buys := ev_okB_ok (h := 7201) (by decide +kernel)
theorem ok_M_Mo_tips : ev_MOk M_Mo_tips := ev_okB_ok (h := 7209) (by decide +kernel)
theorem ok_M_Mo_power : ev_MOk M_Mo_power := ev_okB_ok (h := 7205) (by decide +kernel)
theorem ok_M_Mo_misread : ev_MOk M_Mo_misread := ev_okB_ok (h := 7220) (by decide +kernel)
theorem ok_M_Mo_game : ev_MOk M_Mo_game := ev_okB_ok (h := 7226) (by decide +kernel)
theorem ok_M_Mo_law : ev_MOk M_Mo_law := ev_okB_ok (h := 7231) (by decide +kernel)
theorem ok_M_Mo_gets : ev_MOk M_Mo_gets := ev_okB_ok (h := 8002) (by decide +kernel)
theorem ok_M_Mo_isRest : ev_MOk M_Mo_isRest := ev_okB_ok (h := 7239) (by decide +kernel)
theorem ok_M_Mo_rests : ev_MOk M_Mo_rests := ev_okB_ok (h := 7235) (by decide +kernel)
theorem ok_M_Mo_draws : ev_MOk M_Mo_draws := ev_okB_ok (h := 8010) (by decide +kernel)
theorem ok_M_Mo_years : ev_MOk M_Mo_years := ev_okB_ok (h := 8006) (by decide +kernel)
theorem ok_M_Mo_keep : ev_MOk M_Mo_keep := ev_okB_ok (h := 8015) (by decide +kernel)
theorem ok_M_Mo_again : ev_MOk M_Mo_again := ev_okB_ok (h := 8019) (by decide +kernel)
theorem ok_M_Mo_allSigns : ev_MOk M_Mo_allSigns := ev_okB_ok (h := 8027) (by decide +kernel)
theorem ok_M_Mo_count : ev_MOk M_Mo_count := ev_okB_ok (h := 8023) (by decide +kernel)
theorem ok_M_Mo_row : ev_MOk M_Mo_row := ev_okB_ok (h := 8031) (by decide +kernel)
theorem ok_M_Int_compare : ev_MOk M_Int_compare := ev_okB_ok (h := 7134) (by decide +kernel)
theorem ok_M_Int_bitCount : ev_MOk M_Int_bitCount := ev_okB_ok (h := 3135) (by decide +kernel)
theorem ok_M_Str_length : ev_MOk M_Str_length := ev_okB_ok (h := 2056) (by decide +kernel)
theorem ok_M_Str_charAt : ev_MOk M_Str_charAt := ev_okB_ok (h := 2066) (by decide +kernel)
theorem ok_M_Str_indexOf : ev_MOk M_Str_indexOf := ev_okB_ok (h := 2144) (by decide +kernel)
theorem ok_M_Str_indexOf2 : ev_MOk M_Str_indexOf2 := ev_okB_ok (h := 2148) (by decide +kernel)
theorem ok_M_Str_coder : ev_MOk M_Str_coder := ev_okB_ok (h := 2060) (by decide +kernel)
theorem ok_M_Str_isLatin1 : ev_MOk M_Str_isLatin1 := ev_okB_ok (h := 2070) (by decide +kernel)
theorem ok_M_Str_checkIndex : ev_MOk M_Str_checkIndex := ev_okB_ok (h := 2076) (by decide +kernel)
theorem ok_M_Str_checkBoundsBeginEnd : ev_MOk M_Str_checkBoundsBeginEnd := ev_okB_ok (h := 2179) (by decide +kernel)
theorem ok_M_Lat_charAt : ev_MOk M_Lat_charAt := ev_okB_ok (h := 2073) (by decide +kernel)
theorem ok_M_Lat_canEncode : ev_MOk M_Lat_canEncode := ev_okB_ok (h := 2155) (by decide +kernel)
theorem ok_M_Lat_indexOf : ev_MOk M_Lat_indexOf := ev_okB_ok (h := 2152) (by decide +kernel)
theorem ok_M_Lat_indexOfChar : ev_MOk M_Lat_indexOfChar := ev_okB_ok (h := 2164) (by decide +kernel)
theorem ok_M_Arr_fill : ev_MOk M_Arr_fill := ev_okB_ok (h := 1107) (by decide +kernel)
theorem ok_M_Pre_checkIndex : ev_MOk M_Pre_checkIndex := ev_okB_ok (h := 2081) (by decide +kernel)
theorem ok_M_Pre_checkFromToIndex : ev_MOk M_Pre_checkFromToIndex := ev_okB_ok (h := 2182) (by decide +kernel)
end
section
abbrev ev_Ml : Type := Nat × Nat × Nat × Nat × ev_Me
def ev_TMq (oc : Nat) (q : ev_Ml) : Prop :=
  (q.2.1 = 6 → Cond.methodLink (ev_cn oc) q.1 Lib.Math.max.name ∈ ev_gw ∧ Cond.static Lib.Math.max.name ∈ ev_gw ∧ Cond.initialized "java/lang/Math" ∈ ev_gw ∧ Cond.code Lib.Math.max.name Lib.Math.max.code 2 (some .int) ∈ ev_gw) ∧
  (q.2.1 = 7 → Cond.methodLink (ev_cn oc) q.1 Lib.Math.min.name ∈ ev_gw ∧ Cond.static Lib.Math.min.name ∈ ev_gw ∧ Cond.initialized "java/lang/Math" ∈ ev_gw ∧ Cond.code Lib.Math.min.name Lib.Math.min.code 2 (some .int) ∈ ev_gw) ∧
  (q.2.1 = 8 → Cond.methodLink (ev_cn oc) q.1 objectInit ∈ ev_gw ∧ Cond.instanceMethod objectInit ∈ ev_gw ∧ Cond.code objectInit ⟨#[0xb1]⟩ 1 none ∈ ev_gw) ∧
  (q.2.1 = 9 → Cond.methodLink (ev_cn oc) q.1 arraycopyName ∈ ev_gw ∧ Cond.native arraycopyName ∈ ev_gw ∧ Cond.static arraycopyName ∈ ev_gw ∧ Cond.initialized "java/lang/System" ∈ ev_gw) ∧
  (q.2.1 = 0 → ev_MOk q.2.2.2.2 ∧ ((q.2.2.2.1 < 11 ∧ q.2.2.2.2.1.cls = (ev_cl q.2.2.2.1).1) ∨ (q.2.2.2.1 = 20 ∧ q.2.2.2.2.1.cls = "java/lang/String")) ∧ Cond.methodLink (ev_cn oc) q.1 q.2.2.2.2.1 ∈ ev_gw ∧ Cond.instanceMethod q.2.2.2.2.1 ∈ ev_gw ∧ Cond.selects q.2.2.2.2.1.cls q.2.2.2.2.1 q.2.2.2.2.1 ∈ ev_gw ∧ Cond.initialized q.2.2.2.2.1.cls ∈ ev_gw ∧ 1 ≤ q.2.2.1 ∧ ev_np q.2.2.2.2 = some (q.2.2.1 - 1)) ∧
  (q.2.1 = 1 → ev_MOk q.2.2.2.2 ∧ Cond.methodLink (ev_cn oc) q.1 q.2.2.2.2.1 ∈ ev_gw ∧ Cond.instanceMethod q.2.2.2.2.1 ∈ ev_gw ∧ Cond.initialized q.2.2.2.2.1.cls ∈ ev_gw ∧ q.2.2.2.2.1.name = "<init>" ∧ q.2.2.2.2.2.2.2.1 = none ∧ 1 ≤ q.2.2.1 ∧ ev_np q.2.2.2.2 = some (q.2.2.1 - 1)) ∧
  (q.2.1 = 2 → ev_MOk q.2.2.2.2 ∧ Cond.methodLink (ev_cn oc) q.1 q.2.2.2.2.1 ∈ ev_gw ∧ Cond.static q.2.2.2.2.1 ∈ ev_gw ∧ Cond.initialized q.2.2.2.2.1.cls ∈ ev_gw ∧ ev_np q.2.2.2.2 = some q.2.2.1) ∧
  (q.2.1 = 3 → ev_MOk q.2.2.2.2 ∧ (∃ host, Cond.methodLinkNest (ev_cn oc) q.1 q.2.2.2.2.1 host ∈ ev_nest) ∧ Cond.instanceMethod q.2.2.2.2.1 ∈ ev_gw ∧ Cond.initialized q.2.2.2.2.1.cls ∈ ev_gw ∧ q.2.2.2.2.1.name = "<init>" ∧ q.2.2.2.2.2.2.2.1 = none ∧ 1 ≤ q.2.2.1 ∧ ev_np q.2.2.2.2 = some (q.2.2.1 - 1)) ∧
  (q.2.1 = 4 → ev_MOk q.2.2.2.2 ∧ (∃ host, Cond.methodLinkNest (ev_cn oc) q.1 q.2.2.2.2.1 host ∈ ev_nest) ∧ Cond.static q.2.2.2.2.1 ∈ ev_gw ∧ Cond.initialized q.2.2.2.2.1.cls ∈ ev_gw ∧ ev_np q.2.2.2.2 = some q.2.2.1)
theorem ev_tm8 {oc idx n ci : Nat} {Mc : ev_Me} (a b c : Nat) (h : (ev_hw a (.methodLink (ev_cn oc) idx objectInit) && ev_hw b (.instanceMethod objectInit) && ev_hw c (.code objectInit ⟨#[0xb1]⟩ 1 none)) = true) : ev_TMq oc (idx, 8, n, ci, Mc) := by
  simp only [Bool.and_eq_true] at h
  exact ⟨(fun e => nomatch e), (fun e => nomatch e), fun _ => ⟨ev_hw_ok h.1.1, ev_hw_ok h.1.2, ev_hw_ok h.2⟩, (fun e => nomatch e), (fun e => nomatch e), (fun e => nomatch e), (fun e => nomatch e), (fun e => nomatch e), (fun e => nomatch e)⟩
theorem ev_tm6 {oc idx n ci : Nat} {Mc : ev_Me} (a b c d : Nat) (h : (ev_hw a (.methodLink (ev_cn oc) idx Lib.Math.max.name) && ev_hw b (.static Lib.Math.max.name) && ev_hw c (.initialized "java/lang/Math") && ev_hw d (.code Lib.Math.max.name Lib.Math.max.code 2 (some .int))) = true) : ev_TMq oc (idx, 6, n, ci, Mc) := by
  simp only [Bool.and_eq_true] at h
  refine ⟨fun _ => ⟨ev_hw_ok h.1.1.1, ev_hw_ok h.1.1.2, ev_hw_ok h.1.2, ev_hw_ok h.2⟩, (fun e => nomatch e), (fun e => nomatch e), (fun e => nomatch e), (fun e => nomatch e), (fun e => nomatch e), (fun e => nomatch e), (fun e => nomatch e), (fun e => nomatch e)⟩
theorem ev_tm7 {oc idx n ci : Nat} {Mc : ev_Me} (a b c d : Nat) (h : (ev_hw a (.methodLink (ev_cn oc) idx Lib.Math.min.name) && ev_hw b (.static Lib.Math.min.name) && ev_hw c (.initialized "java/lang/Math") && ev_hw d (.code Lib.Math.min.name Lib.Math.min.code 2 (some .int))) = true) : ev_TMq oc (idx, 7, n, ci, Mc) := by
  simp only [Bool.and_eq_true] at h
  refine ⟨(fun e => nomatch e), fun _ => ⟨ev_hw_ok h.1.1.1, ev_hw_ok h.1.1.2, ev_hw_ok h.1.2, ev_hw_ok h.2⟩, (fun e => nomatch e), (fun e => nomatch e), (fun e => nomatch e), (fun e => nomatch e), (fun e => nomatch e), (fun e => nomatch e), (fun e => nomatch e)⟩
theorem ev_tm9 {oc idx n ci : Nat} {Mc : ev_Me} (a b c d : Nat) (h : (ev_hw a (.methodLink (ev_cn oc) idx arraycopyName) && ev_hw b (.native arraycopyName) && ev_hw c (.static arraycopyName) && ev_hw d (.initialized "java/lang/System")) = true) : ev_TMq oc (idx, 9, n, ci, Mc) := by
  simp only [Bool.and_eq_true] at h
  exact ⟨(fun e => nomatch e), (fun e => nomatch e), (fun e => nomatch e), fun _ => ⟨ev_hw_ok h.1.1.1, ev_hw_ok h.1.1.2, ev_hw_ok h.1.2, ev_hw_ok h.2⟩, (fun e => nomatch e), (fun e => nomatch e), (fun e => nomatch e), (fun e => nomatch e), (fun e => nomatch e)⟩
theorem ev_tm0 {oc idx n ci : Nat} {Mc : ev_Me} (ok : ev_MOk Mc) (a b c d : Nat) (h : (ev_hw a (.methodLink (ev_cn oc) idx Mc.1) && ev_hw b (.instanceMethod Mc.1) && ev_hw c (.selects Mc.1.cls Mc.1 Mc.1) && ev_hw d (.initialized Mc.1.cls) && decide ((ci < 11 ∧ Mc.1.cls = (ev_cl ci).1) ∨ (ci = 20 ∧ Mc.1.cls = "java/lang/String")) && Nat.ble 1 n && decide (ev_np Mc = some (n - 1))) = true) : ev_TMq oc (idx, 0, n, ci, Mc) := by
  simp only [Bool.and_eq_true] at h
  obtain ⟨⟨⟨⟨⟨⟨h1, h2⟩, h3⟩, h4⟩, h5⟩, h6⟩, h7⟩ := h
  exact ⟨(fun e => nomatch e), (fun e => nomatch e), (fun e => nomatch e), (fun e => nomatch e), fun _ => ⟨ok, of_decide_eq_true h5, ev_hw_ok h1, ev_hw_ok h2, ev_hw_ok h3, ev_hw_ok h4, Nat.le_of_ble_eq_true h6, of_decide_eq_true h7⟩, (fun e => nomatch e), (fun e => nomatch e), (fun e => nomatch e), (fun e => nomatch e)⟩
theorem ev_tm1 {oc idx n ci : Nat} {Mc : ev_Me} (ok : ev_MOk Mc) (a b d : Nat) (h : (ev_hw a (.methodLink (ev_cn oc) idx Mc.1) && ev_hw b (.instanceMethod Mc.1) && ev_hw d (.initialized Mc.1.cls) && decide (Mc.1.name = "<init>") && decide (Mc.2.2.2.1 = none) && Nat.ble 1 n && decide (ev_np Mc = some (n - 1))) = true) : ev_TMq oc (idx, 1, n, ci, Mc) := by
  simp only [Bool.and_eq_true] at h
  obtain ⟨⟨⟨⟨⟨⟨h1, h2⟩, h3⟩, h4⟩, h5⟩, h6⟩, h7⟩ := h
  exact ⟨(fun e => nomatch e), (fun e => nomatch e), (fun e => nomatch e), (fun e => nomatch e), (fun e => nomatch e), fun _ => ⟨ok, ev_hw_ok h1, ev_hw_ok h2, ev_hw_ok h3, of_decide_eq_true h4, of_decide_eq_true h5, Nat.le_of_ble_eq_true h6, of_decide_eq_true h7⟩, (fun e => nomatch e), (fun e => nomatch e), (fun e => nomatch e)⟩
theorem ev_tm2 {oc idx n ci : Nat} {Mc : ev_Me} (ok : ev_MOk Mc) (a b d : Nat) (h : (ev_hw a (.methodLink (ev_cn oc) idx Mc.1) && ev_hw b (.static Mc.1) && ev_hw d (.initialized Mc.1.cls) && decide (ev_np Mc = some n)) = true) : ev_TMq oc (idx, 2, n, ci, Mc) := by
  simp only [Bool.and_eq_true] at h
  obtain ⟨⟨⟨h1, h2⟩, h3⟩, h4⟩ := h
  exact ⟨(fun e => nomatch e), (fun e => nomatch e), (fun e => nomatch e), (fun e => nomatch e), (fun e => nomatch e), (fun e => nomatch e), fun _ => ⟨ok, ev_hw_ok h1, ev_hw_ok h2, ev_hw_ok h3, of_decide_eq_true h4⟩, (fun e => nomatch e), (fun e => nomatch e)⟩
theorem ev_tm3 {oc idx n ci : Nat} {Mc : ev_Me} (ok : ev_MOk Mc) (a b d : Nat) (h : (ev_hn a (.methodLinkNest (ev_cn oc) idx Mc.1 "SilentLetters") && ev_hw b (.instanceMethod Mc.1) && ev_hw d (.initialized Mc.1.cls) && decide (Mc.1.name = "<init>") && decide (Mc.2.2.2.1 = none) && Nat.ble 1 n && decide (ev_np Mc = some (n - 1))) = true) : ev_TMq oc (idx, 3, n, ci, Mc) := by
  simp only [Bool.and_eq_true] at h
  obtain ⟨⟨⟨⟨⟨⟨h1, h2⟩, h3⟩, h4⟩, h5⟩, h6⟩, h7⟩ := h
  exact ⟨(fun e => nomatch e), (fun e => nomatch e), (fun e => nomatch e), (fun e => nomatch e), (fun e => nomatch e), (fun e => nomatch e), (fun e => nomatch e), fun _ => ⟨ok, ⟨_, List.mem_filter.mpr ⟨ev_hn_ok h1, rfl⟩⟩, ev_hw_ok h2, ev_hw_ok h3, of_decide_eq_true h4, of_decide_eq_true h5, Nat.le_of_ble_eq_true h6, of_decide_eq_true h7⟩, (fun e => nomatch e)⟩
theorem ev_tm4 {oc idx n ci : Nat} {Mc : ev_Me} (ok : ev_MOk Mc) (a b d : Nat) (h : (ev_hn a (.methodLinkNest (ev_cn oc) idx Mc.1 "SilentLetters") && ev_hw b (.static Mc.1) && ev_hw d (.initialized Mc.1.cls) && decide (ev_np Mc = some n)) = true) : ev_TMq oc (idx, 4, n, ci, Mc) := by
  simp only [Bool.and_eq_true] at h
  obtain ⟨⟨⟨h1, h2⟩, h3⟩, h4⟩ := h
  exact ⟨(fun e => nomatch e), (fun e => nomatch e), (fun e => nomatch e), (fun e => nomatch e), (fun e => nomatch e), (fun e => nomatch e), (fun e => nomatch e), (fun e => nomatch e), fun _ => ⟨ok, ⟨_, List.mem_filter.mpr ⟨ev_hn_ok h1, rfl⟩⟩, ev_hw_ok h2, ev_hw_ok h3, of_decide_eq_true h4⟩⟩
theorem tm_0_17 : ev_TMq 0 (17, 7, 2, 99, M_Mat_min) := ev_tm7 3228 2160 1016 2161 (by decide +kernel)
theorem tm_0_23 : ev_TMq 0 (23, 0, 2, 7, M_Text_signAt) := ev_tm0 ok_M_Text_signAt 3229 3038 3039 1002 (by decide +kernel)
theorem tm_0_27 : ev_TMq 0 (27, 2, 3, 99, M_Acts_canStand) := ev_tm2 ok_M_Acts_canStand 3230 3231 1025 (by decide +kernel)
theorem tm_0_31 : ev_TMq 0 (31, 2, 1, 99, M_Acts_lengthOf) := ev_tm2 ok_M_Acts_lengthOf 3233 3234 1025 (by decide +kernel)
theorem tm_0 : ∀ q ∈ ev_ml 0, ev_TMq 0 q := List.forall_mem_cons.mpr ⟨tm_0_17, List.forall_mem_cons.mpr ⟨tm_0_23, List.forall_mem_cons.mpr ⟨tm_0_27, List.forall_mem_cons.mpr ⟨tm_0_31, fun _ h => absurd h List.not_mem_nil⟩⟩⟩⟩
theorem tm_1_3 : ev_TMq 1 (3, 8, 1, 99, M_Mat_max) := ev_tm8 1073 1032 1033 (by decide +kernel)
theorem tm_1_34 : ev_TMq 1 (34, 7, 2, 99, M_Mat_min) := ev_tm7 3036 2160 1016 2161 (by decide +kernel)
theorem tm_1_40 : ev_TMq 1 (40, 0, 2, 7, M_Text_signAt) := ev_tm0 ok_M_Text_signAt 3037 3038 3039 1002 (by decide +kernel)
theorem tm_1_44 : ev_TMq 1 (44, 2, 1, 0, M_Book_letterOf) := ev_tm2 ok_M_Book_letterOf 3041 3042 1004 (by decide +kernel)
theorem tm_1_48 : ev_TMq 1 (48, 2, 1, 0, M_Book_isSaid) := ev_tm2 ok_M_Book_isSaid 3044 3045 1004 (by decide +kernel)
theorem tm_1_52 : ev_TMq 1 (52, 0, 1, 0, M_Book_closeLine) := ev_tm0 ok_M_Book_closeLine 3051 3053 10 1004 (by decide +kernel)
theorem tm_1_60 : ev_TMq 1 (60, 0, 3, 0, M_Book_bare) := ev_tm0 ok_M_Book_bare 3055 3056 3057 1004 (by decide +kernel)
theorem tm_1_83 : ev_TMq 1 (83, 0, 4, 0, M_Book_spell) := ev_tm0 ok_M_Book_spell 3150 3151 3152 1004 (by decide +kernel)
theorem tm_1_79 : ev_TMq 1 (79, 0, 4, 0, M_Book_gone) := ev_tm0 ok_M_Book_gone 3154 3155 3156 1004 (by decide +kernel)
theorem tm_1_76 : ev_TMq 1 (76, 0, 3, 0, M_Book_placesOf) := ev_tm0 ok_M_Book_placesOf 3158 3159 3160 1004 (by decide +kernel)
theorem tm_1_63 : ev_TMq 1 (63, 0, 3, 0, M_Book_hasSign) := ev_tm0 ok_M_Book_hasSign 3212 3213 3214 1004 (by decide +kernel)
theorem tm_1_27 : ev_TMq 1 (27, 0, 2, 0, M_Book_has) := ev_tm0 ok_M_Book_has 3216 3217 3218 1004 (by decide +kernel)
theorem tm_1_67 : ev_TMq 1 (67, 2, 1, 99, M_Int_bitCount) := ev_tm2 ok_M_Int_bitCount 3220 3134 1019 (by decide +kernel)
theorem tm_1_73 : ev_TMq 1 (73, 0, 3, 0, M_Book_lettersAt) := ev_tm0 ok_M_Book_lettersAt 4133 4134 4135 1004 (by decide +kernel)
theorem tm_1 : ∀ q ∈ ev_ml 1, ev_TMq 1 q := List.forall_mem_cons.mpr ⟨tm_1_3, List.forall_mem_cons.mpr ⟨tm_1_34, List.forall_mem_cons.mpr ⟨tm_1_40, List.forall_mem_cons.mpr ⟨tm_1_44, List.forall_mem_cons.mpr ⟨tm_1_48, List.forall_mem_cons.mpr ⟨tm_1_52, List.forall_mem_cons.mpr ⟨tm_1_60, List.forall_mem_cons.mpr ⟨tm_1_83, List.forall_mem_cons.mpr ⟨tm_1_79, List.forall_mem_cons.mpr ⟨tm_1_76, List.forall_mem_cons.mpr ⟨tm_1_63, List.forall_mem_cons.mpr ⟨tm_1_27, List.forall_mem_cons.mpr ⟨tm_1_67, List.forall_mem_cons.mpr ⟨tm_1_73, fun _ h => absurd h List.not_mem_nil⟩⟩⟩⟩⟩⟩⟩⟩⟩⟩⟩⟩⟩⟩
theorem tm_2_3 : ev_TMq 2 (3, 8, 1, 99, M_Mat_max) := ev_tm8 1236 1032 1033 (by decide +kernel)
theorem tm_2_57 : ev_TMq 2 (57, 0, 5, 1, M_Measure_layBoth) := ev_tm0 ok_M_Measure_layBoth 4042 4044 15 1010 (by decide +kernel)
theorem tm_2_46 : ev_TMq 2 (46, 0, 5, 1, M_Measure_lay) := ev_tm0 ok_M_Measure_lay 4046 4048 16 1010 (by decide +kernel)
theorem tm_2_34 : ev_TMq 2 (34, 0, 4, 0, M_Book_gone) := ev_tm0 ok_M_Book_gone 4050 3155 3156 1004 (by decide +kernel)
theorem tm_2_61 : ev_TMq 2 (61, 0, 3, 1, M_Measure_editsAt) := ev_tm0 ok_M_Measure_editsAt 4051 4053 17 1010 (by decide +kernel)
theorem tm_2_65 : ev_TMq 2 (65, 7, 2, 99, M_Mat_min) := ev_tm7 4055 2160 1016 2161 (by decide +kernel)
theorem tm_2_76 : ev_TMq 2 (76, 0, 3, 1, M_Measure_markNear) := ev_tm0 ok_M_Measure_markNear 4064 4066 18 1010 (by decide +kernel)
theorem tm_2_97 : ev_TMq 2 (97, 0, 5, 1, M_Measure_edits) := ev_tm0 ok_M_Measure_edits 4068 4039 4040 1010 (by decide +kernel)
theorem tm_2_80 : ev_TMq 2 (80, 2, 2, 99, M_Arr_fill) := ev_tm2 ok_M_Arr_fill 4069 1106 1006 (by decide +kernel)
theorem tm_2_89 : ev_TMq 2 (89, 0, 3, 1, M_Measure_stepFrom) := ev_tm0 ok_M_Measure_stepFrom 4070 4071 4072 1010 (by decide +kernel)
theorem tm_2_70 : ev_TMq 2 (70, 0, 3, 1, M_Measure_inCommonAt) := ev_tm0 ok_M_Measure_inCommonAt 4101 4103 20 1010 (by decide +kernel)
theorem tm_2_73 : ev_TMq 2 (73, 6, 2, 99, M_Mat_max) := ev_tm6 4105 2157 1016 2158 (by decide +kernel)
theorem tm_2 : ∀ q ∈ ev_ml 2, ev_TMq 2 q := List.forall_mem_cons.mpr ⟨tm_2_3, List.forall_mem_cons.mpr ⟨tm_2_57, List.forall_mem_cons.mpr ⟨tm_2_46, List.forall_mem_cons.mpr ⟨tm_2_34, List.forall_mem_cons.mpr ⟨tm_2_61, List.forall_mem_cons.mpr ⟨tm_2_65, List.forall_mem_cons.mpr ⟨tm_2_76, List.forall_mem_cons.mpr ⟨tm_2_97, List.forall_mem_cons.mpr ⟨tm_2_80, List.forall_mem_cons.mpr ⟨tm_2_89, List.forall_mem_cons.mpr ⟨tm_2_70, List.forall_mem_cons.mpr ⟨tm_2_73, fun _ h => absurd h List.not_mem_nil⟩⟩⟩⟩⟩⟩⟩⟩⟩⟩⟩⟩
theorem tm_3_1 : ev_TMq 3 (1, 8, 1, 99, M_Mat_max) := ev_tm8 2029 1032 1033 (by decide +kernel)
theorem tm_3 : ∀ q ∈ ev_ml 3, ev_TMq 3 q := List.forall_mem_cons.mpr ⟨tm_3_1, fun _ h => absurd h List.not_mem_nil⟩
theorem tm_4_1 : ev_TMq 4 (1, 8, 1, 99, M_Mat_max) := ev_tm8 1146 1032 1033 (by decide +kernel)
theorem tm_4_22 : ev_TMq 4 (22, 1, 1, 6, M_State_init) := ev_tm1 ok_M_State_init 1149 1102 1005 (by decide +kernel)
theorem tm_4_27 : ev_TMq 4 (27, 0, 2, 6, M_State_copy) := ev_tm0 ok_M_State_copy 3106 3107 3108 1005 (by decide +kernel)
theorem tm_4_34 : ev_TMq 4 (34, 7, 2, 99, M_Mat_min) := ev_tm7 3111 2160 1016 2161 (by decide +kernel)
theorem tm_4 : ∀ q ∈ ev_ml 4, ev_TMq 4 q := List.forall_mem_cons.mpr ⟨tm_4_1, List.forall_mem_cons.mpr ⟨tm_4_22, List.forall_mem_cons.mpr ⟨tm_4_27, List.forall_mem_cons.mpr ⟨tm_4_34, fun _ h => absurd h List.not_mem_nil⟩⟩⟩⟩
theorem tm_5_3 : ev_TMq 5 (3, 8, 1, 99, M_Mat_max) := ev_tm8 1057 1032 1033 (by decide +kernel)
theorem tm_5_19 : ev_TMq 5 (19, 0, 2, 4, M_Row_tell) := ev_tm0 ok_M_Row_tell 3176 3177 3178 1003 (by decide +kernel)
theorem tm_5_23 : ev_TMq 5 (23, 0, 3, 4, M_Row_tellTwo) := ev_tm0 ok_M_Row_tellTwo 4237 3173 3174 1003 (by decide +kernel)
theorem tm_5 : ∀ q ∈ ev_ml 5, ev_TMq 5 q := List.forall_mem_cons.mpr ⟨tm_5_3, List.forall_mem_cons.mpr ⟨tm_5_19, List.forall_mem_cons.mpr ⟨tm_5_23, fun _ h => absurd h List.not_mem_nil⟩⟩⟩
theorem tm_6_3 : ev_TMq 6 (3, 8, 1, 99, M_Mat_max) := ev_tm8 1173 1032 1033 (by decide +kernel)
theorem tm_6_22 : ev_TMq 6 (22, 0, 1, 5, M_Rule_begin) := ev_tm0 ok_M_Rule_begin 2048 2050 0 1008 (by decide +kernel)
theorem tm_6_27 : ev_TMq 6 (27, 0, 1, 20, M_Str_length) := ev_tm0 ok_M_Str_length 2053 2054 2055 1012 (by decide +kernel)
theorem tm_6_33 : ev_TMq 6 (33, 0, 2, 20, M_Str_charAt) := ev_tm0 ok_M_Str_charAt 2063 2064 2065 1012 (by decide +kernel)
theorem tm_6_37 : ev_TMq 6 (37, 0, 2, 5, M_Rule_accepts) := ev_tm0 ok_M_Rule_accepts 2101 2103 1 1008 (by decide +kernel)
theorem tm_6_83 : ev_TMq 6 (83, 0, 2, 5, M_Rule_acceptsDigit) := ev_tm0 ok_M_Rule_acceptsDigit 2105 2107 2 1008 (by decide +kernel)
theorem tm_6_106 : ev_TMq 6 (106, 0, 2, 5, M_Rule_emit) := ev_tm0 ok_M_Rule_emit 2109 2111 3 1008 (by decide +kernel)
theorem tm_6_87 : ev_TMq 6 (87, 0, 1, 5, M_Rule_closes) := ev_tm0 ok_M_Rule_closes 2113 2115 4 1008 (by decide +kernel)
theorem tm_6_41 : ev_TMq 6 (41, 0, 2, 5, M_Rule_moveDownTo) := ev_tm0 ok_M_Rule_moveDownTo 2117 2119 5 1008 (by decide +kernel)
theorem tm_6_112 : ev_TMq 6 (112, 2, 1, 5, M_Rule_rankOf) := ev_tm2 ok_M_Rule_rankOf 2121 2122 1008 (by decide +kernel)
theorem tm_6_109 : ev_TMq 6 (109, 0, 1, 5, M_Rule_pop) := ev_tm0 ok_M_Rule_pop 2124 2126 6 1008 (by decide +kernel)
theorem tm_6_91 : ev_TMq 6 (91, 0, 2, 5, M_Rule_acceptsBetween) := ev_tm0 ok_M_Rule_acceptsBetween 2128 2130 7 1008 (by decide +kernel)
theorem tm_6_94 : ev_TMq 6 (94, 0, 2, 5, M_Rule_push) := ev_tm0 ok_M_Rule_push 2132 2134 8 1008 (by decide +kernel)
theorem tm_6_97 : ev_TMq 6 (97, 0, 1, 5, M_Rule_opens) := ev_tm0 ok_M_Rule_opens 2136 2138 9 1008 (by decide +kernel)
theorem tm_6_102 : ev_TMq 6 (102, 0, 2, 20, M_Str_indexOf) := ev_tm0 ok_M_Str_indexOf 2141 2142 2143 1012 (by decide +kernel)
theorem tm_6_58 : ev_TMq 6 (58, 0, 1, 5, M_Rule_bePlain) := ev_tm0 ok_M_Rule_bePlain 3071 2045 2046 1008 (by decide +kernel)
theorem tm_6_61 : ev_TMq 6 (61, 7, 2, 99, M_Mat_min) := ev_tm7 3072 2160 1016 2161 (by decide +kernel)
theorem tm_6_67 : ev_TMq 6 (67, 0, 2, 7, M_Text_signAt) := ev_tm0 ok_M_Text_signAt 3073 3038 3039 1002 (by decide +kernel)
theorem tm_6_45 : ev_TMq 6 (45, 9, 5, 99, M_Mat_max) := ev_tm9 3078 3080 3079 1020 (by decide +kernel)
theorem tm_6_115 : ev_TMq 6 (115, 2, 3, 5, M_Rule_between) := ev_tm2 ok_M_Rule_between 3143 3144 1008 (by decide +kernel)
theorem tm_6 : ∀ q ∈ ev_ml 6, ev_TMq 6 q := List.forall_mem_cons.mpr ⟨tm_6_3, List.forall_mem_cons.mpr ⟨tm_6_22, List.forall_mem_cons.mpr ⟨tm_6_27, List.forall_mem_cons.mpr ⟨tm_6_33, List.forall_mem_cons.mpr ⟨tm_6_37, List.forall_mem_cons.mpr ⟨tm_6_83, List.forall_mem_cons.mpr ⟨tm_6_106, List.forall_mem_cons.mpr ⟨tm_6_87, List.forall_mem_cons.mpr ⟨tm_6_41, List.forall_mem_cons.mpr ⟨tm_6_112, List.forall_mem_cons.mpr ⟨tm_6_109, List.forall_mem_cons.mpr ⟨tm_6_91, List.forall_mem_cons.mpr ⟨tm_6_94, List.forall_mem_cons.mpr ⟨tm_6_97, List.forall_mem_cons.mpr ⟨tm_6_102, List.forall_mem_cons.mpr ⟨tm_6_58, List.forall_mem_cons.mpr ⟨tm_6_61, List.forall_mem_cons.mpr ⟨tm_6_67, List.forall_mem_cons.mpr ⟨tm_6_45, List.forall_mem_cons.mpr ⟨tm_6_115, fun _ h => absurd h List.not_mem_nil⟩⟩⟩⟩⟩⟩⟩⟩⟩⟩⟩⟩⟩⟩⟩⟩⟩⟩⟩⟩
theorem tm_7_3 : ev_TMq 7 (3, 8, 1, 99, M_Mat_max) := ev_tm8 1104 1032 1033 (by decide +kernel)
theorem tm_7_21 : ev_TMq 7 (21, 2, 2, 99, M_Arr_fill) := ev_tm2 ok_M_Arr_fill 1105 1106 1006 (by decide +kernel)
theorem tm_7_43 : ev_TMq 7 (43, 4, 1, 9, M_SL_sum) := ev_tm4 ok_M_SL_sum 3095 3096 1001 (by decide +kernel)
theorem tm_7_27 : ev_TMq 7 (27, 9, 5, 99, M_Mat_max) := ev_tm9 3110 3080 3079 1020 (by decide +kernel)
theorem tm_7_47 : ev_TMq 7 (47, 4, 1, 9, M_SL_isLetter) := ev_tm4 ok_M_SL_isLetter 3189 3190 1001 (by decide +kernel)
theorem tm_7 : ∀ q ∈ ev_ml 7, ev_TMq 7 q := List.forall_mem_cons.mpr ⟨tm_7_3, List.forall_mem_cons.mpr ⟨tm_7_21, List.forall_mem_cons.mpr ⟨tm_7_43, List.forall_mem_cons.mpr ⟨tm_7_27, List.forall_mem_cons.mpr ⟨tm_7_47, fun _ h => absurd h List.not_mem_nil⟩⟩⟩⟩⟩
theorem tm_8_1 : ev_TMq 8 (1, 8, 1, 99, M_Mat_max) := ev_tm8 1039 1032 1033 (by decide +kernel)
theorem tm_8 : ∀ q ∈ ev_ml 8, ev_TMq 8 q := List.forall_mem_cons.mpr ⟨tm_8_1, fun _ h => absurd h List.not_mem_nil⟩
theorem tm_9_3 : ev_TMq 9 (3, 8, 1, 99, M_Mat_max) := ev_tm8 1204 1032 1033 (by decide +kernel)
theorem tm_9_88 : ev_TMq 9 (88, 0, 3, 8, M_Union_passDay) := ev_tm0 ok_M_Union_passDay 3116 3117 3118 1009 (by decide +kernel)
theorem tm_9_92 : ev_TMq 9 (92, 0, 3, 8, M_Union_strikers) := ev_tm0 ok_M_Union_strikers 3120 3121 3122 1009 (by decide +kernel)
theorem tm_9_78 : ev_TMq 9 (78, 0, 2, 8, M_Union_tally) := ev_tm0 ok_M_Union_tally 3124 3125 3126 1009 (by decide +kernel)
theorem tm_9_28 : ev_TMq 9 (28, 2, 2, 99, M_Arr_fill) := ev_tm2 ok_M_Arr_fill 3128 1106 1006 (by decide +kernel)
theorem tm_9_74 : ev_TMq 9 (74, 0, 5, 8, M_Union_grudge) := ev_tm0 ok_M_Union_grudge 3129 3130 3131 1009 (by decide +kernel)
theorem tm_9_56 : ev_TMq 9 (56, 2, 1, 99, M_Int_bitCount) := ev_tm2 ok_M_Int_bitCount 3133 3134 1019 (by decide +kernel)
theorem tm_9_65 : ev_TMq 9 (65, 0, 2, 5, M_Rule_workOut) := ev_tm0 ok_M_Rule_workOut 3139 3140 3141 1008 (by decide +kernel)
theorem tm_9_95 : ev_TMq 9 (95, 0, 4, 0, M_Book_spellAll) := ev_tm0 ok_M_Book_spellAll 3146 3147 3148 1004 (by decide +kernel)
theorem tm_9_99 : ev_TMq 9 (99, 0, 1, 8, M_Union_pairsThatFall) := ev_tm0 ok_M_Union_pairsThatFall 3162 3164 11 1009 (by decide +kernel)
theorem tm_9_115 : ev_TMq 9 (115, 0, 3, 0, M_Book_areTwins) := ev_tm0 ok_M_Book_areTwins 3166 3167 3168 1004 (by decide +kernel)
theorem tm_9_106 : ev_TMq 9 (106, 7, 2, 99, M_Mat_min) := ev_tm7 3170 2160 1016 2161 (by decide +kernel)
theorem tm_9_112 : ev_TMq 9 (112, 6, 2, 99, M_Mat_max) := ev_tm6 3171 2157 1016 2158 (by decide +kernel)
theorem tm_9 : ∀ q ∈ ev_ml 9, ev_TMq 9 q := List.forall_mem_cons.mpr ⟨tm_9_3, List.forall_mem_cons.mpr ⟨tm_9_88, List.forall_mem_cons.mpr ⟨tm_9_92, List.forall_mem_cons.mpr ⟨tm_9_78, List.forall_mem_cons.mpr ⟨tm_9_28, List.forall_mem_cons.mpr ⟨tm_9_74, List.forall_mem_cons.mpr ⟨tm_9_56, List.forall_mem_cons.mpr ⟨tm_9_65, List.forall_mem_cons.mpr ⟨tm_9_95, List.forall_mem_cons.mpr ⟨tm_9_99, List.forall_mem_cons.mpr ⟨tm_9_115, List.forall_mem_cons.mpr ⟨tm_9_106, List.forall_mem_cons.mpr ⟨tm_9_112, fun _ h => absurd h List.not_mem_nil⟩⟩⟩⟩⟩⟩⟩⟩⟩⟩⟩⟩⟩
theorem tm_10_1 : ev_TMq 10 (1, 8, 1, 99, M_Mat_max) := ev_tm8 1031 1032 1033 (by decide +kernel)
theorem tm_10_9 : ev_TMq 10 (9, 3, 1, 7, M_Text_init) := ev_tm3 ok_M_Text_init 1036 1037 1002 (by decide +kernel)
theorem tm_10_18 : ev_TMq 10 (18, 3, 1, 4, M_Row_init) := ev_tm3 ok_M_Row_init 1054 1055 1003 (by decide +kernel)
theorem tm_10_25 : ev_TMq 10 (25, 3, 1, 0, M_Book_init) := ev_tm3 ok_M_Book_init 1070 1071 1004 (by decide +kernel)
theorem tm_10_32 : ev_TMq 10 (32, 1, 1, 6, M_State_init) := ev_tm1 ok_M_State_init 1101 1102 1005 (by decide +kernel)
theorem tm_10_42 : ev_TMq 10 (42, 1, 1, 3, M_Past_init) := ev_tm1 ok_M_Past_init 1143 1144 1007 (by decide +kernel)
theorem tm_10_49 : ev_TMq 10 (49, 3, 1, 5, M_Rule_init) := ev_tm3 ok_M_Rule_init 1170 1171 1008 (by decide +kernel)
theorem tm_10_59 : ev_TMq 10 (59, 1, 2, 8, M_Union_init) := ev_tm1 ok_M_Union_init 1201 1202 1009 (by decide +kernel)
theorem tm_10_68 : ev_TMq 10 (68, 1, 2, 1, M_Measure_init) := ev_tm1 ok_M_Measure_init 1233 1234 1010 (by decide +kernel)
theorem tm_10_75 : ev_TMq 10 (75, 3, 1, 2, M_Notices_init) := ev_tm3 ok_M_Notices_init 2026 2027 1011 (by decide +kernel)
theorem tm_10_99 : ev_TMq 10 (99, 0, 1, 5, M_Rule_bePlain) := ev_tm0 ok_M_Rule_bePlain 2044 2045 2046 1008 (by decide +kernel)
theorem tm_10_102 : ev_TMq 10 (102, 0, 2, 7, M_Text_takeFour) := ev_tm0 ok_M_Text_takeFour 3020 3021 3022 1002 (by decide +kernel)
theorem tm_10_110 : ev_TMq 10 (110, 0, 2, 0, M_Book_faultIn) := ev_tm0 ok_M_Book_faultIn 3032 3033 3034 1004 (by decide +kernel)
theorem tm_10_114 : ev_TMq 10 (114, 0, 3, 0, M_Book_takeLines) := ev_tm0 ok_M_Book_takeLines 3047 3048 3049 1004 (by decide +kernel)
theorem tm_10_118 : ev_TMq 10 (118, 0, 1, 3, M_Past_forgetAll) := ev_tm0 ok_M_Past_forgetAll 3059 3060 3061 1007 (by decide +kernel)
theorem tm_10_121 : ev_TMq 10 (121, 0, 2, 5, M_Rule_read) := ev_tm0 ok_M_Rule_read 3067 3068 3069 1008 (by decide +kernel)
theorem tm_10_124 : ev_TMq 10 (124, 0, 2, 5, M_Rule_copy) := ev_tm0 ok_M_Rule_copy 3074 3075 3076 1008 (by decide +kernel)
theorem tm_10_197 : ev_TMq 10 (197, 2, 2, 99, M_Arr_fill) := ev_tm2 ok_M_Arr_fill 3085 1106 1006 (by decide +kernel)
theorem tm_10_203 : ev_TMq 10 (203, 2, 2, 9, M_SL_cutTo) := ev_tm2 ok_M_SL_cutTo 3086 3087 1001 (by decide +kernel)
theorem tm_10_206 : ev_TMq 10 (206, 7, 2, 99, M_Mat_min) := ev_tm7 3089 2160 1016 2161 (by decide +kernel)
theorem tm_10_211 : ev_TMq 10 (211, 6, 2, 99, M_Mat_max) := ev_tm6 3090 2157 1016 2158 (by decide +kernel)
theorem tm_10_214 : ev_TMq 10 (214, 0, 1, 6, M_State_moodsTogether) := ev_tm0 ok_M_State_moodsTogether 3091 3092 3093 1005 (by decide +kernel)
theorem tm_10_218 : ev_TMq 10 (218, 0, 2, 3, M_Past_remember) := ev_tm0 ok_M_Past_remember 3102 3103 3104 1007 (by decide +kernel)
theorem tm_10_221 : ev_TMq 10 (221, 0, 4, 8, M_Union_passDays) := ev_tm0 ok_M_Union_passDays 3112 3113 3114 1009 (by decide +kernel)
theorem tm_10_231 : ev_TMq 10 (231, 0, 3, 4, M_Row_tellTwo) := ev_tm0 ok_M_Row_tellTwo 3172 3173 3174 1003 (by decide +kernel)
theorem tm_10_235 : ev_TMq 10 (235, 0, 2, 6, M_State_copy) := ev_tm0 ok_M_State_copy 3184 3107 3108 1005 (by decide +kernel)
theorem tm_10_237 : ev_TMq 10 (237, 0, 3, 6, M_State_putOffer) := ev_tm0 ok_M_State_putOffer 3185 3186 3187 1005 (by decide +kernel)
theorem tm_10_240 : ev_TMq 10 (240, 0, 2, 9, M_SL_rememberIfDone) := ev_tm0 ok_M_SL_rememberIfDone 3192 3194 12 1001 (by decide +kernel)
theorem tm_10_243 : ev_TMq 10 (243, 0, 3, 6, M_State_stir) := ev_tm0 ok_M_State_stir 3200 3201 3202 1005 (by decide +kernel)
theorem tm_10_246 : ev_TMq 10 (246, 0, 4, 0, M_Book_mute) := ev_tm0 ok_M_Book_mute 3208 3209 3210 1004 (by decide +kernel)
theorem tm_10_249 : ev_TMq 10 (249, 2, 1, 99, M_Acts_faultIn) := ev_tm2 ok_M_Acts_faultIn 3225 3226 1025 (by decide +kernel)
theorem tm_10_252 : ev_TMq 10 (252, 0, 2, 9, M_SL_doAct) := ev_tm0 ok_M_SL_doAct 3236 3238 13 1001 (by decide +kernel)
theorem tm_10_255 : ev_TMq 10 (255, 0, 2, 7, M_Text_signAt) := ev_tm0 ok_M_Text_signAt 4000 3038 3039 1002 (by decide +kernel)
theorem tm_10_303 : ev_TMq 10 (303, 0, 3, 8, M_Union_passDay) := ev_tm0 ok_M_Union_passDay 4001 3117 3118 1009 (by decide +kernel)
theorem tm_10_259 : ev_TMq 10 (259, 2, 1, 99, M_Acts_lengthOf) := ev_tm2 ok_M_Acts_lengthOf 4002 3234 1025 (by decide +kernel)
theorem tm_10_262 : ev_TMq 10 (262, 0, 2, 3, M_Past_bringBack) := ev_tm0 ok_M_Past_bringBack 4007 4008 4009 1007 (by decide +kernel)
theorem tm_10_128 : ev_TMq 10 (128, 0, 2, 0, M_Book_has) := ev_tm0 ok_M_Book_has 4015 3217 3218 1004 (by decide +kernel)
theorem tm_10_267 : ev_TMq 10 (267, 2, 1, 9, M_SL_isSet) := ev_tm2 ok_M_SL_isSet 4016 4017 1001 (by decide +kernel)
theorem tm_10_144 : ev_TMq 10 (144, 0, 4, 0, M_Book_gone) := ev_tm0 ok_M_Book_gone 4019 3155 3156 1004 (by decide +kernel)
theorem tm_10_271 : ev_TMq 10 (271, 0, 2, 4, M_Row_tell) := ev_tm0 ok_M_Row_tell 4020 3177 3178 1003 (by decide +kernel)
theorem tm_10_275 : ev_TMq 10 (275, 0, 4, 0, M_Book_spellAll) := ev_tm0 ok_M_Book_spellAll 4025 3147 3148 1004 (by decide +kernel)
theorem tm_10_280 : ev_TMq 10 (280, 0, 2, 9, M_SL_firstLike) := ev_tm0 ok_M_SL_firstLike 4026 4028 14 1001 (by decide +kernel)
theorem tm_10_283 : ev_TMq 10 (283, 0, 3, 0, M_Book_hasBoth) := ev_tm0 ok_M_Book_hasBoth 4034 4035 4036 1004 (by decide +kernel)
theorem tm_10_286 : ev_TMq 10 (286, 0, 5, 1, M_Measure_edits) := ev_tm0 ok_M_Measure_edits 4038 4039 4040 1010 (by decide +kernel)
theorem tm_10_290 : ev_TMq 10 (290, 0, 4, 1, M_Measure_stepsTo) := ev_tm0 ok_M_Measure_stepsTo 4060 4061 4062 1010 (by decide +kernel)
theorem tm_10_297 : ev_TMq 10 (297, 0, 3, 1, M_Measure_stepFrom) := ev_tm0 ok_M_Measure_stepFrom 4074 4071 4072 1010 (by decide +kernel)
theorem tm_10_307 : ev_TMq 10 (307, 0, 1, 9, M_SL_tellFirstFallen) := ev_tm0 ok_M_SL_tellFirstFallen 4083 4085 19 1001 (by decide +kernel)
theorem tm_10_431 : ev_TMq 10 (431, 0, 3, 0, M_Book_areTwins) := ev_tm0 ok_M_Book_areTwins 4087 3167 3168 1004 (by decide +kernel)
theorem tm_10_174 : ev_TMq 10 (174, 2, 1, 9, M_SL_isLetter) := ev_tm2 ok_M_SL_isLetter 4092 3190 1001 (by decide +kernel)
theorem tm_10_310 : ev_TMq 10 (310, 0, 5, 1, M_Measure_inCommon) := ev_tm0 ok_M_Measure_inCommon 4097 4098 4099 1010 (by decide +kernel)
theorem tm_10_179 : ev_TMq 10 (179, 0, 2, 8, M_Union_tally) := ev_tm0 ok_M_Union_tally 4110 3125 3126 1009 (by decide +kernel)
theorem tm_10_193 : ev_TMq 10 (193, 0, 5, 8, M_Union_grudge) := ev_tm0 ok_M_Union_grudge 4111 3130 3131 1009 (by decide +kernel)
theorem tm_10_148 : ev_TMq 10 (148, 2, 1, 99, M_Int_bitCount) := ev_tm2 ok_M_Int_bitCount 4116 3134 1019 (by decide +kernel)
theorem tm_10_313 : ev_TMq 10 (313, 0, 3, 9, M_SL_tellsApart) := ev_tm0 ok_M_SL_tellsApart 4117 4119 21 1001 (by decide +kernel)
theorem tm_10_316 : ev_TMq 10 (316, 0, 2, 9, M_SL_tellSet) := ev_tm0 ok_M_SL_tellSet 4121 4123 22 1001 (by decide +kernel)
theorem tm_10_319 : ev_TMq 10 (319, 0, 2, 0, M_Book_unsaidLetters) := ev_tm0 ok_M_Book_unsaidLetters 4129 4130 4131 1004 (by decide +kernel)
theorem tm_10_323 : ev_TMq 10 (323, 0, 5, 0, M_Book_areOne) := ev_tm0 ok_M_Book_areOne 4141 4142 4143 1004 (by decide +kernel)
theorem tm_10_327 : ev_TMq 10 (327, 0, 2, 9, M_SL_countPairsThatAreOne) := ev_tm0 ok_M_SL_countPairsThatAreOne 4149 4151 23 1001 (by decide +kernel)
theorem tm_10_331 : ev_TMq 10 (331, 0, 2, 9, M_SL_neverMeet) := ev_tm0 ok_M_SL_neverMeet 4153 4155 24 1001 (by decide +kernel)
theorem tm_10_334 : ev_TMq 10 (334, 0, 3, 0, M_Book_placesOf) := ev_tm0 ok_M_Book_placesOf 4161 3159 3160 1004 (by decide +kernel)
theorem tm_10_337 : ev_TMq 10 (337, 0, 3, 0, M_Book_bare) := ev_tm0 ok_M_Book_bare 4162 3056 3057 1004 (by decide +kernel)
theorem tm_10_340 : ev_TMq 10 (340, 0, 4, 0, M_Book_spell) := ev_tm0 ok_M_Book_spell 4163 3151 3152 1004 (by decide +kernel)
theorem tm_10_343 : ev_TMq 10 (343, 0, 2, 9, M_SL_neverTaken) := ev_tm0 ok_M_SL_neverTaken 4164 4166 25 1001 (by decide +kernel)
theorem tm_10_346 : ev_TMq 10 (346, 0, 1, 2, M_Notices_hasRoom) := ev_tm0 ok_M_Notices_hasRoom 4172 4173 4174 1011 (by decide +kernel)
theorem tm_10_350 : ev_TMq 10 (350, 0, 4, 2, M_Notices_take) := ev_tm0 ok_M_Notices_take 4176 4177 4178 1011 (by decide +kernel)
theorem tm_10_355 : ev_TMq 10 (355, 0, 2, 9, M_SL_agrees) := ev_tm0 ok_M_SL_agrees 4188 4190 26 1001 (by decide +kernel)
theorem tm_10_434 : ev_TMq 10 (434, 0, 2, 2, M_Notices_agreeWith) := ev_tm0 ok_M_Notices_agreeWith 4192 4193 4194 1011 (by decide +kernel)
theorem tm_10_358 : ev_TMq 10 (358, 0, 2, 9, M_SL_tellBestLook) := ev_tm0 ok_M_SL_tellBestLook 4200 4202 27 1001 (by decide +kernel)
theorem tm_10_361 : ev_TMq 10 (361, 0, 4, 8, M_Union_priceOf) := ev_tm0 ok_M_Union_priceOf 4208 4209 4210 1009 (by decide +kernel)
theorem tm_10_365 : ev_TMq 10 (365, 0, 1, 9, M_SL_priceStrikers) := ev_tm0 ok_M_SL_priceStrikers 4216 4218 28 1001 (by decide +kernel)
theorem tm_10_368 : ev_TMq 10 (368, 0, 2, 9, M_SL_sumOver) := ev_tm0 ok_M_SL_sumOver 4220 4222 29 1001 (by decide +kernel)
theorem tm_10_371 : ev_TMq 10 (371, 9, 5, 99, M_Mat_max) := ev_tm9 4228 3080 3079 1020 (by decide +kernel)
theorem tm_10_377 : ev_TMq 10 (377, 0, 2, 9, M_SL_setsTurnedBy) := ev_tm0 ok_M_SL_setsTurnedBy 4229 4231 30 1001 (by decide +kernel)
theorem tm_10_380 : ev_TMq 10 (380, 0, 3, 4, M_Row_tellFraction) := ev_tm0 ok_M_Row_tellFraction 4233 4234 4235 1003 (by decide +kernel)
theorem tm_10_383 : ev_TMq 10 (383, 2, 2, 9, M_SL_chanceOf) := ev_tm2 ok_M_SL_chanceOf 5002 5003 1001 (by decide +kernel)
theorem tm_10_389 : ev_TMq 10 (389, 2, 2, 9, M_SL_raised) := ev_tm2 ok_M_SL_raised 5005 5006 1001 (by decide +kernel)
theorem tm_10_393 : ev_TMq 10 (393, 2, 3, 9, M_SL_winningTake) := ev_tm2 ok_M_SL_winningTake 5013 5014 1001 (by decide +kernel)
theorem tm_10_397 : ev_TMq 10 (397, 0, 3, 8, M_Union_strikers) := ev_tm0 ok_M_Union_strikers 5020 3121 3122 1009 (by decide +kernel)
theorem tm_10_400 : ev_TMq 10 (400, 2, 3, 9, M_SL_isBest) := ev_tm2 ok_M_SL_isBest 5025 5026 1001 (by decide +kernel)
theorem tm_10_438 : ev_TMq 10 (438, 2, 3, 9, M_SL_gainOf) := ev_tm2 ok_M_SL_gainOf 5028 5029 1001 (by decide +kernel)
theorem tm_10_407 : ev_TMq 10 (407, 0, 2, 9, M_SL_draw) := ev_tm0 ok_M_SL_draw 5035 5037 31 1001 (by decide +kernel)
theorem tm_10_410 : ev_TMq 10 (410, 0, 3, 3, M_Past_keepUnder) := ev_tm0 ok_M_Past_keepUnder 5044 5045 5046 1007 (by decide +kernel)
theorem tm_10_414 : ev_TMq 10 (414, 0, 3, 3, M_Past_takeUp) := ev_tm0 ok_M_Past_takeUp 5052 5053 5054 1007 (by decide +kernel)
theorem tm_10_420 : ev_TMq 10 (420, 2, 1, 9, M_SL_sum) := ev_tm2 ok_M_SL_sum 5060 3096 1001 (by decide +kernel)
theorem tm_10_154 : ev_TMq 10 (154, 0, 3, 0, M_Book_lettersAt) := ev_tm0 ok_M_Book_lettersAt 5134 4134 4135 1004 (by decide +kernel)
theorem tm_10_161 : ev_TMq 10 (161, 0, 2, 9, M_SL_oneWith) := ev_tm0 ok_M_SL_oneWith 5135 5137 33 1001 (by decide +kernel)
theorem tm_10_164 : ev_TMq 10 (164, 0, 3, 0, M_Book_hasSign) := ev_tm0 ok_M_Book_hasSign 5146 3213 3214 1004 (by decide +kernel)
theorem tm_10 : ∀ q ∈ ev_ml 10, ev_TMq 10 q := List.forall_mem_cons.mpr ⟨tm_10_1, List.forall_mem_cons.mpr ⟨tm_10_9, List.forall_mem_cons.mpr ⟨tm_10_18, List.forall_mem_cons.mpr ⟨tm_10_25, List.forall_mem_cons.mpr ⟨tm_10_32, List.forall_mem_cons.mpr ⟨tm_10_42, List.forall_mem_cons.mpr ⟨tm_10_49, List.forall_mem_cons.mpr ⟨tm_10_59, List.forall_mem_cons.mpr ⟨tm_10_68, List.forall_mem_cons.mpr ⟨tm_10_75, List.forall_mem_cons.mpr ⟨tm_10_99, List.forall_mem_cons.mpr ⟨tm_10_102, List.forall_mem_cons.mpr ⟨tm_10_110, List.forall_mem_cons.mpr ⟨tm_10_114, List.forall_mem_cons.mpr ⟨tm_10_118, List.forall_mem_cons.mpr ⟨tm_10_121, List.forall_mem_cons.mpr ⟨tm_10_124, List.forall_mem_cons.mpr ⟨tm_10_197, List.forall_mem_cons.mpr ⟨tm_10_203, List.forall_mem_cons.mpr ⟨tm_10_206, List.forall_mem_cons.mpr ⟨tm_10_211, List.forall_mem_cons.mpr ⟨tm_10_214, List.forall_mem_cons.mpr ⟨tm_10_218, List.forall_mem_cons.mpr ⟨tm_10_221, List.forall_mem_cons.mpr ⟨tm_10_231, List.forall_mem_cons.mpr ⟨tm_10_235, List.forall_mem_cons.mpr ⟨tm_10_237, List.forall_mem_cons.mpr ⟨tm_10_240, List.forall_mem_cons.mpr ⟨tm_10_243, List.forall_mem_cons.mpr ⟨tm_10_246, List.forall_mem_cons.mpr ⟨tm_10_249, List.forall_mem_cons.mpr ⟨tm_10_252, List.forall_mem_cons.mpr ⟨tm_10_255, List.forall_mem_cons.mpr ⟨tm_10_303, List.forall_mem_cons.mpr ⟨tm_10_259, List.forall_mem_cons.mpr ⟨tm_10_262, List.forall_mem_cons.mpr ⟨tm_10_128, List.forall_mem_cons.mpr ⟨tm_10_267, List.forall_mem_cons.mpr ⟨tm_10_144, List.forall_mem_cons.mpr ⟨tm_10_271, List.forall_mem_cons.mpr ⟨tm_10_275, List.forall_mem_cons.mpr ⟨tm_10_280, List.forall_mem_cons.mpr ⟨tm_10_283, List.forall_mem_cons.mpr ⟨tm_10_286, List.forall_mem_cons.mpr ⟨tm_10_290, List.forall_mem_cons.mpr ⟨tm_10_297, List.forall_mem_cons.mpr ⟨tm_10_307, List.forall_mem_cons.mpr ⟨tm_10_431, List.forall_mem_cons.mpr ⟨tm_10_174, List.forall_mem_cons.mpr ⟨tm_10_310, List.forall_mem_cons.mpr ⟨tm_10_179, List.forall_mem_cons.mpr ⟨tm_10_193, List.forall_mem_cons.mpr ⟨tm_10_148, List.forall_mem_cons.mpr ⟨tm_10_313, List.forall_mem_cons.mpr ⟨tm_10_316, List.forall_mem_cons.mpr ⟨tm_10_319, List.forall_mem_cons.mpr ⟨tm_10_323, List.forall_mem_cons.mpr ⟨tm_10_327, List.forall_mem_cons.mpr ⟨tm_10_331, List.forall_mem_cons.mpr ⟨tm_10_334, List.forall_mem_cons.mpr ⟨tm_10_337, List.forall_mem_cons.mpr ⟨tm_10_340, List.forall_mem_cons.mpr ⟨tm_10_343, List.forall_mem_cons.mpr ⟨tm_10_346, List.forall_mem_cons.mpr ⟨tm_10_350, List.forall_mem_cons.mpr ⟨tm_10_355, List.forall_mem_cons.mpr ⟨tm_10_434, List.forall_mem_cons.mpr ⟨tm_10_358, List.forall_mem_cons.mpr ⟨tm_10_361, List.forall_mem_cons.mpr ⟨tm_10_365, List.forall_mem_cons.mpr ⟨tm_10_368, List.forall_mem_cons.mpr ⟨tm_10_371, List.forall_mem_cons.mpr ⟨tm_10_377, List.forall_mem_cons.mpr ⟨tm_10_380, List.forall_mem_cons.mpr ⟨tm_10_383, List.forall_mem_cons.mpr ⟨tm_10_389, List.forall_mem_cons.mpr ⟨tm_10_393, List.forall_mem_cons.mpr ⟨tm_10_397, List.forall_mem_cons.mpr ⟨tm_10_400, List.forall_mem_cons.mpr ⟨tm_10_438, List.forall_mem_cons.mpr ⟨tm_10_407, List.forall_mem_cons.mpr ⟨tm_10_410, List.forall_mem_cons.mpr ⟨tm_10_414, List.forall_mem_cons.mpr ⟨tm_10_420, List.forall_mem_cons.mpr ⟨tm_10_154, List.forall_mem_cons.mpr ⟨tm_10_161, List.forall_mem_cons.mpr ⟨tm_10_164, fun _ h => absurd h List.not_mem_nil⟩⟩⟩⟩⟩⟩⟩⟩⟩⟩⟩⟩⟩⟩⟩⟩⟩⟩⟩⟩⟩⟩⟩⟩⟩⟩⟩⟩⟩⟩⟩⟩⟩⟩⟩⟩⟩⟩⟩⟩⟩⟩⟩⟩⟩⟩⟩⟩⟩⟩⟩⟩⟩⟩⟩⟩⟩⟩⟩⟩⟩⟩⟩⟩⟩⟩⟩⟩⟩⟩⟩⟩⟩⟩⟩⟩⟩⟩⟩⟩⟩⟩⟩⟩⟩⟩⟩
theorem tm_11_22 : ev_TMq 11 (22, 8, 1, 99, M_Mat_max) := ev_tm8 5173 1032 1033 (by decide +kernel)
theorem tm_11_132 : ev_TMq 11 (132, 2, 3, 10, M_Mo_in) := ev_tm2 ok_M_Mo_in 6090 6091 1018 (by decide +kernel)
theorem tm_11_205 : ev_TMq 11 (205, 0, 2, 10, M_Mo_begins) := ev_tm0 ok_M_Mo_begins 6097 6099 34 1018 (by decide +kernel)
theorem tm_11_163 : ev_TMq 11 (163, 7, 2, 99, M_Mat_min) := ev_tm7 6101 2160 1016 2161 (by decide +kernel)
theorem tm_11_208 : ev_TMq 11 (208, 0, 1, 10, M_Mo_readsWord) := ev_tm0 ok_M_Mo_readsWord 6102 6104 35 1018 (by decide +kernel)
theorem tm_11_195 : ev_TMq 11 (195, 0, 2, 10, M_Mo_takesOf) := ev_tm0 ok_M_Mo_takesOf 6107 6109 36 1018 (by decide +kernel)
theorem tm_11_176 : ev_TMq 11 (176, 0, 1, 20, M_Str_length) := ev_tm0 ok_M_Str_length 6111 2054 2055 1012 (by decide +kernel)
theorem tm_11_182 : ev_TMq 11 (182, 0, 2, 20, M_Str_charAt) := ev_tm0 ok_M_Str_charAt 6112 2064 2065 1012 (by decide +kernel)
theorem tm_11_199 : ev_TMq 11 (199, 2, 1, 99, M_Int_bitCount) := ev_tm2 ok_M_Int_bitCount 6113 3134 1019 (by decide +kernel)
theorem tm_11_211 : ev_TMq 11 (211, 0, 2, 10, M_Mo_takes) := ev_tm0 ok_M_Mo_takes 6114 6116 37 1018 (by decide +kernel)
theorem tm_11_146 : ev_TMq 11 (146, 2, 1, 10, M_Mo_flag) := ev_tm2 ok_M_Mo_flag 6118 6119 1018 (by decide +kernel)
theorem tm_11_214 : ev_TMq 11 (214, 0, 4, 10, M_Mo_faultOf) := ev_tm0 ok_M_Mo_faultOf 6121 6123 38 1018 (by decide +kernel)
theorem tm_11_251 : ev_TMq 11 (251, 0, 1, 10, M_Mo_readsRule) := ev_tm0 ok_M_Mo_readsRule 6129 6131 39 1018 (by decide +kernel)
theorem tm_11_239 : ev_TMq 11 (239, 0, 2, 10, M_Mo_readsRank) := ev_tm0 ok_M_Mo_readsRank 6133 6135 40 1018 (by decide +kernel)
theorem tm_11_227 : ev_TMq 11 (227, 0, 1, 10, M_Mo_readsThing) := ev_tm0 ok_M_Mo_readsThing 6137 6139 41 1018 (by decide +kernel)
theorem tm_11_230 : ev_TMq 11 (230, 0, 2, 10, M_Mo_codes) := ev_tm0 ok_M_Mo_codes 6141 6143 42 1018 (by decide +kernel)
theorem tm_11_186 : ev_TMq 11 (186, 0, 1, 10, M_Mo_isDigit) := ev_tm0 ok_M_Mo_isDigit 6145 6147 43 1018 (by decide +kernel)
theorem tm_11_234 : ev_TMq 11 (234, 0, 2, 10, M_Mo_number) := ev_tm0 ok_M_Mo_number 6151 6153 44 1018 (by decide +kernel)
theorem tm_11_254 : ev_TMq 11 (254, 0, 3, 10, M_Mo_laysCode) := ev_tm0 ok_M_Mo_laysCode 6159 6161 45 1018 (by decide +kernel)
theorem tm_11_136 : ev_TMq 11 (136, 0, 2, 10, M_Mo_isWord) := ev_tm0 ok_M_Mo_isWord 6167 6169 46 1018 (by decide +kernel)
theorem tm_11_279 : ev_TMq 11 (279, 0, 1, 10, M_Mo_refuse) := ev_tm0 ok_M_Mo_refuse 6172 6174 47 1018 (by decide +kernel)
theorem tm_11_142 : ev_TMq 11 (142, 2, 2, 10, M_Mo_has) := ev_tm2 ok_M_Mo_has 6176 6177 1018 (by decide +kernel)
theorem tm_11_273 : ev_TMq 11 (273, 0, 5, 10, M_Mo_isOneBy) := ev_tm0 ok_M_Mo_isOneBy 6179 6181 48 1018 (by decide +kernel)
theorem tm_11_269 : ev_TMq 11 (269, 0, 5, 10, M_Mo_lays) := ev_tm0 ok_M_Mo_lays 6183 6185 49 1018 (by decide +kernel)
theorem tm_11_282 : ev_TMq 11 (282, 2, 1, 10, M_Mo_isLetter) := ev_tm2 ok_M_Mo_isLetter 6195 6196 1018 (by decide +kernel)
theorem tm_11_150 : ev_TMq 11 (150, 0, 4, 10, M_Mo_signsOf) := ev_tm0 ok_M_Mo_signsOf 6200 6202 50 1018 (by decide +kernel)
theorem tm_11_287 : ev_TMq 11 (287, 0, 3, 10, M_Mo_grudge) := ev_tm0 ok_M_Mo_grudge 6204 6206 51 1018 (by decide +kernel)
theorem tm_11_265 : ev_TMq 11 (265, 0, 4, 10, M_Mo_grudgeAt) := ev_tm0 ok_M_Mo_grudgeAt 6208 6210 52 1018 (by decide +kernel)
theorem tm_11_262 : ev_TMq 11 (262, 0, 1, 10, M_Mo_ruled) := ev_tm0 ok_M_Mo_ruled 6212 6214 53 1018 (by decide +kernel)
theorem tm_11_258 : ev_TMq 11 (258, 2, 3, 10, M_Mo_worked) := ev_tm2 ok_M_Mo_worked 6216 6217 1018 (by decide +kernel)
theorem tm_11_293 : ev_TMq 11 (293, 6, 2, 99, M_Mat_max) := ev_tm6 6224 2157 1016 2158 (by decide +kernel)
theorem tm_11_296 : ev_TMq 11 (296, 2, 2, 10, M_Mo_sumOf) := ev_tm2 ok_M_Mo_sumOf 6225 6226 1018 (by decide +kernel)
theorem tm_11_318 : ev_TMq 11 (318, 0, 1, 10, M_Mo_putsBy) := ev_tm0 ok_M_Mo_putsBy 6237 6239 54 1018 (by decide +kernel)
theorem tm_11_321 : ev_TMq 11 (321, 0, 2, 10, M_Mo_dayGoes) := ev_tm0 ok_M_Mo_dayGoes 7001 7003 55 1018 (by decide +kernel)
theorem tm_11_302 : ev_TMq 11 (302, 0, 2, 10, M_Mo_unsaid) := ev_tm0 ok_M_Mo_unsaid 7005 7007 56 1018 (by decide +kernel)
theorem tm_11_306 : ev_TMq 11 (306, 0, 2, 10, M_Mo_strikeNext) := ev_tm0 ok_M_Mo_strikeNext 7009 7011 57 1018 (by decide +kernel)
theorem tm_11_309 : ev_TMq 11 (309, 0, 3, 10, M_Mo_fallen) := ev_tm0 ok_M_Mo_fallen 7013 7015 58 1018 (by decide +kernel)
theorem tm_11_18 : ev_TMq 11 (18, 0, 2, 10, M_Mo_enters) := ev_tm0 ok_M_Mo_enters 7017 7019 59 1018 (by decide +kernel)
theorem tm_11_299 : ev_TMq 11 (299, 0, 2, 10, M_Mo_adds) := ev_tm0 ok_M_Mo_adds 7021 7023 60 1018 (by decide +kernel)
theorem tm_11_324 : ev_TMq 11 (324, 0, 4, 10, M_Mo_offers) := ev_tm0 ok_M_Mo_offers 7029 7031 61 1018 (by decide +kernel)
theorem tm_11_327 : ev_TMq 11 (327, 0, 2, 10, M_Mo_counted) := ev_tm0 ok_M_Mo_counted 7034 7036 62 1018 (by decide +kernel)
theorem tm_11_330 : ev_TMq 11 (330, 0, 3, 10, M_Mo_stirsOne) := ev_tm0 ok_M_Mo_stirsOne 7042 7044 63 1018 (by decide +kernel)
theorem tm_11_333 : ev_TMq 11 (333, 0, 4, 10, M_Mo_mutesOne) := ev_tm0 ok_M_Mo_mutesOne 7051 7053 64 1018 (by decide +kernel)
theorem tm_11_346 : ev_TMq 11 (346, 0, 1, 10, M_Mo_readsAct) := ev_tm0 ok_M_Mo_readsAct 7059 7061 65 1018 (by decide +kernel)
theorem tm_11_343 : ev_TMq 11 (343, 0, 3, 10, M_Mo_digitIn) := ev_tm0 ok_M_Mo_digitIn 7065 7067 66 1018 (by decide +kernel)
theorem tm_11_349 : ev_TMq 11 (349, 0, 2, 10, M_Mo_does) := ev_tm0 ok_M_Mo_does 7069 7071 67 1018 (by decide +kernel)
theorem tm_11_357 : ev_TMq 11 (357, 0, 3, 10, M_Mo_arePair) := ev_tm0 ok_M_Mo_arePair 7086 7088 68 1018 (by decide +kernel)
theorem tm_11_360 : ev_TMq 11 (360, 0, 4, 10, M_Mo_apartBy) := ev_tm0 ok_M_Mo_apartBy 7090 7092 69 1018 (by decide +kernel)
theorem tm_11_354 : ev_TMq 11 (354, 2, 2, 10, M_Mo_square) := ev_tm2 ok_M_Mo_square 7094 7095 1018 (by decide +kernel)
theorem tm_11_363 : ev_TMq 11 (363, 0, 4, 10, M_Mo_sharedBy) := ev_tm0 ok_M_Mo_sharedBy 7101 7103 70 1018 (by decide +kernel)
theorem tm_11_371 : ev_TMq 11 (371, 0, 1, 10, M_Mo_copies) := ev_tm0 ok_M_Mo_copies 7116 7118 71 1018 (by decide +kernel)
theorem tm_11_374 : ev_TMq 11 (374, 2, 2, 99, M_Int_compare) := ev_tm2 ok_M_Int_compare 7132 7133 1019 (by decide +kernel)
theorem tm_11_377 : ev_TMq 11 (377, 2, 2, 10, M_Mo_isFewer) := ev_tm2 ok_M_Mo_isFewer 7139 7140 1018 (by decide +kernel)
theorem tm_11_380 : ev_TMq 11 (380, 0, 3, 10, M_Mo_areApart) := ev_tm0 ok_M_Mo_areApart 7142 7144 72 1018 (by decide +kernel)
theorem tm_11_383 : ev_TMq 11 (383, 0, 2, 10, M_Mo_tellsSet) := ev_tm0 ok_M_Mo_tellsSet 7146 7148 73 1018 (by decide +kernel)
theorem tm_11_386 : ev_TMq 11 (386, 0, 4, 10, M_Mo_canBeOne) := ev_tm0 ok_M_Mo_canBeOne 7162 7164 74 1018 (by decide +kernel)
theorem tm_11_393 : ev_TMq 11 (393, 0, 2, 10, M_Mo_isAsNoticed) := ev_tm0 ok_M_Mo_isAsNoticed 7182 7184 75 1018 (by decide +kernel)
theorem tm_11_396 : ev_TMq 11 (396, 0, 2, 10, M_Mo_cost) := ev_tm0 ok_M_Mo_cost 7194 7196 76 1018 (by decide +kernel)
theorem tm_11_399 : ev_TMq 11 (399, 0, 2, 10, M_Mo_tips) := ev_tm0 ok_M_Mo_tips 7206 7208 77 1018 (by decide +kernel)
theorem tm_11_402 : ev_TMq 11 (402, 0, 3, 10, M_Mo_tellsFraction) := ev_tm0 ok_M_Mo_tellsFraction 7210 7212 78 1018 (by decide +kernel)
theorem tm_11_7 : ev_TMq 11 (7, 2, 2, 10, M_Mo_common) := ev_tm2 ok_M_Mo_common 7214 7215 1018 (by decide +kernel)
theorem tm_11_417 : ev_TMq 11 (417, 2, 3, 10, M_Mo_isRest) := ev_tm2 ok_M_Mo_isRest 7237 7238 1018 (by decide +kernel)
theorem tm_11_412 : ev_TMq 11 (412, 2, 3, 10, M_Mo_gets) := ev_tm2 ok_M_Mo_gets 8000 8001 1018 (by decide +kernel)
theorem tm_11_425 : ev_TMq 11 (425, 0, 2, 10, M_Mo_draws) := ev_tm0 ok_M_Mo_draws 8007 8009 79 1018 (by decide +kernel)
theorem tm_11_428 : ev_TMq 11 (428, 0, 2, 10, M_Mo_allSigns) := ev_tm0 ok_M_Mo_allSigns 8024 8026 80 1018 (by decide +kernel)
theorem tm_11 : ∀ q ∈ ev_ml 11, ev_TMq 11 q := List.forall_mem_cons.mpr ⟨tm_11_22, List.forall_mem_cons.mpr ⟨tm_11_132, List.forall_mem_cons.mpr ⟨tm_11_205, List.forall_mem_cons.mpr ⟨tm_11_163, List.forall_mem_cons.mpr ⟨tm_11_208, List.forall_mem_cons.mpr ⟨tm_11_195, List.forall_mem_cons.mpr ⟨tm_11_176, List.forall_mem_cons.mpr ⟨tm_11_182, List.forall_mem_cons.mpr ⟨tm_11_199, List.forall_mem_cons.mpr ⟨tm_11_211, List.forall_mem_cons.mpr ⟨tm_11_146, List.forall_mem_cons.mpr ⟨tm_11_214, List.forall_mem_cons.mpr ⟨tm_11_251, List.forall_mem_cons.mpr ⟨tm_11_239, List.forall_mem_cons.mpr ⟨tm_11_227, List.forall_mem_cons.mpr ⟨tm_11_230, List.forall_mem_cons.mpr ⟨tm_11_186, List.forall_mem_cons.mpr ⟨tm_11_234, List.forall_mem_cons.mpr ⟨tm_11_254, List.forall_mem_cons.mpr ⟨tm_11_136, List.forall_mem_cons.mpr ⟨tm_11_279, List.forall_mem_cons.mpr ⟨tm_11_142, List.forall_mem_cons.mpr ⟨tm_11_273, List.forall_mem_cons.mpr ⟨tm_11_269, List.forall_mem_cons.mpr ⟨tm_11_282, List.forall_mem_cons.mpr ⟨tm_11_150, List.forall_mem_cons.mpr ⟨tm_11_287, List.forall_mem_cons.mpr ⟨tm_11_265, List.forall_mem_cons.mpr ⟨tm_11_262, List.forall_mem_cons.mpr ⟨tm_11_258, List.forall_mem_cons.mpr ⟨tm_11_293, List.forall_mem_cons.mpr ⟨tm_11_296, List.forall_mem_cons.mpr ⟨tm_11_318, List.forall_mem_cons.mpr ⟨tm_11_321, List.forall_mem_cons.mpr ⟨tm_11_302, List.forall_mem_cons.mpr ⟨tm_11_306, List.forall_mem_cons.mpr ⟨tm_11_309, List.forall_mem_cons.mpr ⟨tm_11_18, List.forall_mem_cons.mpr ⟨tm_11_299, List.forall_mem_cons.mpr ⟨tm_11_324, List.forall_mem_cons.mpr ⟨tm_11_327, List.forall_mem_cons.mpr ⟨tm_11_330, List.forall_mem_cons.mpr ⟨tm_11_333, List.forall_mem_cons.mpr ⟨tm_11_346, List.forall_mem_cons.mpr ⟨tm_11_343, List.forall_mem_cons.mpr ⟨tm_11_349, List.forall_mem_cons.mpr ⟨tm_11_357, List.forall_mem_cons.mpr ⟨tm_11_360, List.forall_mem_cons.mpr ⟨tm_11_354, List.forall_mem_cons.mpr ⟨tm_11_363, List.forall_mem_cons.mpr ⟨tm_11_371, List.forall_mem_cons.mpr ⟨tm_11_374, List.forall_mem_cons.mpr ⟨tm_11_377, List.forall_mem_cons.mpr ⟨tm_11_380, List.forall_mem_cons.mpr ⟨tm_11_383, List.forall_mem_cons.mpr ⟨tm_11_386, List.forall_mem_cons.mpr ⟨tm_11_393, List.forall_mem_cons.mpr ⟨tm_11_396, List.forall_mem_cons.mpr ⟨tm_11_399, List.forall_mem_cons.mpr ⟨tm_11_402, List.forall_mem_cons.mpr ⟨tm_11_7, List.forall_mem_cons.mpr ⟨tm_11_417, List.forall_mem_cons.mpr ⟨tm_11_412, List.forall_mem_cons.mpr ⟨tm_11_425, List.forall_mem_cons.mpr ⟨tm_11_428, fun _ h => absurd h List.not_mem_nil⟩⟩⟩⟩⟩⟩⟩⟩⟩⟩⟩⟩⟩⟩⟩⟩⟩⟩⟩⟩⟩⟩⟩⟩⟩⟩⟩⟩⟩⟩⟩⟩⟩⟩⟩⟩⟩⟩⟩⟩⟩⟩⟩⟩⟩⟩⟩⟩⟩⟩⟩⟩⟩⟩⟩⟩⟩⟩⟩⟩⟩⟩⟩⟩⟩
theorem tm_12_25 : ev_TMq 12 (25, 1, 1, 9, M_SL_init) := ev_tm1 ok_M_SL_init 1028 1029 1001 (by decide +kernel)
theorem tm_12_29 : ev_TMq 12 (29, 0, 2, 9, M_SL_sign) := ev_tm0 ok_M_SL_sign 3016 3017 3018 1001 (by decide +kernel)
theorem tm_12_34 : ev_TMq 12 (34, 0, 2, 9, M_SL_end) := ev_tm0 ok_M_SL_end 3024 3025 3026 1001 (by decide +kernel)
theorem tm_12_39 : ev_TMq 12 (39, 0, 1, 9, M_SL_words) := ev_tm0 ok_M_SL_words 3028 3029 3030 1001 (by decide +kernel)
theorem tm_12_44 : ev_TMq 12 (44, 0, 1, 9, M_SL_rule) := ev_tm0 ok_M_SL_rule 3063 3064 3065 1001 (by decide +kernel)
theorem tm_12_63 : ev_TMq 12 (63, 0, 5, 9, M_SL_sheet) := ev_tm0 ok_M_SL_sheet 3081 3082 3083 1001 (by decide +kernel)
theorem tm_12_68 : ev_TMq 12 (68, 0, 2, 9, M_SL_days) := ev_tm0 ok_M_SL_days 3098 3099 3100 1001 (by decide +kernel)
theorem tm_12_72 : ev_TMq 12 (72, 0, 3, 9, M_SL_offer) := ev_tm0 ok_M_SL_offer 3180 3181 3182 1001 (by decide +kernel)
theorem tm_12_76 : ev_TMq 12 (76, 0, 3, 9, M_SL_stirs) := ev_tm0 ok_M_SL_stirs 3196 3197 3198 1001 (by decide +kernel)
theorem tm_12_80 : ev_TMq 12 (80, 0, 3, 9, M_SL_mutes) := ev_tm0 ok_M_SL_mutes 3204 3205 3206 1001 (by decide +kernel)
theorem tm_12_84 : ev_TMq 12 (84, 0, 1, 9, M_SL_year) := ev_tm0 ok_M_SL_year 3221 3222 3223 1001 (by decide +kernel)
theorem tm_12_88 : ev_TMq 12 (88, 0, 1, 9, M_SL_undo) := ev_tm0 ok_M_SL_undo 4003 4004 4005 1001 (by decide +kernel)
theorem tm_12_92 : ev_TMq 12 (92, 0, 3, 9, M_SL_looks) := ev_tm0 ok_M_SL_looks 4011 4012 4013 1001 (by decide +kernel)
theorem tm_12_96 : ev_TMq 12 (96, 0, 2, 9, M_SL_kinds) := ev_tm0 ok_M_SL_kinds 4021 4022 4023 1001 (by decide +kernel)
theorem tm_12_100 : ev_TMq 12 (100, 0, 3, 9, M_SL_apart) := ev_tm0 ok_M_SL_apart 4030 4031 4032 1001 (by decide +kernel)
theorem tm_12_104 : ev_TMq 12 (104, 0, 4, 9, M_SL_chain) := ev_tm0 ok_M_SL_chain 4056 4057 4058 1001 (by decide +kernel)
theorem tm_12_109 : ev_TMq 12 (109, 0, 2, 9, M_SL_ahead) := ev_tm0 ok_M_SL_ahead 4075 4076 4077 1001 (by decide +kernel)
theorem tm_12_113 : ev_TMq 12 (113, 0, 1, 9, M_SL_falls) := ev_tm0 ok_M_SL_falls 4079 4080 4081 1001 (by decide +kernel)
theorem tm_12_117 : ev_TMq 12 (117, 0, 2, 9, M_SL_when) := ev_tm0 ok_M_SL_when 4088 4089 4090 1001 (by decide +kernel)
theorem tm_12_121 : ev_TMq 12 (121, 0, 3, 9, M_SL_shared) := ev_tm0 ok_M_SL_shared 4093 4094 4095 1001 (by decide +kernel)
theorem tm_12_125 : ev_TMq 12 (125, 0, 1, 9, M_SL_crossest) := ev_tm0 ok_M_SL_crossest 4106 4107 4108 1001 (by decide +kernel)
theorem tm_12_129 : ev_TMq 12 (129, 0, 2, 9, M_SL_must) := ev_tm0 ok_M_SL_must 4112 4113 4114 1001 (by decide +kernel)
theorem tm_12_133 : ev_TMq 12 (133, 0, 1, 9, M_SL_most) := ev_tm0 ok_M_SL_most 4125 4126 4127 1001 (by decide +kernel)
theorem tm_12_137 : ev_TMq 12 (137, 0, 3, 9, M_SL_joins) := ev_tm0 ok_M_SL_joins 4137 4138 4139 1001 (by decide +kernel)
theorem tm_12_141 : ev_TMq 12 (141, 0, 1, 9, M_SL_safe) := ev_tm0 ok_M_SL_safe 4145 4146 4147 1001 (by decide +kernel)
theorem tm_12_145 : ev_TMq 12 (145, 0, 3, 9, M_SL_parts) := ev_tm0 ok_M_SL_parts 4157 4158 4159 1001 (by decide +kernel)
theorem tm_12_149 : ev_TMq 12 (149, 0, 4, 9, M_SL_noticed) := ev_tm0 ok_M_SL_noticed 4168 4169 4170 1001 (by decide +kernel)
theorem tm_12_153 : ev_TMq 12 (153, 0, 1, 9, M_SL_forget) := ev_tm0 ok_M_SL_forget 4180 4181 4182 1001 (by decide +kernel)
theorem tm_12_157 : ev_TMq 12 (157, 0, 1, 9, M_SL_fits) := ev_tm0 ok_M_SL_fits 4184 4185 4186 1001 (by decide +kernel)
theorem tm_12_161 : ev_TMq 12 (161, 0, 1, 9, M_SL_next) := ev_tm0 ok_M_SL_next 4196 4197 4198 1001 (by decide +kernel)
theorem tm_12_165 : ev_TMq 12 (165, 0, 1, 9, M_SL_calms) := ev_tm0 ok_M_SL_calms 4204 4205 4206 1001 (by decide +kernel)
theorem tm_12_169 : ev_TMq 12 (169, 0, 2, 9, M_SL_buys) := ev_tm0 ok_M_SL_buys 4212 4213 4214 1001 (by decide +kernel)
theorem tm_12_173 : ev_TMq 12 (173, 0, 2, 9, M_SL_power) := ev_tm0 ok_M_SL_power 4224 4225 4226 1001 (by decide +kernel)
theorem tm_12_177 : ev_TMq 12 (177, 0, 4, 9, M_SL_misread) := ev_tm0 ok_M_SL_misread 4238 4239 5000 1001 (by decide +kernel)
theorem tm_12_181 : ev_TMq 12 (181, 0, 4, 9, M_SL_game) := ev_tm0 ok_M_SL_game 5009 5010 5011 1001 (by decide +kernel)
theorem tm_12_185 : ev_TMq 12 (185, 0, 1, 9, M_SL_law) := ev_tm0 ok_M_SL_law 5016 5017 5018 1001 (by decide +kernel)
theorem tm_12_189 : ev_TMq 12 (189, 0, 2, 9, M_SL_rests) := ev_tm0 ok_M_SL_rests 5021 5022 5023 1001 (by decide +kernel)
theorem tm_12_193 : ev_TMq 12 (193, 0, 3, 9, M_SL_years) := ev_tm0 ok_M_SL_years 5031 5032 5033 1001 (by decide +kernel)
theorem tm_12_197 : ev_TMq 12 (197, 0, 2, 9, M_SL_keep) := ev_tm0 ok_M_SL_keep 5040 5041 5042 1001 (by decide +kernel)
theorem tm_12_201 : ev_TMq 12 (201, 0, 2, 9, M_SL_again) := ev_tm0 ok_M_SL_again 5048 5049 5050 1001 (by decide +kernel)
theorem tm_12_205 : ev_TMq 12 (205, 0, 2, 9, M_SL_count) := ev_tm0 ok_M_SL_count 5056 5057 5058 1001 (by decide +kernel)
theorem tm_12_7 : ev_TMq 12 (7, 0, 3, 9, M_SL_word) := ev_tm0 ok_M_SL_word 5065 5066 5067 1001 (by decide +kernel)
theorem tm_12_15 : ev_TMq 12 (15, 0, 3, 9, M_SL_at) := ev_tm0 ok_M_SL_at 5142 5143 5144 1001 (by decide +kernel)
theorem tm_12_18 : ev_TMq 12 (18, 0, 3, 9, M_SL_letter) := ev_tm0 ok_M_SL_letter 5151 5152 5153 1001 (by decide +kernel)
theorem tm_12_21 : ev_TMq 12 (21, 0, 2, 9, M_SL_row) := ev_tm0 ok_M_SL_row 5159 5160 5161 1001 (by decide +kernel)
theorem tm_12_54 : ev_TMq 12 (54, 0, 1, 10, M_Mo_thrown) := ev_tm0 ok_M_Mo_thrown 5164 5165 5166 1018 (by decide +kernel)
theorem tm_12_28 : ev_TMq 12 (28, 1, 1, 10, M_Mo_init) := ev_tm1 ok_M_Mo_init 5170 5171 1018 (by decide +kernel)
theorem tm_12_33 : ev_TMq 12 (33, 0, 2, 10, M_Mo_sign) := ev_tm0 ok_M_Mo_sign 6082 6083 6084 1018 (by decide +kernel)
theorem tm_12_38 : ev_TMq 12 (38, 0, 2, 10, M_Mo_end) := ev_tm0 ok_M_Mo_end 6086 6087 6088 1018 (by decide +kernel)
theorem tm_12_43 : ev_TMq 12 (43, 0, 1, 10, M_Mo_words) := ev_tm0 ok_M_Mo_words 6093 6094 6095 1018 (by decide +kernel)
theorem tm_12_47 : ev_TMq 12 (47, 0, 1, 10, M_Mo_rule) := ev_tm0 ok_M_Mo_rule 6125 6126 6127 1018 (by decide +kernel)
theorem tm_12_53 : ev_TMq 12 (53, 0, 3, 10, M_Mo_word) := ev_tm0 ok_M_Mo_word 6163 6164 6165 1018 (by decide +kernel)
theorem tm_12_59 : ev_TMq 12 (59, 0, 3, 10, M_Mo_at) := ev_tm0 ok_M_Mo_at 6187 6188 6189 1018 (by decide +kernel)
theorem tm_12_62 : ev_TMq 12 (62, 0, 3, 10, M_Mo_letter) := ev_tm0 ok_M_Mo_letter 6191 6192 6193 1018 (by decide +kernel)
theorem tm_12_67 : ev_TMq 12 (67, 0, 5, 10, M_Mo_sheet) := ev_tm0 ok_M_Mo_sheet 6219 6220 6221 1018 (by decide +kernel)
theorem tm_12_91 : ev_TMq 12 (91, 0, 1, 10, M_Mo_undo) := ev_tm0 ok_M_Mo_undo 6228 6229 6230 1018 (by decide +kernel)
theorem tm_12_71 : ev_TMq 12 (71, 0, 2, 10, M_Mo_days) := ev_tm0 ok_M_Mo_days 6232 6233 6234 1018 (by decide +kernel)
theorem tm_12_75 : ev_TMq 12 (75, 0, 3, 10, M_Mo_offer) := ev_tm0 ok_M_Mo_offer 7025 7026 7027 1018 (by decide +kernel)
theorem tm_12_79 : ev_TMq 12 (79, 0, 3, 10, M_Mo_stirs) := ev_tm0 ok_M_Mo_stirs 7038 7039 7040 1018 (by decide +kernel)
theorem tm_12_83 : ev_TMq 12 (83, 0, 3, 10, M_Mo_mutes) := ev_tm0 ok_M_Mo_mutes 7047 7048 7049 1018 (by decide +kernel)
theorem tm_12_87 : ev_TMq 12 (87, 0, 1, 10, M_Mo_year) := ev_tm0 ok_M_Mo_year 7055 7056 7057 1018 (by decide +kernel)
theorem tm_12_95 : ev_TMq 12 (95, 0, 3, 10, M_Mo_looks) := ev_tm0 ok_M_Mo_looks 7073 7074 7075 1018 (by decide +kernel)
theorem tm_12_99 : ev_TMq 12 (99, 0, 2, 10, M_Mo_kinds) := ev_tm0 ok_M_Mo_kinds 7078 7079 7080 1018 (by decide +kernel)
theorem tm_12_103 : ev_TMq 12 (103, 0, 3, 10, M_Mo_apart) := ev_tm0 ok_M_Mo_apart 7082 7083 7084 1018 (by decide +kernel)
theorem tm_12_124 : ev_TMq 12 (124, 0, 3, 10, M_Mo_shared) := ev_tm0 ok_M_Mo_shared 7097 7098 7099 1018 (by decide +kernel)
theorem tm_12_108 : ev_TMq 12 (108, 0, 4, 10, M_Mo_chain) := ev_tm0 ok_M_Mo_chain 7105 7106 7107 1018 (by decide +kernel)
theorem tm_12_112 : ev_TMq 12 (112, 0, 2, 10, M_Mo_ahead) := ev_tm0 ok_M_Mo_ahead 7111 7112 7113 1018 (by decide +kernel)
theorem tm_12_116 : ev_TMq 12 (116, 0, 1, 10, M_Mo_falls) := ev_tm0 ok_M_Mo_falls 7120 7121 7122 1018 (by decide +kernel)
theorem tm_12_120 : ev_TMq 12 (120, 0, 2, 10, M_Mo_when) := ev_tm0 ok_M_Mo_when 7124 7125 7126 1018 (by decide +kernel)
theorem tm_12_128 : ev_TMq 12 (128, 0, 1, 10, M_Mo_crossest) := ev_tm0 ok_M_Mo_crossest 7128 7129 7130 1018 (by decide +kernel)
theorem tm_12_132 : ev_TMq 12 (132, 0, 2, 10, M_Mo_must) := ev_tm0 ok_M_Mo_must 7135 7136 7137 1018 (by decide +kernel)
theorem tm_12_136 : ev_TMq 12 (136, 0, 1, 10, M_Mo_most) := ev_tm0 ok_M_Mo_most 7150 7151 7152 1018 (by decide +kernel)
theorem tm_12_140 : ev_TMq 12 (140, 0, 3, 10, M_Mo_joins) := ev_tm0 ok_M_Mo_joins 7154 7155 7156 1018 (by decide +kernel)
theorem tm_12_144 : ev_TMq 12 (144, 0, 1, 10, M_Mo_safe) := ev_tm0 ok_M_Mo_safe 7158 7159 7160 1018 (by decide +kernel)
theorem tm_12_148 : ev_TMq 12 (148, 0, 3, 10, M_Mo_parts) := ev_tm0 ok_M_Mo_parts 7166 7167 7168 1018 (by decide +kernel)
theorem tm_12_152 : ev_TMq 12 (152, 0, 4, 10, M_Mo_noticed) := ev_tm0 ok_M_Mo_noticed 7170 7171 7172 1018 (by decide +kernel)
theorem tm_12_156 : ev_TMq 12 (156, 0, 1, 10, M_Mo_forget) := ev_tm0 ok_M_Mo_forget 7174 7175 7176 1018 (by decide +kernel)
theorem tm_12_160 : ev_TMq 12 (160, 0, 1, 10, M_Mo_fits) := ev_tm0 ok_M_Mo_fits 7178 7179 7180 1018 (by decide +kernel)
theorem tm_12_164 : ev_TMq 12 (164, 0, 1, 10, M_Mo_next) := ev_tm0 ok_M_Mo_next 7186 7187 7188 1018 (by decide +kernel)
theorem tm_12_168 : ev_TMq 12 (168, 0, 1, 10, M_Mo_calms) := ev_tm0 ok_M_Mo_calms 7190 7191 7192 1018 (by decide +kernel)
theorem tm_12_172 : ev_TMq 12 (172, 0, 2, 10, M_Mo_buys) := ev_tm0 ok_M_Mo_buys 7198 7199 7200 1018 (by decide +kernel)
theorem tm_12_176 : ev_TMq 12 (176, 0, 2, 10, M_Mo_power) := ev_tm0 ok_M_Mo_power 7202 7203 7204 1018 (by decide +kernel)
theorem tm_12_180 : ev_TMq 12 (180, 0, 4, 10, M_Mo_misread) := ev_tm0 ok_M_Mo_misread 7217 7218 7219 1018 (by decide +kernel)
theorem tm_12_184 : ev_TMq 12 (184, 0, 4, 10, M_Mo_game) := ev_tm0 ok_M_Mo_game 7223 7224 7225 1018 (by decide +kernel)
theorem tm_12_188 : ev_TMq 12 (188, 0, 1, 10, M_Mo_law) := ev_tm0 ok_M_Mo_law 7228 7229 7230 1018 (by decide +kernel)
theorem tm_12_192 : ev_TMq 12 (192, 0, 2, 10, M_Mo_rests) := ev_tm0 ok_M_Mo_rests 7232 7233 7234 1018 (by decide +kernel)
theorem tm_12_196 : ev_TMq 12 (196, 0, 3, 10, M_Mo_years) := ev_tm0 ok_M_Mo_years 8003 8004 8005 1018 (by decide +kernel)
theorem tm_12_200 : ev_TMq 12 (200, 0, 2, 10, M_Mo_keep) := ev_tm0 ok_M_Mo_keep 8012 8013 8014 1018 (by decide +kernel)
theorem tm_12_204 : ev_TMq 12 (204, 0, 2, 10, M_Mo_again) := ev_tm0 ok_M_Mo_again 8016 8017 8018 1018 (by decide +kernel)
theorem tm_12_208 : ev_TMq 12 (208, 0, 2, 10, M_Mo_count) := ev_tm0 ok_M_Mo_count 8020 8021 8022 1018 (by decide +kernel)
theorem tm_12_212 : ev_TMq 12 (212, 0, 2, 10, M_Mo_row) := ev_tm0 ok_M_Mo_row 8028 8029 8030 1018 (by decide +kernel)
theorem tm_12 : ∀ q ∈ ev_ml 12, ev_TMq 12 q := List.forall_mem_cons.mpr ⟨tm_12_25, List.forall_mem_cons.mpr ⟨tm_12_29, List.forall_mem_cons.mpr ⟨tm_12_34, List.forall_mem_cons.mpr ⟨tm_12_39, List.forall_mem_cons.mpr ⟨tm_12_44, List.forall_mem_cons.mpr ⟨tm_12_63, List.forall_mem_cons.mpr ⟨tm_12_68, List.forall_mem_cons.mpr ⟨tm_12_72, List.forall_mem_cons.mpr ⟨tm_12_76, List.forall_mem_cons.mpr ⟨tm_12_80, List.forall_mem_cons.mpr ⟨tm_12_84, List.forall_mem_cons.mpr ⟨tm_12_88, List.forall_mem_cons.mpr ⟨tm_12_92, List.forall_mem_cons.mpr ⟨tm_12_96, List.forall_mem_cons.mpr ⟨tm_12_100, List.forall_mem_cons.mpr ⟨tm_12_104, List.forall_mem_cons.mpr ⟨tm_12_109, List.forall_mem_cons.mpr ⟨tm_12_113, List.forall_mem_cons.mpr ⟨tm_12_117, List.forall_mem_cons.mpr ⟨tm_12_121, List.forall_mem_cons.mpr ⟨tm_12_125, List.forall_mem_cons.mpr ⟨tm_12_129, List.forall_mem_cons.mpr ⟨tm_12_133, List.forall_mem_cons.mpr ⟨tm_12_137, List.forall_mem_cons.mpr ⟨tm_12_141, List.forall_mem_cons.mpr ⟨tm_12_145, List.forall_mem_cons.mpr ⟨tm_12_149, List.forall_mem_cons.mpr ⟨tm_12_153, List.forall_mem_cons.mpr ⟨tm_12_157, List.forall_mem_cons.mpr ⟨tm_12_161, List.forall_mem_cons.mpr ⟨tm_12_165, List.forall_mem_cons.mpr ⟨tm_12_169, List.forall_mem_cons.mpr ⟨tm_12_173, List.forall_mem_cons.mpr ⟨tm_12_177, List.forall_mem_cons.mpr ⟨tm_12_181, List.forall_mem_cons.mpr ⟨tm_12_185, List.forall_mem_cons.mpr ⟨tm_12_189, List.forall_mem_cons.mpr ⟨tm_12_193, List.forall_mem_cons.mpr ⟨tm_12_197, List.forall_mem_cons.mpr ⟨tm_12_201, List.forall_mem_cons.mpr ⟨tm_12_205, List.forall_mem_cons.mpr ⟨tm_12_7, List.forall_mem_cons.mpr ⟨tm_12_15, List.forall_mem_cons.mpr ⟨tm_12_18, List.forall_mem_cons.mpr ⟨tm_12_21, List.forall_mem_cons.mpr ⟨tm_12_54, List.forall_mem_cons.mpr ⟨tm_12_28, List.forall_mem_cons.mpr ⟨tm_12_33, List.forall_mem_cons.mpr ⟨tm_12_38, List.forall_mem_cons.mpr ⟨tm_12_43, List.forall_mem_cons.mpr ⟨tm_12_47, List.forall_mem_cons.mpr ⟨tm_12_53, List.forall_mem_cons.mpr ⟨tm_12_59, List.forall_mem_cons.mpr ⟨tm_12_62, List.forall_mem_cons.mpr ⟨tm_12_67, List.forall_mem_cons.mpr ⟨tm_12_91, List.forall_mem_cons.mpr ⟨tm_12_71, List.forall_mem_cons.mpr ⟨tm_12_75, List.forall_mem_cons.mpr ⟨tm_12_79, List.forall_mem_cons.mpr ⟨tm_12_83, List.forall_mem_cons.mpr ⟨tm_12_87, List.forall_mem_cons.mpr ⟨tm_12_95, List.forall_mem_cons.mpr ⟨tm_12_99, List.forall_mem_cons.mpr ⟨tm_12_103, List.forall_mem_cons.mpr ⟨tm_12_124, List.forall_mem_cons.mpr ⟨tm_12_108, List.forall_mem_cons.mpr ⟨tm_12_112, List.forall_mem_cons.mpr ⟨tm_12_116, List.forall_mem_cons.mpr ⟨tm_12_120, List.forall_mem_cons.mpr ⟨tm_12_128, List.forall_mem_cons.mpr ⟨tm_12_132, List.forall_mem_cons.mpr ⟨tm_12_136, List.forall_mem_cons.mpr ⟨tm_12_140, List.forall_mem_cons.mpr ⟨tm_12_144, List.forall_mem_cons.mpr ⟨tm_12_148, List.forall_mem_cons.mpr ⟨tm_12_152, List.forall_mem_cons.mpr ⟨tm_12_156, List.forall_mem_cons.mpr ⟨tm_12_160, List.forall_mem_cons.mpr ⟨tm_12_164, List.forall_mem_cons.mpr ⟨tm_12_168, List.forall_mem_cons.mpr ⟨tm_12_172, List.forall_mem_cons.mpr ⟨tm_12_176, List.forall_mem_cons.mpr ⟨tm_12_180, List.forall_mem_cons.mpr ⟨tm_12_184, List.forall_mem_cons.mpr ⟨tm_12_188, List.forall_mem_cons.mpr ⟨tm_12_192, List.forall_mem_cons.mpr ⟨tm_12_196, List.forall_mem_cons.mpr ⟨tm_12_200, List.forall_mem_cons.mpr ⟨tm_12_204, List.forall_mem_cons.mpr ⟨tm_12_208, List.forall_mem_cons.mpr ⟨tm_12_212, fun _ h => absurd h List.not_mem_nil⟩⟩⟩⟩⟩⟩⟩⟩⟩⟩⟩⟩⟩⟩⟩⟩⟩⟩⟩⟩⟩⟩⟩⟩⟩⟩⟩⟩⟩⟩⟩⟩⟩⟩⟩⟩⟩⟩⟩⟩⟩⟩⟩⟩⟩⟩⟩⟩⟩⟩⟩⟩⟩⟩⟩⟩⟩⟩⟩⟩⟩⟩⟩⟩⟩⟩⟩⟩⟩⟩⟩⟩⟩⟩⟩⟩⟩⟩⟩⟩⟩⟩⟩⟩⟩⟩⟩⟩⟩⟩⟩
theorem tm_13_335 : ev_TMq 13 (335, 0, 1, 20, M_Str_coder) := ev_tm0 ok_M_Str_coder 2057 2058 2059 1012 (by decide +kernel)
theorem tm_13_492 : ev_TMq 13 (492, 0, 1, 20, M_Str_isLatin1) := ev_tm0 ok_M_Str_isLatin1 2067 2068 2069 1012 (by decide +kernel)
theorem tm_13_495 : ev_TMq 13 (495, 2, 2, 99, M_Lat_charAt) := ev_tm2 ok_M_Lat_charAt 2071 2072 1013 (by decide +kernel)
theorem tm_13_1059 : ev_TMq 13 (1059, 2, 3, 99, M_Pre_checkIndex) := ev_tm2 ok_M_Pre_checkIndex 2079 2080 1014 (by decide +kernel)
theorem tm_13_633 : ev_TMq 13 (633, 0, 3, 20, M_Str_indexOf2) := ev_tm0 ok_M_Str_indexOf2 2145 2146 2147 1012 (by decide +kernel)
theorem tm_13_505 : ev_TMq 13 (505, 0, 1, 20, M_Str_length) := ev_tm0 ok_M_Str_length 2149 2054 2055 1012 (by decide +kernel)
theorem tm_13_637 : ev_TMq 13 (637, 2, 4, 99, M_Lat_indexOf) := ev_tm2 ok_M_Lat_indexOf 2150 2151 1013 (by decide +kernel)
theorem tm_13_1062 : ev_TMq 13 (1062, 2, 4, 99, M_Pre_checkFromToIndex) := ev_tm2 ok_M_Pre_checkFromToIndex 2180 2181 1014 (by decide +kernel)
theorem tm_13 : ∀ q ∈ ev_ml 13, ev_TMq 13 q := List.forall_mem_cons.mpr ⟨tm_13_335, List.forall_mem_cons.mpr ⟨tm_13_492, List.forall_mem_cons.mpr ⟨tm_13_495, List.forall_mem_cons.mpr ⟨tm_13_1059, List.forall_mem_cons.mpr ⟨tm_13_633, List.forall_mem_cons.mpr ⟨tm_13_505, List.forall_mem_cons.mpr ⟨tm_13_637, List.forall_mem_cons.mpr ⟨tm_13_1062, fun _ h => absurd h List.not_mem_nil⟩⟩⟩⟩⟩⟩⟩⟩
theorem tm_14_9 : ev_TMq 14 (9, 2, 2, 20, M_Str_checkIndex) := ev_tm2 ok_M_Str_checkIndex 2074 2075 1012 (by decide +kernel)
theorem tm_14_88 : ev_TMq 14 (88, 2, 1, 99, M_Lat_canEncode) := ev_tm2 ok_M_Lat_canEncode 2153 2154 1013 (by decide +kernel)
theorem tm_14_92 : ev_TMq 14 (92, 6, 2, 99, M_Mat_max) := ev_tm6 2156 2157 1016 2158 (by decide +kernel)
theorem tm_14_38 : ev_TMq 14 (38, 7, 2, 99, M_Mat_min) := ev_tm7 2159 2160 1016 2161 (by decide +kernel)
theorem tm_14_95 : ev_TMq 14 (95, 2, 4, 99, M_Lat_indexOfChar) := ev_tm2 ok_M_Lat_indexOfChar 2162 2163 1013 (by decide +kernel)
theorem tm_14 : ∀ q ∈ ev_ml 14, ev_TMq 14 q := List.forall_mem_cons.mpr ⟨tm_14_9, List.forall_mem_cons.mpr ⟨tm_14_88, List.forall_mem_cons.mpr ⟨tm_14_92, List.forall_mem_cons.mpr ⟨tm_14_38, List.forall_mem_cons.mpr ⟨tm_14_95, fun _ h => absurd h List.not_mem_nil⟩⟩⟩⟩⟩
theorem ev_TM_all : ∀ oc, ∀ q ∈ ev_ml oc, ev_TMq oc q
  | 0 => tm_0
  | 1 => tm_1
  | 2 => tm_2
  | 3 => tm_3
  | 4 => tm_4
  | 5 => tm_5
  | 6 => tm_6
  | 7 => tm_7
  | 8 => tm_8
  | 9 => tm_9
  | 10 => tm_10
  | 11 => tm_11
  | 12 => tm_12
  | 13 => tm_13
  | 14 => tm_14
  | 15 => fun _ h => absurd h List.not_mem_nil
  | 16 => fun _ h => absurd h List.not_mem_nil
  | 17 => fun _ h => absurd h List.not_mem_nil
  | 18 => fun _ h => absurd h List.not_mem_nil
  | _ + 19 => fun _ h => absurd h List.not_mem_nil
theorem ev_TM_ok : ev_TM := fun oc idx kind n ci Mc h => ev_TM_all oc (idx, kind, n, ci, Mc) (ev_lk_mem h)
def ev_TFq (oc : Nat) (q : Nat × Nat × Nat × Nat × Nat) : Prop :=
  (q.2.1 < 11 ∧ q.2.2.1 < (ev_cl q.2.1).2.2 ∧ Cond.fieldLink (ev_cn oc) q.1 (ev_cl q.2.1).1 ((ev_cl q.2.1).2.1 q.2.2.1).2.1 ((ev_cl q.2.1).2.1 q.2.2.1).2.2.1 ∈ ev_gw ∧ ((ev_cl q.2.1).2.1 q.2.2.1).1 = (ev_cl q.2.1).1 ∧ Nat.beq q.2.2.2.1 2 = ev_isr q.2.1 q.2.2.1 ∧ (q.2.2.2.1 = 0 → ev_ft q.2.1 q.2.2.1 = .int) ∧ (q.2.2.2.1 = 1 → ev_ft q.2.1 q.2.2.1 = .boolean) ∧ ((ev_cl q.2.1).2.1 q.2.2.1).2.2.2 = Nat.beq q.2.2.2.2 1)
  ∨ (q.2.1 = 20 ∧ ((q.2.2.1 = 0 ∧ q.2.2.2.1 = 2 ∧ Cond.fieldLink (ev_cn oc) q.1 "java/lang/String" "value" "[B" ∈ ev_gw) ∨ (q.2.2.1 = 1 ∧ Cond.fieldLink (ev_cn oc) q.1 "java/lang/String" "coder" "B" ∈ ev_gw)))
def ev_tfB (oc h : Nat) (q : Nat × Nat × Nat × Nat × Nat) : Bool :=
  (decide (q.2.1 < 11) && decide (q.2.2.1 < (ev_cl q.2.1).2.2) && ev_hw h (.fieldLink (ev_cn oc) q.1 (ev_cl q.2.1).1 ((ev_cl q.2.1).2.1 q.2.2.1).2.1 ((ev_cl q.2.1).2.1 q.2.2.1).2.2.1) && decide (((ev_cl q.2.1).2.1 q.2.2.1).1 = (ev_cl q.2.1).1) && decide (Nat.beq q.2.2.2.1 2 = ev_isr q.2.1 q.2.2.1) && decide (q.2.2.2.1 = 0 → ev_ft q.2.1 q.2.2.1 = .int) && decide (q.2.2.2.1 = 1 → ev_ft q.2.1 q.2.2.1 = .boolean) && decide (((ev_cl q.2.1).2.1 q.2.2.1).2.2.2 = Nat.beq q.2.2.2.2 1))
  || (decide (q.2.1 = 20) && ((decide (q.2.2.1 = 0) && decide (q.2.2.2.1 = 2) && ev_hw h (.fieldLink (ev_cn oc) q.1 "java/lang/String" "value" "[B")) || (decide (q.2.2.1 = 1) && ev_hw h (.fieldLink (ev_cn oc) q.1 "java/lang/String" "coder" "B"))))
theorem ev_tfB_ok {oc h : Nat} {q : Nat × Nat × Nat × Nat × Nat} (hh : ev_tfB oc h q = true) : ev_TFq oc q := by
  unfold ev_tfB at hh
  simp only [Bool.or_eq_true, Bool.and_eq_true, decide_eq_true_eq] at hh
  rcases hh with ⟨⟨⟨⟨⟨⟨⟨h1, h2⟩, h3⟩, h4⟩, h5⟩, h6⟩, h7⟩, h8⟩ | ⟨h1, ⟨⟨h2, h3⟩, h4⟩ | ⟨h2, h4⟩⟩
  · exact Or.inl ⟨h1, h2, ev_hw_ok h3, h4, h5, h6, h7, h8⟩
  · exact Or.inr ⟨h1, Or.inl ⟨h2, h3, ev_hw_ok h4⟩⟩
  · exact Or.inr ⟨h1, Or.inr ⟨h2, ev_hw_ok h4⟩⟩
/-- a row of checks -/
def ev_two {α : Type} (f : Nat → α → Bool) : List Nat → List α → Bool
  | h :: H, q :: L => f h q && ev_two f H L
  | _, [] => true
  | _, _ => false
theorem ev_two_ok {α : Type} {f : Nat → α → Bool} {P : α → Prop} (hf : ∀ h q, f h q = true → P q) : ∀ (H : List Nat) (L : List α), ev_two f H L = true → ∀ q ∈ L, P q
  | _, [], _, _, h => absurd h List.not_mem_nil
  | [], _ :: _, h, _, _ => by simp [ev_two] at h
  | a :: H, b :: L, h, q, hq => by
    simp only [ev_two, Bool.and_eq_true] at h
    rcases List.mem_cons.mp hq with e | e
    · rw [e]; exact hf _ _ h.1
    · exact ev_two_ok hf H L h.2 q e
theorem ev_TF_all : ∀ oc, ∀ q ∈ ev_fl oc, ev_TFq oc q
  | 0 => ev_two_ok (f := ev_tfB 0) (fun _ _ h => ev_tfB_ok h) [1043] _ (by decide +kernel)
  | 1 => ev_two_ok (f := ev_tfB 1) (fun _ _ h => ev_tfB_ok h) [1045, 1076, 1080, 1084, 1085, 1110] _ (by decide +kernel)
  | 2 => ev_two_ok (f := ev_tfB 2) (fun _ _ h => ev_tfB_ok h) [1078, 1081, 1087, 1121, 1238, 1239, 2000, 2001, 2002, 2003, 2004, 2005] _ (by decide +kernel)
  | 3 => ev_two_ok (f := ev_tfB 3) (fun _ _ h => ev_tfB_ok h) [2030, 2031, 2032, 2033] _ (by decide +kernel)
  | 4 => ev_two_ok (f := ev_tfB 4) (fun _ _ h => ev_tfB_ok h) [1150, 1151, 1152, 1153, 1154] _ (by decide +kernel)
  | 5 => ev_two_ok (f := ev_tfB 5) (fun _ _ h => ev_tfB_ok h) [1058, 1060] _ (by decide +kernel)
  | 6 => ev_two_ok (f := ev_tfB 6) (fun _ _ h => ev_tfB_ok h) [1044, 1174, 1175, 1176, 1177, 1178, 1179, 1180, 1181] _ (by decide +kernel)
  | 7 => ev_two_ok (f := ev_tfB 7) (fun _ _ h => ev_tfB_ok h) [1108, 1112, 1115, 1118, 1122, 1125] _ (by decide +kernel)
  | 8 => ev_two_ok (f := ev_tfB 8) (fun _ _ h => ev_tfB_ok h) [1040, 1041] _ (by decide +kernel)
  | 9 => ev_two_ok (f := ev_tfB 9) (fun _ _ h => ev_tfB_ok h) [1077, 1082, 1086, 1109, 1113, 1116, 1119, 1123, 1126, 1205, 1206, 1207, 1208, 1210, 1212, 1214] _ (by decide +kernel)
  | 10 => ev_two_ok (f := ev_tfB 10) (fun _ _ h => ev_tfB_ok h) [1042, 1059, 1061, 1079, 1083, 1088, 1111, 1114, 1117, 1120, 1124, 1127, 1155, 1209, 1211, 1213, 1215, 2006, 2034, 2200, 2201, 2202, 2203, 2204, 2205, 2206, 2207, 2208, 2209, 2210, 2211, 2212, 2213, 2214, 2215, 2216, 2217] _ (by decide +kernel)
  | 11 => ev_two_ok (f := ev_tfB 11) (fun _ _ h => ev_tfB_ok h) [5174, 5175, 5176, 5177, 5178, 5179, 5180, 5181, 5182, 5183, 5184, 5185, 5186, 5187, 5188, 5189, 5190, 5191, 5192, 5193, 5194, 5195, 5196, 5197, 5198, 5199, 5200, 5201, 5202, 5203, 5204, 5205, 5206, 5207, 5208, 5209, 5210, 5211, 5212, 5213, 5214, 5215, 5216, 5217, 5218, 5219, 5220, 5221, 5222] _ (by decide +kernel)
  | 12 => fun _ h => absurd h List.not_mem_nil
  | 13 => ev_two_ok (f := ev_tfB 13) (fun _ _ h => ev_tfB_ok h) [8047, 8048] _ (by decide +kernel)
  | 14 => fun _ h => absurd h List.not_mem_nil
  | 15 => fun _ h => absurd h List.not_mem_nil
  | 16 => fun _ h => absurd h List.not_mem_nil
  | 17 => fun _ h => absurd h List.not_mem_nil
  | 18 => fun _ h => absurd h List.not_mem_nil
  | _ + 19 => fun _ h => absurd h List.not_mem_nil
theorem ev_TF_ok : ev_TF := fun oc idx ci j kd fin h => ev_TF_all oc (idx, ci, j, kd, fin) (ev_lk_mem h)
def ev_kiB (oc h : Nat) (q : Nat × Int32) : Bool := ev_hw h (.constant (ev_cn oc) q.1 q.2)
def ev_kiP (oc : Nat) (q : Nat × Int32) : Prop := Cond.constant (ev_cn oc) q.1 q.2 ∈ ev_gw
theorem ev_kiB_ok {oc h : Nat} {q : Nat × Int32} (hh : ev_kiB oc h q = true) : ev_kiP oc q := ev_hw_ok hh
def ev_klB (oc h : Nat) (q : Nat × Int64) : Bool := ev_hw h (.constantLong (ev_cn oc) q.1 q.2)
def ev_klP (oc : Nat) (q : Nat × Int64) : Prop := Cond.constantLong (ev_cn oc) q.1 q.2 ∈ ev_gw
theorem ev_klB_ok {oc h : Nat} {q : Nat × Int64} (hh : ev_klB oc h q = true) : ev_klP oc q := ev_hw_ok hh
theorem ev_ki_all : ∀ oc, ∀ q ∈ ev_ki oc, ev_kiP oc q
  | 0 => fun _ h => absurd h List.not_mem_nil
  | 1 => fun _ h => absurd h List.not_mem_nil
  | 2 => fun _ h => absurd h List.not_mem_nil
  | 3 => fun _ h => absurd h List.not_mem_nil
  | 4 => fun _ h => absurd h List.not_mem_nil
  | 5 => fun _ h => absurd h List.not_mem_nil
  | 6 => fun _ h => absurd h List.not_mem_nil
  | 7 => fun _ h => absurd h List.not_mem_nil
  | 8 => fun _ h => absurd h List.not_mem_nil
  | 9 => fun _ h => absurd h List.not_mem_nil
  | 10 => ev_two_ok (f := ev_kiB 10) (fun _ _ h => ev_kiB_ok h) [5039] _ (by decide +kernel)
  | 11 => ev_two_ok (f := ev_kiB 11) (fun _ _ h => ev_kiB_ok h) [7110, 8011] _ (by decide +kernel)
  | 12 => fun _ h => absurd h List.not_mem_nil
  | 13 => fun _ h => absurd h List.not_mem_nil
  | 14 => fun _ h => absurd h List.not_mem_nil
  | 15 => fun _ h => absurd h List.not_mem_nil
  | 16 => ev_two_ok (f := ev_kiB 16) (fun _ _ h => ev_kiB_ok h) [3136, 3137, 3138] _ (by decide +kernel)
  | 17 => fun _ h => absurd h List.not_mem_nil
  | 18 => fun _ h => absurd h List.not_mem_nil
  | _ + 19 => fun _ h => absurd h List.not_mem_nil
theorem ev_kl_all : ∀ oc, ∀ q ∈ ev_kl oc, ev_klP oc q
  | 0 => fun _ h => absurd h List.not_mem_nil
  | 1 => fun _ h => absurd h List.not_mem_nil
  | 2 => fun _ h => absurd h List.not_mem_nil
  | 3 => fun _ h => absurd h List.not_mem_nil
  | 4 => fun _ h => absurd h List.not_mem_nil
  | 5 => fun _ h => absurd h List.not_mem_nil
  | 6 => fun _ h => absurd h List.not_mem_nil
  | 7 => fun _ h => absurd h List.not_mem_nil
  | 8 => fun _ h => absurd h List.not_mem_nil
  | 9 => fun _ h => absurd h List.not_mem_nil
  | 10 => ev_two_ok (f := ev_klB 10) (fun _ _ h => ev_klB_ok h) [5008] _ (by decide +kernel)
  | 11 => ev_two_ok (f := ev_klB 11) (fun _ _ h => ev_klB_ok h) [6149, 6150, 6171, 6198, 6199, 6223, 6236, 7033, 7046, 7077, 7109, 7115, 7221, 7222, 7227, 7236] _ (by decide +kernel)
  | 12 => fun _ h => absurd h List.not_mem_nil
  | 13 => fun _ h => absurd h List.not_mem_nil
  | 14 => fun _ h => absurd h List.not_mem_nil
  | 15 => fun _ h => absurd h List.not_mem_nil
  | 16 => fun _ h => absurd h List.not_mem_nil
  | 17 => fun _ h => absurd h List.not_mem_nil
  | 18 => fun _ h => absurd h List.not_mem_nil
  | _ + 19 => fun _ h => absurd h List.not_mem_nil
theorem ev_TK_ok : ev_TK := ⟨fun oc idx v h => ev_ki_all oc (idx, v) (ev_lk_mem h), fun oc idx v h => ev_kl_all oc (idx, v) (ev_lk_mem h), ev_hw_ok (h := 2061) (by decide +kernel), ev_hw_ok (h := 2077) (by decide +kernel)⟩
def ev_tnB (oc : Nat) (a b c : Nat) (q : Nat × Nat) : Bool := (bif Nat.blt q.2 11 then ev_hw a (.classLink (ev_cn oc) q.1 (ev_cl q.2).1) && ev_hw b (.instantiable (ev_cl q.2).1 (ev_cl q.2).2.2) && ev_hw c (.initialized (ev_cl q.2).1) else bif Nat.beq q.2 50 then ev_hw a (.classLink (ev_cn oc) q.1 "java/util/NoSuchElementException") else ev_hw a (.classLink (ev_cn oc) q.1 ("[" ++ (FieldType.array .int).toString)))
def ev_TNq (oc : Nat) (q : Nat × Nat) : Prop := (q.2 < 11 → Cond.classLink (ev_cn oc) q.1 (ev_cl q.2).1 ∈ ev_gw ∧ Cond.instantiable (ev_cl q.2).1 (ev_cl q.2).2.2 ∈ ev_gw ∧ Cond.initialized (ev_cl q.2).1 ∈ ev_gw) ∧ (q.2 = 50 → Cond.classLink (ev_cn oc) q.1 "java/util/NoSuchElementException" ∈ ev_gw) ∧ (q.2 = 60 → Cond.classLink (ev_cn oc) q.1 ("[" ++ (FieldType.array .int).toString) ∈ ev_gw)
theorem ev_tnB_ok {oc a b c : Nat} {q : Nat × Nat} (h : ev_tnB oc a b c q = true) : ev_TNq oc q := by
  unfold ev_tnB at h
  cases h1 : Nat.blt q.2 11 with
  | true =>
    rw [h1] at h
    simp only [cond_true, Bool.and_eq_true] at h
    have := ev_blt h1
    exact ⟨fun _ => ⟨ev_hw_ok h.1.1, ev_hw_ok h.1.2, ev_hw_ok h.2⟩, fun e => by omega, fun e => by omega⟩
  | false =>
    rw [h1] at h
    have n1 : ¬ q.2 < 11 := fun e => by
      have : Nat.blt q.2 11 = true := Nat.ble_eq.mpr e
      rw [h1] at this; cases this
    cases h2 : Nat.beq q.2 50 with
    | true =>
      rw [h2] at h
      have := Nat.eq_of_beq_eq_true h2
      exact ⟨fun e => absurd e n1, fun _ => ev_hw_ok h, fun e => by omega⟩
    | false =>
      rw [h2] at h
      have n2 : ¬ q.2 = 50 := fun e => by rw [e] at h2; cases h2
      exact ⟨fun e => absurd e n1, fun e => absurd e n2, fun _ => ev_hw_ok h⟩
theorem ev_TN_all : ∀ oc, ∀ q ∈ ev_nl oc, ev_TNq oc q
  | 0 => fun _ h => absurd h List.not_mem_nil
  | 1 => List.forall_mem_cons.mpr ⟨ev_tnB_ok (a := 1074) (b := 0) (c := 0) (by decide +kernel), fun _ h => absurd h List.not_mem_nil⟩
  | 2 => List.forall_mem_cons.mpr ⟨ev_tnB_ok (a := 1237) (b := 0) (c := 0) (by decide +kernel), fun _ h => absurd h List.not_mem_nil⟩
  | 3 => fun _ h => absurd h List.not_mem_nil
  | 4 => List.forall_mem_cons.mpr ⟨ev_tnB_ok (a := 1147) (b := 1100) (c := 1005) (by decide +kernel), fun _ h => absurd h List.not_mem_nil⟩
  | 5 => fun _ h => absurd h List.not_mem_nil
  | 6 => fun _ h => absurd h List.not_mem_nil
  | 7 => fun _ h => absurd h List.not_mem_nil
  | 8 => fun _ h => absurd h List.not_mem_nil
  | 9 => fun _ h => absurd h List.not_mem_nil
  | 10 => List.forall_mem_cons.mpr ⟨ev_tnB_ok (a := 1034) (b := 1035) (c := 1002) (by decide +kernel), List.forall_mem_cons.mpr ⟨ev_tnB_ok (a := 1052) (b := 1053) (c := 1003) (by decide +kernel), List.forall_mem_cons.mpr ⟨ev_tnB_ok (a := 1068) (b := 1069) (c := 1004) (by decide +kernel), List.forall_mem_cons.mpr ⟨ev_tnB_ok (a := 1099) (b := 1100) (c := 1005) (by decide +kernel), List.forall_mem_cons.mpr ⟨ev_tnB_ok (a := 1141) (b := 1142) (c := 1007) (by decide +kernel), List.forall_mem_cons.mpr ⟨ev_tnB_ok (a := 1168) (b := 1169) (c := 1008) (by decide +kernel), List.forall_mem_cons.mpr ⟨ev_tnB_ok (a := 1199) (b := 1200) (c := 1009) (by decide +kernel), List.forall_mem_cons.mpr ⟨ev_tnB_ok (a := 1231) (b := 1232) (c := 1010) (by decide +kernel), List.forall_mem_cons.mpr ⟨ev_tnB_ok (a := 2024) (b := 2025) (c := 1011) (by decide +kernel), List.forall_mem_cons.mpr ⟨ev_tnB_ok (a := 5069) (b := 0) (c := 0) (by decide +kernel), fun _ h => absurd h List.not_mem_nil⟩⟩⟩⟩⟩⟩⟩⟩⟩⟩
  | 11 => fun _ h => absurd h List.not_mem_nil
  | 12 => List.forall_mem_cons.mpr ⟨ev_tnB_ok (a := 1026) (b := 1027) (c := 1001) (by decide +kernel), List.forall_mem_cons.mpr ⟨ev_tnB_ok (a := 5064) (b := 0) (c := 0) (by decide +kernel), List.forall_mem_cons.mpr ⟨ev_tnB_ok (a := 5168) (b := 5169) (c := 1018) (by decide +kernel), fun _ h => absurd h List.not_mem_nil⟩⟩⟩
  | 13 => fun _ h => absurd h List.not_mem_nil
  | 14 => fun _ h => absurd h List.not_mem_nil
  | 15 => fun _ h => absurd h List.not_mem_nil
  | 16 => fun _ h => absurd h List.not_mem_nil
  | 17 => fun _ h => absurd h List.not_mem_nil
  | 18 => fun _ h => absurd h List.not_mem_nil
  | _ + 19 => fun _ h => absurd h List.not_mem_nil
theorem ev_TN_ok : ev_TN := fun oc idx v h => ev_TN_all oc (idx, v) (ev_lk_mem h)
theorem ev_TA_ok : ev_TA := ⟨ev_hw_ok (h := 1098) (by decide +kernel), ev_hw_ok (h := 1067) (by decide +kernel), ev_hw_ok (h := 1051) (by decide +kernel), ev_hw_ok (h := 1167) (by decide +kernel)⟩
theorem ev_TX_ok : ev_TX := by
  have h1 : (ev_atX (ev_cn ev_thrC.1) ev_thrC.2 "java/util/NoSuchElementException" 13 prog_30_method_4_code ev_thrN).all (fun w => (decide (w ∈ ev_gw) || (decide (w ∈ ev_nest) && w.onTables)) && vx_ot w) = true := by decide +kernel
  refine ⟨fun w hw => ?_, ev_hw_ok (h := 1024) (by decide +kernel)⟩
  have := List.all_eq_true.mp h1 w hw
  simp only [Bool.and_eq_true, Bool.or_eq_true, decide_eq_true_eq] at this
  exact this
def ev_TCq (ci : Nat) : Prop := vwCl[ci]? = some (ev_cl ci) ∧ (∀ w ∈ u_ws (ev_cl ci).1 (ev_cl ci).2.1 (ev_cl ci).2.2, w ∈ ev_gw) ∧ (∀ k, k < (ev_cl ci).2.2 → parseFieldDescriptor ((ev_cl ci).2.1 k).2.2.1 = some (ev_ft ci k)) ∧ (∀ a, a < (ev_cl ci).2.2 → ∀ b, b < (ev_cl ci).2.2 → a ≠ b → ((ev_cl ci).2.1 a).2.1 ≠ ((ev_cl ci).2.1 b).2.1) ∧ ev_cn (ci + 1) = (ev_cl ci).1 ∧ (∀ k, k < (ev_cl ci).2.2 → defaultValue (ev_ft ci k) = bif ev_isr ci k then .null else .int 0) ∧ (∀ k, k < (ev_cl ci).2.2 → ev_isr ci k = true → (∃ n, ev_ft ci k = .object n) ∨ ∃ t, ev_ft ci k = .array t)
def ev_isoa : FieldType → Bool
  | .object _ => true
  | .array _ => true
  | _ => false
def ev_tcB (ci : Nat) (H : List Nat) : Bool := decide ((vwCl[ci]?).isSome = true) && ev_two ev_hw H (u_ws (ev_cl ci).1 (ev_cl ci).2.1 (ev_cl ci).2.2) && decide (∀ k, k < (ev_cl ci).2.2 → parseFieldDescriptor ((ev_cl ci).2.1 k).2.2.1 = some (ev_ft ci k)) && decide (∀ a, a < (ev_cl ci).2.2 → ∀ b, b < (ev_cl ci).2.2 → a ≠ b → ((ev_cl ci).2.1 a).2.1 ≠ ((ev_cl ci).2.1 b).2.1) && decide (ev_cn (ci + 1) = (ev_cl ci).1) && decide (∀ k, k < (ev_cl ci).2.2 → defaultValue (ev_ft ci k) = bif ev_isr ci k then .null else .int 0) && decide (∀ k, k < (ev_cl ci).2.2 → ev_isr ci k = true → ev_isoa (ev_ft ci k) = true)
theorem ev_tcB_ok {ci : Nat} {H : List Nat} (hv : vwCl[ci]? = some (ev_cl ci)) (h : ev_tcB ci H = true) : ev_TCq ci := by
  unfold ev_tcB at h
  simp only [Bool.and_eq_true, decide_eq_true_eq] at h
  obtain ⟨⟨⟨⟨⟨⟨h1, h2⟩, h3⟩, h4⟩, h5⟩, h6⟩, h7⟩ := h
  refine ⟨hv, ev_two_ok (fun _ _ h => ev_hw_ok h) H _ h2, h3, h4, h5, h6, fun k hk hr => ?_⟩
  have := h7 k hk hr
  revert this
  cases ev_ft ci k with
  | object n => exact fun _ => Or.inl ⟨n, rfl⟩
  | array t => exact fun _ => Or.inr ⟨t, rfl⟩
  | _ => exact fun h => by cases h
theorem ev_tc_0 : ev_TCq 0 := ev_tcB_ok (H := [1089, 1091, 1093, 1095]) rfl (by decide +kernel)
theorem ev_tc_1 : ev_TCq 1 := ev_tcB_ok (H := [2007, 2009, 2011, 2013, 2015, 2017, 2019, 2021]) rfl (by decide +kernel)
theorem ev_tc_2 : ev_TCq 2 := ev_tcB_ok (H := [2035, 2037, 2039, 2041]) rfl (by decide +kernel)
theorem ev_tc_3 : ev_TCq 3 := ev_tcB_ok (H := [1156, 1158, 1160, 1162, 1164]) rfl (by decide +kernel)
theorem ev_tc_4 : ev_TCq 4 := ev_tcB_ok (H := [1062, 1064]) rfl (by decide +kernel)
theorem ev_tc_5 : ev_TCq 5 := ev_tcB_ok (H := [1182, 1184, 1186, 1188, 1190, 1192, 1194, 1196]) rfl (by decide +kernel)
theorem ev_tc_6 : ev_TCq 6 := ev_tcB_ok (H := [1128, 1130, 1132, 1134, 1136, 1138]) rfl (by decide +kernel)
theorem ev_tc_7 : ev_TCq 7 := ev_tcB_ok (H := [1046, 1048]) rfl (by decide +kernel)
theorem ev_tc_8 : ev_TCq 8 := ev_tcB_ok (H := [1216, 1218, 1220, 1222, 1224, 1226, 1228]) rfl (by decide +kernel)
theorem ev_tc_9 : ev_TCq 9 := ev_tcB_ok (H := [2218, 2220, 2222, 2224, 2226, 2228, 2230, 2232, 2234, 2236, 2238, 3000, 3002, 3004, 3006, 3008, 3010, 3012]) rfl (by decide +kernel)
theorem ev_tc_10 : ev_TCq 10 := ev_tcB_ok (H := [5223, 5225, 5227, 5229, 5231, 5233, 5235, 5237, 5239, 6001, 6003, 6005, 6007, 6009, 6011, 6013, 6015, 6017, 6019, 6021, 6023, 6025, 6027, 6029, 6031, 6033, 6035, 6037, 6039, 6041, 6043, 6045, 6047, 6049, 6051, 6053, 6055, 6057, 6059, 6061, 6063, 6065, 6067, 6069, 6071, 6073, 6075, 6077, 6079]) rfl (by decide +kernel)
theorem ev_TC_ok : ev_TC
  | 0, _ => ev_tc_0
  | 1, _ => ev_tc_1
  | 2, _ => ev_tc_2
  | 3, _ => ev_tc_3
  | 4, _ => ev_tc_4
  | 5, _ => ev_tc_5
  | 6, _ => ev_tc_6
  | 7, _ => ev_tc_7
  | 8, _ => ev_tc_8
  | 9, _ => ev_tc_9
  | 10, _ => ev_tc_10
  | n + 11, h => absurd h (by omega)
theorem ev_T_ok : ev_T := ⟨ev_TF_ok, ev_TC_ok, ev_TK_ok, ev_TN_ok, ev_TX_ok, ev_TA_ok, ev_TM_ok⟩
end
