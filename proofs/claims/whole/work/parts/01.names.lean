-- ===== PART A: goes FIRST, ahead of the names: the tables' words, and 'selects' of the private methods out of them =====
/-- a private method of a class that the tables say can be made, by its rows of tables_1 -/
def lw_okq (q : MethodName × Nat) : Prop := (q.1.cls ≠ "java/lang/invoke/MethodHandle" ∧ q.1.cls ≠ "java/lang/invoke/VarHandle") ∧ Cond.instantiable q.1.cls q.2 ∈ tables_1 ∧ Cond.privateMethod q.1 ∈ tables_1 ∧ Cond.instanceMethod q.1 ∈ tables_1
theorem lw_p0 : lw_okq (⟨"PieceBook", "readText", "()I"⟩, 14) := ⟨⟨by decide +kernel, by decide +kernel⟩, List.mem_of_getElem? (i := 18) (by decide +kernel), List.mem_of_getElem? (i := 194) (by decide +kernel), List.mem_of_getElem? (i := 195) (by decide +kernel)⟩
theorem lw_p1 : lw_okq (⟨"PieceBook", "firstThatIsNone", "(I)I"⟩, 14) := ⟨⟨by decide +kernel, by decide +kernel⟩, List.mem_of_getElem? (i := 18) (by decide +kernel), List.mem_of_getElem? (i := 198) (by decide +kernel), List.mem_of_getElem? (i := 199) (by decide +kernel)⟩
theorem lw_p2 : lw_okq (⟨"PieceBook", "bookIsOther", "()V"⟩, 14) := ⟨⟨by decide +kernel, by decide +kernel⟩, List.mem_of_getElem? (i := 18) (by decide +kernel), List.mem_of_getElem? (i := 258) (by decide +kernel), List.mem_of_getElem? (i := 259) (by decide +kernel)⟩
theorem lw_p3 : lw_okq (⟨"PieceBook", "putInPlace", "(III)I"⟩, 14) := ⟨⟨by decide +kernel, by decide +kernel⟩, List.mem_of_getElem? (i := 18) (by decide +kernel), List.mem_of_getElem? (i := 266) (by decide +kernel), List.mem_of_getElem? (i := 267) (by decide +kernel)⟩
theorem lw_p4 : lw_okq (⟨"PieceBook", "hasSigns", "(II)Z"⟩, 14) := ⟨⟨by decide +kernel, by decide +kernel⟩, List.mem_of_getElem? (i := 18) (by decide +kernel), List.mem_of_getElem? (i := 270) (by decide +kernel), List.mem_of_getElem? (i := 271) (by decide +kernel)⟩
theorem lw_p5 : lw_okq (⟨"PieceBook", "beginEdit", "()LPieceBook$Leaf;"⟩, 14) := ⟨⟨by decide +kernel, by decide +kernel⟩, List.mem_of_getElem? (i := 18) (by decide +kernel), List.mem_of_getElem? (i := 274) (by decide +kernel), List.mem_of_getElem? (i := 275) (by decide +kernel)⟩
theorem lw_p6 : lw_okq (⟨"PieceBook$Leaf", "dropSigns", "(II)V"⟩, 6) := ⟨⟨by decide +kernel, by decide +kernel⟩, List.mem_of_getElem? (i := 85) (by decide +kernel), List.mem_of_getElem? (i := 291) (by decide +kernel), List.mem_of_getElem? (i := 292) (by decide +kernel)⟩
theorem lw_p7 : lw_okq (⟨"PieceBook$Leaf", "marksGoBack", "(II)V"⟩, 6) := ⟨⟨by decide +kernel, by decide +kernel⟩, List.mem_of_getElem? (i := 85) (by decide +kernel), List.mem_of_getElem? (i := 303) (by decide +kernel), List.mem_of_getElem? (i := 304) (by decide +kernel)⟩
theorem lw_p8 : lw_okq (⟨"PieceBook$Leaf", "marksGoOn", "(II)V"⟩, 6) := ⟨⟨by decide +kernel, by decide +kernel⟩, List.mem_of_getElem? (i := 85) (by decide +kernel), List.mem_of_getElem? (i := 318) (by decide +kernel), List.mem_of_getElem? (i := 319) (by decide +kernel)⟩
theorem lw_p9 : lw_okq (⟨"PieceBook", "shownPage", "()LPieceBook$Page;"⟩, 14) := ⟨⟨by decide +kernel, by decide +kernel⟩, List.mem_of_getElem? (i := 18) (by decide +kernel), List.mem_of_getElem? (i := 339) (by decide +kernel), List.mem_of_getElem? (i := 340) (by decide +kernel)⟩
theorem lw_p10 : lw_okq (⟨"PieceBook", "isPlace", "(I)Z"⟩, 14) := ⟨⟨by decide +kernel, by decide +kernel⟩, List.mem_of_getElem? (i := 18) (by decide +kernel), List.mem_of_getElem? (i := 367) (by decide +kernel), List.mem_of_getElem? (i := 368) (by decide +kernel)⟩
theorem lw_p11 : lw_okq (⟨"PieceBook$Leaf", "becomePart", "(LPieceBook$Leaf;II)V"⟩, 6) := ⟨⟨by decide +kernel, by decide +kernel⟩, List.mem_of_getElem? (i := 85) (by decide +kernel), List.mem_of_getElem? (i := 375) (by decide +kernel), List.mem_of_getElem? (i := 376) (by decide +kernel)⟩
theorem lw_p12 : lw_okq (⟨"PieceBook$Leaf", "layPieces", "(LPieceBook$Leaf;I)V"⟩, 6) := ⟨⟨by decide +kernel, by decide +kernel⟩, List.mem_of_getElem? (i := 85) (by decide +kernel), List.mem_of_getElem? (i := 381) (by decide +kernel), List.mem_of_getElem? (i := 382) (by decide +kernel)⟩
theorem lw_p13 : lw_okq (⟨"PieceBook$Leaf", "marksMove", "(III)V"⟩, 6) := ⟨⟨by decide +kernel, by decide +kernel⟩, List.mem_of_getElem? (i := 85) (by decide +kernel), List.mem_of_getElem? (i := 393) (by decide +kernel), List.mem_of_getElem? (i := 394) (by decide +kernel)⟩
theorem lw_p14 : lw_okq (⟨"PieceBook$Leaf", "goOn", "(II)Z"⟩, 6) := ⟨⟨by decide +kernel, by decide +kernel⟩, List.mem_of_getElem? (i := 85) (by decide +kernel), List.mem_of_getElem? (i := 430) (by decide +kernel), List.mem_of_getElem? (i := 431) (by decide +kernel)⟩
theorem lw_p15 : lw_okq (⟨"PieceBook", "faultOfDay", "(I)I"⟩, 14) := ⟨⟨by decide +kernel, by decide +kernel⟩, List.mem_of_getElem? (i := 18) (by decide +kernel), List.mem_of_getElem? (i := 450) (by decide +kernel), List.mem_of_getElem? (i := 451) (by decide +kernel)⟩
def lw_privs_1 : List (MethodName × Nat) := [(⟨"PieceBook", "readText", "()I"⟩, 14), (⟨"PieceBook", "firstThatIsNone", "(I)I"⟩, 14), (⟨"PieceBook", "bookIsOther", "()V"⟩, 14), (⟨"PieceBook", "putInPlace", "(III)I"⟩, 14), (⟨"PieceBook", "hasSigns", "(II)Z"⟩, 14), (⟨"PieceBook", "beginEdit", "()LPieceBook$Leaf;"⟩, 14), (⟨"PieceBook$Leaf", "dropSigns", "(II)V"⟩, 6), (⟨"PieceBook$Leaf", "marksGoBack", "(II)V"⟩, 6), (⟨"PieceBook$Leaf", "marksGoOn", "(II)V"⟩, 6), (⟨"PieceBook", "shownPage", "()LPieceBook$Page;"⟩, 14), (⟨"PieceBook", "isPlace", "(I)Z"⟩, 14), (⟨"PieceBook$Leaf", "becomePart", "(LPieceBook$Leaf;II)V"⟩, 6), (⟨"PieceBook$Leaf", "layPieces", "(LPieceBook$Leaf;I)V"⟩, 6), (⟨"PieceBook$Leaf", "marksMove", "(III)V"⟩, 6), (⟨"PieceBook$Leaf", "goOn", "(II)Z"⟩, 6), (⟨"PieceBook", "faultOfDay", "(I)I"⟩, 14)]
theorem lw_r1 : ∀ q ∈ lw_privs_1, lw_okq q := List.forall_mem_cons.mpr ⟨lw_p0, List.forall_mem_cons.mpr ⟨lw_p1, List.forall_mem_cons.mpr ⟨lw_p2, List.forall_mem_cons.mpr ⟨lw_p3, List.forall_mem_cons.mpr ⟨lw_p4, List.forall_mem_cons.mpr ⟨lw_p5, List.forall_mem_cons.mpr ⟨lw_p6, List.forall_mem_cons.mpr ⟨lw_p7, List.forall_mem_cons.mpr ⟨lw_p8, List.forall_mem_cons.mpr ⟨lw_p9, List.forall_mem_cons.mpr ⟨lw_p10, List.forall_mem_cons.mpr ⟨lw_p11, List.forall_mem_cons.mpr ⟨lw_p12, List.forall_mem_cons.mpr ⟨lw_p13, List.forall_mem_cons.mpr ⟨lw_p14, List.forall_mem_cons.mpr ⟨lw_p15, fun _ h => absurd h List.not_mem_nil⟩⟩⟩⟩⟩⟩⟩⟩⟩⟩⟩⟩⟩⟩⟩⟩
theorem lw_p16 : lw_okq (⟨"PieceBook", "doAct", "(I)I"⟩, 14) := ⟨⟨by decide +kernel, by decide +kernel⟩, List.mem_of_getElem? (i := 18) (by decide +kernel), List.mem_of_getElem? (i := 466) (by decide +kernel), List.mem_of_getElem? (i := 467) (by decide +kernel)⟩
theorem lw_p17 : lw_okq (⟨"PieceBook", "numberAt", "(II)I"⟩, 14) := ⟨⟨by decide +kernel, by decide +kernel⟩, List.mem_of_getElem? (i := 18) (by decide +kernel), List.mem_of_getElem? (i := 470) (by decide +kernel), List.mem_of_getElem? (i := 471) (by decide +kernel)⟩
theorem lw_p18 : lw_okq (⟨"PieceBook", "countShown", "(II)V"⟩, 14) := ⟨⟨by decide +kernel, by decide +kernel⟩, List.mem_of_getElem? (i := 18) (by decide +kernel), List.mem_of_getElem? (i := 601) (by decide +kernel), List.mem_of_getElem? (i := 602) (by decide +kernel)⟩
theorem lw_p19 : lw_okq (⟨"PieceBook", "firstFrom", "(II)I"⟩, 14) := ⟨⟨by decide +kernel, by decide +kernel⟩, List.mem_of_getElem? (i := 18) (by decide +kernel), List.mem_of_getElem? (i := 614) (by decide +kernel), List.mem_of_getElem? (i := 615) (by decide +kernel)⟩
theorem lw_p20 : lw_okq (⟨"PieceBook", "standsAt", "(III)Z"⟩, 14) := ⟨⟨by decide +kernel, by decide +kernel⟩, List.mem_of_getElem? (i := 18) (by decide +kernel), List.mem_of_getElem? (i := 618) (by decide +kernel), List.mem_of_getElem? (i := 619) (by decide +kernel)⟩
theorem lw_p21 : lw_okq (⟨"PieceBook", "doDrawnEdit", "(LPieceBook$Draws;)V"⟩, 14) := ⟨⟨by decide +kernel, by decide +kernel⟩, List.mem_of_getElem? (i := 18) (by decide +kernel), List.mem_of_getElem? (i := 741) (by decide +kernel), List.mem_of_getElem? (i := 742) (by decide +kernel)⟩
theorem lw_p22 : lw_okq (⟨"java/lang/Throwable", "fillInStackTrace", "(I)Ljava/lang/Throwable;"⟩, 6) := ⟨⟨by decide +kernel, by decide +kernel⟩, List.mem_of_getElem? (i := 806) (by decide +kernel), List.mem_of_getElem? (i := 804) (by decide +kernel), List.mem_of_getElem? (i := 805) (by decide +kernel)⟩
theorem lw_p23 : lw_okq (⟨"PieceBookModel", "unsets", "()V"⟩, 34) := ⟨⟨by decide +kernel, by decide +kernel⟩, List.mem_of_getElem? (i := 875) (by decide +kernel), List.mem_of_getElem? (i := 883) (by decide +kernel), List.mem_of_getElem? (i := 884) (by decide +kernel)⟩
theorem lw_p24 : lw_okq (⟨"PieceBookModel", "empties", "()I"⟩, 34) := ⟨⟨by decide +kernel, by decide +kernel⟩, List.mem_of_getElem? (i := 875) (by decide +kernel), List.mem_of_getElem? (i := 994) (by decide +kernel), List.mem_of_getElem? (i := 995) (by decide +kernel)⟩
theorem lw_p25 : lw_okq (⟨"PieceBookModel", "faultOfText", "()I"⟩, 34) := ⟨⟨by decide +kernel, by decide +kernel⟩, List.mem_of_getElem? (i := 875) (by decide +kernel), List.mem_of_getElem? (i := 998) (by decide +kernel), List.mem_of_getElem? (i := 999) (by decide +kernel)⟩
theorem lw_p26 : lw_okq (⟨"PieceBookModel", "forgetsEdits", "()V"⟩, 34) := ⟨⟨by decide +kernel, by decide +kernel⟩, List.mem_of_getElem? (i := 875) (by decide +kernel), List.mem_of_getElem? (i := 1010) (by decide +kernel), List.mem_of_getElem? (i := 1011) (by decide +kernel)⟩
theorem lw_p27 : lw_okq (⟨"PieceBookModel", "refuse", "()I"⟩, 34) := ⟨⟨by decide +kernel, by decide +kernel⟩, List.mem_of_getElem? (i := 875) (by decide +kernel), List.mem_of_getElem? (i := 1019) (by decide +kernel), List.mem_of_getElem? (i := 1020) (by decide +kernel)⟩
theorem lw_p28 : lw_okq (⟨"PieceBookModel", "storeMany", "(I)I"⟩, 34) := ⟨⟨by decide +kernel, by decide +kernel⟩, List.mem_of_getElem? (i := 875) (by decide +kernel), List.mem_of_getElem? (i := 1023) (by decide +kernel), List.mem_of_getElem? (i := 1024) (by decide +kernel)⟩
theorem lw_p29 : lw_okq (⟨"PieceBookModel", "ofStore", "(II)I"⟩, 34) := ⟨⟨by decide +kernel, by decide +kernel⟩, List.mem_of_getElem? (i := 875) (by decide +kernel), List.mem_of_getElem? (i := 1027) (by decide +kernel), List.mem_of_getElem? (i := 1028) (by decide +kernel)⟩
theorem lw_p30 : lw_okq (⟨"PieceBookModel", "begins", "(I)Z"⟩, 34) := ⟨⟨by decide +kernel, by decide +kernel⟩, List.mem_of_getElem? (i := 875) (by decide +kernel), List.mem_of_getElem? (i := 1031) (by decide +kernel), List.mem_of_getElem? (i := 1032) (by decide +kernel)⟩
theorem lw_p31 : lw_okq (⟨"PieceBookModel", "storeAt", "(I)I"⟩, 34) := ⟨⟨by decide +kernel, by decide +kernel⟩, List.mem_of_getElem? (i := 875) (by decide +kernel), List.mem_of_getElem? (i := 1035) (by decide +kernel), List.mem_of_getElem? (i := 1036) (by decide +kernel)⟩
def lw_privs_2 : List (MethodName × Nat) := [(⟨"PieceBook", "doAct", "(I)I"⟩, 14), (⟨"PieceBook", "numberAt", "(II)I"⟩, 14), (⟨"PieceBook", "countShown", "(II)V"⟩, 14), (⟨"PieceBook", "firstFrom", "(II)I"⟩, 14), (⟨"PieceBook", "standsAt", "(III)Z"⟩, 14), (⟨"PieceBook", "doDrawnEdit", "(LPieceBook$Draws;)V"⟩, 14), (⟨"java/lang/Throwable", "fillInStackTrace", "(I)Ljava/lang/Throwable;"⟩, 6), (⟨"PieceBookModel", "unsets", "()V"⟩, 34), (⟨"PieceBookModel", "empties", "()I"⟩, 34), (⟨"PieceBookModel", "faultOfText", "()I"⟩, 34), (⟨"PieceBookModel", "forgetsEdits", "()V"⟩, 34), (⟨"PieceBookModel", "refuse", "()I"⟩, 34), (⟨"PieceBookModel", "storeMany", "(I)I"⟩, 34), (⟨"PieceBookModel", "ofStore", "(II)I"⟩, 34), (⟨"PieceBookModel", "begins", "(I)Z"⟩, 34), (⟨"PieceBookModel", "storeAt", "(I)I"⟩, 34)]
theorem lw_r2 : ∀ q ∈ lw_privs_2, lw_okq q := List.forall_mem_cons.mpr ⟨lw_p16, List.forall_mem_cons.mpr ⟨lw_p17, List.forall_mem_cons.mpr ⟨lw_p18, List.forall_mem_cons.mpr ⟨lw_p19, List.forall_mem_cons.mpr ⟨lw_p20, List.forall_mem_cons.mpr ⟨lw_p21, List.forall_mem_cons.mpr ⟨lw_p22, List.forall_mem_cons.mpr ⟨lw_p23, List.forall_mem_cons.mpr ⟨lw_p24, List.forall_mem_cons.mpr ⟨lw_p25, List.forall_mem_cons.mpr ⟨lw_p26, List.forall_mem_cons.mpr ⟨lw_p27, List.forall_mem_cons.mpr ⟨lw_p28, List.forall_mem_cons.mpr ⟨lw_p29, List.forall_mem_cons.mpr ⟨lw_p30, List.forall_mem_cons.mpr ⟨lw_p31, fun _ h => absurd h List.not_mem_nil⟩⟩⟩⟩⟩⟩⟩⟩⟩⟩⟩⟩⟩⟩⟩⟩
theorem lw_p32 : lw_okq (⟨"PieceBookModel", "isPlace", "(I)Z"⟩, 34) := ⟨⟨by decide +kernel, by decide +kernel⟩, List.mem_of_getElem? (i := 875) (by decide +kernel), List.mem_of_getElem? (i := 1043) (by decide +kernel), List.mem_of_getElem? (i := 1044) (by decide +kernel)⟩
theorem lw_p33 : lw_okq (⟨"PieceBookModel", "edits", "()V"⟩, 34) := ⟨⟨by decide +kernel, by decide +kernel⟩, List.mem_of_getElem? (i := 875) (by decide +kernel), List.mem_of_getElem? (i := 1047) (by decide +kernel), List.mem_of_getElem? (i := 1048) (by decide +kernel)⟩
theorem lw_p34 : lw_okq (⟨"PieceBookModel", "keepsPast", "()V"⟩, 34) := ⟨⟨by decide +kernel, by decide +kernel⟩, List.mem_of_getElem? (i := 875) (by decide +kernel), List.mem_of_getElem? (i := 1051) (by decide +kernel), List.mem_of_getElem? (i := 1052) (by decide +kernel)⟩
theorem lw_p35 : lw_okq (⟨"PieceBookModel", "bookCopy", "()[I"⟩, 34) := ⟨⟨by decide +kernel, by decide +kernel⟩, List.mem_of_getElem? (i := 875) (by decide +kernel), List.mem_of_getElem? (i := 1055) (by decide +kernel), List.mem_of_getElem? (i := 1056) (by decide +kernel)⟩
theorem lw_p36 : lw_okq (⟨"PieceBookModel", "marksCopy", "()[I"⟩, 34) := ⟨⟨by decide +kernel, by decide +kernel⟩, List.mem_of_getElem? (i := 875) (by decide +kernel), List.mem_of_getElem? (i := 1059) (by decide +kernel), List.mem_of_getElem? (i := 1060) (by decide +kernel)⟩
theorem lw_p37 : lw_okq (⟨"PieceBookModel", "insertsText", "(I)V"⟩, 34) := ⟨⟨by decide +kernel, by decide +kernel⟩, List.mem_of_getElem? (i := 875) (by decide +kernel), List.mem_of_getElem? (i := 1063) (by decide +kernel), List.mem_of_getElem? (i := 1064) (by decide +kernel)⟩
theorem lw_p38 : lw_okq (⟨"PieceBookModel", "goesOn", "(I)Z"⟩, 34) := ⟨⟨by decide +kernel, by decide +kernel⟩, List.mem_of_getElem? (i := 875) (by decide +kernel), List.mem_of_getElem? (i := 1067) (by decide +kernel), List.mem_of_getElem? (i := 1068) (by decide +kernel)⟩
theorem lw_p39 : lw_okq (⟨"PieceBookModel", "placeAt", "(I)I"⟩, 34) := ⟨⟨by decide +kernel, by decide +kernel⟩, List.mem_of_getElem? (i := 875) (by decide +kernel), List.mem_of_getElem? (i := 1071) (by decide +kernel), List.mem_of_getElem? (i := 1072) (by decide +kernel)⟩
theorem lw_p40 : lw_okq (⟨"PieceBookModel", "comesIn", "(IIIZ)V"⟩, 34) := ⟨⟨by decide +kernel, by decide +kernel⟩, List.mem_of_getElem? (i := 875) (by decide +kernel), List.mem_of_getElem? (i := 1075) (by decide +kernel), List.mem_of_getElem? (i := 1076) (by decide +kernel)⟩
theorem lw_p41 : lw_okq (⟨"PieceBookModel", "opensGap", "(II)V"⟩, 34) := ⟨⟨by decide +kernel, by decide +kernel⟩, List.mem_of_getElem? (i := 875) (by decide +kernel), List.mem_of_getElem? (i := 1079) (by decide +kernel), List.mem_of_getElem? (i := 1080) (by decide +kernel)⟩
theorem lw_p42 : lw_okq (⟨"PieceBookModel", "partsAt", "(I)V"⟩, 34) := ⟨⟨by decide +kernel, by decide +kernel⟩, List.mem_of_getElem? (i := 875) (by decide +kernel), List.mem_of_getElem? (i := 1083) (by decide +kernel), List.mem_of_getElem? (i := 1084) (by decide +kernel)⟩
theorem lw_p43 : lw_okq (⟨"PieceBookModel", "marksCome", "(II)V"⟩, 34) := ⟨⟨by decide +kernel, by decide +kernel⟩, List.mem_of_getElem? (i := 875) (by decide +kernel), List.mem_of_getElem? (i := 1087) (by decide +kernel), List.mem_of_getElem? (i := 1088) (by decide +kernel)⟩
theorem lw_p44 : lw_okq (⟨"PieceBookModel", "typesOne", "(II)I"⟩, 34) := ⟨⟨by decide +kernel, by decide +kernel⟩, List.mem_of_getElem? (i := 875) (by decide +kernel), List.mem_of_getElem? (i := 1095) (by decide +kernel), List.mem_of_getElem? (i := 1096) (by decide +kernel)⟩
theorem lw_p45 : lw_okq (⟨"PieceBookModel", "typesIn", "(II)I"⟩, 34) := ⟨⟨by decide +kernel, by decide +kernel⟩, List.mem_of_getElem? (i := 875) (by decide +kernel), List.mem_of_getElem? (i := 1099) (by decide +kernel), List.mem_of_getElem? (i := 1100) (by decide +kernel)⟩
theorem lw_p46 : lw_okq (⟨"PieceBookModel", "takesOne", "(II)I"⟩, 34) := ⟨⟨by decide +kernel, by decide +kernel⟩, List.mem_of_getElem? (i := 875) (by decide +kernel), List.mem_of_getElem? (i := 1107) (by decide +kernel), List.mem_of_getElem? (i := 1108) (by decide +kernel)⟩
theorem lw_p47 : lw_okq (⟨"PieceBookModel", "takesOut", "(II)I"⟩, 34) := ⟨⟨by decide +kernel, by decide +kernel⟩, List.mem_of_getElem? (i := 875) (by decide +kernel), List.mem_of_getElem? (i := 1111) (by decide +kernel), List.mem_of_getElem? (i := 1112) (by decide +kernel)⟩
def lw_privs_3 : List (MethodName × Nat) := [(⟨"PieceBookModel", "isPlace", "(I)Z"⟩, 34), (⟨"PieceBookModel", "edits", "()V"⟩, 34), (⟨"PieceBookModel", "keepsPast", "()V"⟩, 34), (⟨"PieceBookModel", "bookCopy", "()[I"⟩, 34), (⟨"PieceBookModel", "marksCopy", "()[I"⟩, 34), (⟨"PieceBookModel", "insertsText", "(I)V"⟩, 34), (⟨"PieceBookModel", "goesOn", "(I)Z"⟩, 34), (⟨"PieceBookModel", "placeAt", "(I)I"⟩, 34), (⟨"PieceBookModel", "comesIn", "(IIIZ)V"⟩, 34), (⟨"PieceBookModel", "opensGap", "(II)V"⟩, 34), (⟨"PieceBookModel", "partsAt", "(I)V"⟩, 34), (⟨"PieceBookModel", "marksCome", "(II)V"⟩, 34), (⟨"PieceBookModel", "typesOne", "(II)I"⟩, 34), (⟨"PieceBookModel", "typesIn", "(II)I"⟩, 34), (⟨"PieceBookModel", "takesOne", "(II)I"⟩, 34), (⟨"PieceBookModel", "takesOut", "(II)I"⟩, 34)]
theorem lw_r3 : ∀ q ∈ lw_privs_3, lw_okq q := List.forall_mem_cons.mpr ⟨lw_p32, List.forall_mem_cons.mpr ⟨lw_p33, List.forall_mem_cons.mpr ⟨lw_p34, List.forall_mem_cons.mpr ⟨lw_p35, List.forall_mem_cons.mpr ⟨lw_p36, List.forall_mem_cons.mpr ⟨lw_p37, List.forall_mem_cons.mpr ⟨lw_p38, List.forall_mem_cons.mpr ⟨lw_p39, List.forall_mem_cons.mpr ⟨lw_p40, List.forall_mem_cons.mpr ⟨lw_p41, List.forall_mem_cons.mpr ⟨lw_p42, List.forall_mem_cons.mpr ⟨lw_p43, List.forall_mem_cons.mpr ⟨lw_p44, List.forall_mem_cons.mpr ⟨lw_p45, List.forall_mem_cons.mpr ⟨lw_p46, List.forall_mem_cons.mpr ⟨lw_p47, fun _ h => absurd h List.not_mem_nil⟩⟩⟩⟩⟩⟩⟩⟩⟩⟩⟩⟩⟩⟩⟩⟩
theorem lw_p48 : lw_okq (⟨"PieceBookModel", "signAt", "(I)I"⟩, 34) := ⟨⟨by decide +kernel, by decide +kernel⟩, List.mem_of_getElem? (i := 875) (by decide +kernel), List.mem_of_getElem? (i := 1115) (by decide +kernel), List.mem_of_getElem? (i := 1116) (by decide +kernel)⟩
theorem lw_p49 : lw_okq (⟨"PieceBookModel", "closesGap", "(II)V"⟩, 34) := ⟨⟨by decide +kernel, by decide +kernel⟩, List.mem_of_getElem? (i := 875) (by decide +kernel), List.mem_of_getElem? (i := 1119) (by decide +kernel), List.mem_of_getElem? (i := 1120) (by decide +kernel)⟩
theorem lw_p50 : lw_okq (⟨"PieceBookModel", "marksGo", "(II)V"⟩, 34) := ⟨⟨by decide +kernel, by decide +kernel⟩, List.mem_of_getElem? (i := 875) (by decide +kernel), List.mem_of_getElem? (i := 1123) (by decide +kernel), List.mem_of_getElem? (i := 1124) (by decide +kernel)⟩
theorem lw_p51 : lw_okq (⟨"PieceBookModel", "laysOne", "(III)I"⟩, 34) := ⟨⟨by decide +kernel, by decide +kernel⟩, List.mem_of_getElem? (i := 875) (by decide +kernel), List.mem_of_getElem? (i := 1136) (by decide +kernel), List.mem_of_getElem? (i := 1137) (by decide +kernel)⟩
theorem lw_p52 : lw_okq (⟨"PieceBookModel", "laysOut", "(II)V"⟩, 34) := ⟨⟨by decide +kernel, by decide +kernel⟩, List.mem_of_getElem? (i := 875) (by decide +kernel), List.mem_of_getElem? (i := 1140) (by decide +kernel), List.mem_of_getElem? (i := 1141) (by decide +kernel)⟩
theorem lw_p53 : lw_okq (⟨"PieceBookModel", "laysIn", "(II)V"⟩, 34) := ⟨⟨by decide +kernel, by decide +kernel⟩, List.mem_of_getElem? (i := 875) (by decide +kernel), List.mem_of_getElem? (i := 1144) (by decide +kernel), List.mem_of_getElem? (i := 1145) (by decide +kernel)⟩
theorem lw_p54 : lw_okq (⟨"PieceBookModel", "movesOne", "(III)I"⟩, 34) := ⟨⟨by decide +kernel, by decide +kernel⟩, List.mem_of_getElem? (i := 875) (by decide +kernel), List.mem_of_getElem? (i := 1152) (by decide +kernel), List.mem_of_getElem? (i := 1153) (by decide +kernel)⟩
theorem lw_p55 : lw_okq (⟨"PieceBookModel", "healsAll", "()I"⟩, 34) := ⟨⟨by decide +kernel, by decide +kernel⟩, List.mem_of_getElem? (i := 875) (by decide +kernel), List.mem_of_getElem? (i := 1160) (by decide +kernel), List.mem_of_getElem? (i := 1161) (by decide +kernel)⟩
theorem lw_p56 : lw_okq (⟨"PieceBookModel", "healables", "()I"⟩, 34) := ⟨⟨by decide +kernel, by decide +kernel⟩, List.mem_of_getElem? (i := 875) (by decide +kernel), List.mem_of_getElem? (i := 1164) (by decide +kernel), List.mem_of_getElem? (i := 1165) (by decide +kernel)⟩
theorem lw_p57 : lw_okq (⟨"PieceBookModel", "isHealable", "(I)Z"⟩, 34) := ⟨⟨by decide +kernel, by decide +kernel⟩, List.mem_of_getElem? (i := 875) (by decide +kernel), List.mem_of_getElem? (i := 1168) (by decide +kernel), List.mem_of_getElem? (i := 1169) (by decide +kernel)⟩
theorem lw_p58 : lw_okq (⟨"PieceBookModel", "lines", "()I"⟩, 34) := ⟨⟨by decide +kernel, by decide +kernel⟩, List.mem_of_getElem? (i := 875) (by decide +kernel), List.mem_of_getElem? (i := 1176) (by decide +kernel), List.mem_of_getElem? (i := 1177) (by decide +kernel)⟩
theorem lw_p59 : lw_okq (⟨"PieceBookModel", "breaksAhead", "(I)I"⟩, 34) := ⟨⟨by decide +kernel, by decide +kernel⟩, List.mem_of_getElem? (i := 875) (by decide +kernel), List.mem_of_getElem? (i := 1180) (by decide +kernel), List.mem_of_getElem? (i := 1181) (by decide +kernel)⟩
theorem lw_p60 : lw_okq (⟨"PieceBookModel", "startOf", "(I)I"⟩, 34) := ⟨⟨by decide +kernel, by decide +kernel⟩, List.mem_of_getElem? (i := 875) (by decide +kernel), List.mem_of_getElem? (i := 1184) (by decide +kernel), List.mem_of_getElem? (i := 1185) (by decide +kernel)⟩
theorem lw_p61 : lw_okq (⟨"PieceBookModel", "endFrom", "(I)I"⟩, 34) := ⟨⟨by decide +kernel, by decide +kernel⟩, List.mem_of_getElem? (i := 875) (by decide +kernel), List.mem_of_getElem? (i := 1188) (by decide +kernel), List.mem_of_getElem? (i := 1189) (by decide +kernel)⟩
theorem lw_p62 : lw_okq (⟨"PieceBookModel", "undoes", "()I"⟩, 34) := ⟨⟨by decide +kernel, by decide +kernel⟩, List.mem_of_getElem? (i := 875) (by decide +kernel), List.mem_of_getElem? (i := 1206) (by decide +kernel), List.mem_of_getElem? (i := 1207) (by decide +kernel)⟩
theorem lw_p63 : lw_okq (⟨"PieceBookModel", "becomes", "([I[I)V"⟩, 34) := ⟨⟨by decide +kernel, by decide +kernel⟩, List.mem_of_getElem? (i := 875) (by decide +kernel), List.mem_of_getElem? (i := 1210) (by decide +kernel), List.mem_of_getElem? (i := 1211) (by decide +kernel)⟩
def lw_privs_4 : List (MethodName × Nat) := [(⟨"PieceBookModel", "signAt", "(I)I"⟩, 34), (⟨"PieceBookModel", "closesGap", "(II)V"⟩, 34), (⟨"PieceBookModel", "marksGo", "(II)V"⟩, 34), (⟨"PieceBookModel", "laysOne", "(III)I"⟩, 34), (⟨"PieceBookModel", "laysOut", "(II)V"⟩, 34), (⟨"PieceBookModel", "laysIn", "(II)V"⟩, 34), (⟨"PieceBookModel", "movesOne", "(III)I"⟩, 34), (⟨"PieceBookModel", "healsAll", "()I"⟩, 34), (⟨"PieceBookModel", "healables", "()I"⟩, 34), (⟨"PieceBookModel", "isHealable", "(I)Z"⟩, 34), (⟨"PieceBookModel", "lines", "()I"⟩, 34), (⟨"PieceBookModel", "breaksAhead", "(I)I"⟩, 34), (⟨"PieceBookModel", "startOf", "(I)I"⟩, 34), (⟨"PieceBookModel", "endFrom", "(I)I"⟩, 34), (⟨"PieceBookModel", "undoes", "()I"⟩, 34), (⟨"PieceBookModel", "becomes", "([I[I)V"⟩, 34)]
theorem lw_r4 : ∀ q ∈ lw_privs_4, lw_okq q := List.forall_mem_cons.mpr ⟨lw_p48, List.forall_mem_cons.mpr ⟨lw_p49, List.forall_mem_cons.mpr ⟨lw_p50, List.forall_mem_cons.mpr ⟨lw_p51, List.forall_mem_cons.mpr ⟨lw_p52, List.forall_mem_cons.mpr ⟨lw_p53, List.forall_mem_cons.mpr ⟨lw_p54, List.forall_mem_cons.mpr ⟨lw_p55, List.forall_mem_cons.mpr ⟨lw_p56, List.forall_mem_cons.mpr ⟨lw_p57, List.forall_mem_cons.mpr ⟨lw_p58, List.forall_mem_cons.mpr ⟨lw_p59, List.forall_mem_cons.mpr ⟨lw_p60, List.forall_mem_cons.mpr ⟨lw_p61, List.forall_mem_cons.mpr ⟨lw_p62, List.forall_mem_cons.mpr ⟨lw_p63, fun _ h => absurd h List.not_mem_nil⟩⟩⟩⟩⟩⟩⟩⟩⟩⟩⟩⟩⟩⟩⟩⟩
theorem lw_p64 : lw_okq (⟨"PieceBookModel", "redoes", "()I"⟩, 34) := ⟨⟨by decide +kernel, by decide +kernel⟩, List.mem_of_getElem? (i := 875) (by decide +kernel), List.mem_of_getElem? (i := 1218) (by decide +kernel), List.mem_of_getElem? (i := 1219) (by decide +kernel)⟩
theorem lw_p65 : lw_okq (⟨"PieceBookModel", "readsAct", "()Z"⟩, 34) := ⟨⟨by decide +kernel, by decide +kernel⟩, List.mem_of_getElem? (i := 875) (by decide +kernel), List.mem_of_getElem? (i := 1226) (by decide +kernel), List.mem_of_getElem? (i := 1227) (by decide +kernel)⟩
theorem lw_p66 : lw_okq (⟨"PieceBookModel", "digits", "(I)I"⟩, 34) := ⟨⟨by decide +kernel, by decide +kernel⟩, List.mem_of_getElem? (i := 875) (by decide +kernel), List.mem_of_getElem? (i := 1230) (by decide +kernel), List.mem_of_getElem? (i := 1231) (by decide +kernel)⟩
theorem lw_p67 : lw_okq (⟨"PieceBookModel", "letter", "()I"⟩, 34) := ⟨⟨by decide +kernel, by decide +kernel⟩, List.mem_of_getElem? (i := 875) (by decide +kernel), List.mem_of_getElem? (i := 1236) (by decide +kernel), List.mem_of_getElem? (i := 1237) (by decide +kernel)⟩
theorem lw_p68 : lw_okq (⟨"PieceBookModel", "does", "(I)I"⟩, 34) := ⟨⟨by decide +kernel, by decide +kernel⟩, List.mem_of_getElem? (i := 875) (by decide +kernel), List.mem_of_getElem? (i := 1242) (by decide +kernel), List.mem_of_getElem? (i := 1243) (by decide +kernel)⟩
theorem lw_p69 : lw_okq (⟨"PieceBookModel", "enters", "(J)V"⟩, 34) := ⟨⟨by decide +kernel, by decide +kernel⟩, List.mem_of_getElem? (i := 875) (by decide +kernel), List.mem_of_getElem? (i := 1246) (by decide +kernel), List.mem_of_getElem? (i := 1247) (by decide +kernel)⟩
theorem lw_p70 : lw_okq (⟨"PieceBookModel", "isSign", "(I)Z"⟩, 34) := ⟨⟨by decide +kernel, by decide +kernel⟩, List.mem_of_getElem? (i := 875) (by decide +kernel), List.mem_of_getElem? (i := 1254) (by decide +kernel), List.mem_of_getElem? (i := 1255) (by decide +kernel)⟩
theorem lw_p71 : lw_okq (⟨"PieceBookModel", "pieces", "()I"⟩, 34) := ⟨⟨by decide +kernel, by decide +kernel⟩, List.mem_of_getElem? (i := 875) (by decide +kernel), List.mem_of_getElem? (i := 1293) (by decide +kernel), List.mem_of_getElem? (i := 1294) (by decide +kernel)⟩
theorem lw_p72 : lw_okq (⟨"PieceBookModel", "beginOf", "(I)I"⟩, 34) := ⟨⟨by decide +kernel, by decide +kernel⟩, List.mem_of_getElem? (i := 875) (by decide +kernel), List.mem_of_getElem? (i := 1298) (by decide +kernel), List.mem_of_getElem? (i := 1299) (by decide +kernel)⟩
theorem lw_p73 : lw_okq (⟨"PieceBookModel", "endOf", "(I)I"⟩, 34) := ⟨⟨by decide +kernel, by decide +kernel⟩, List.mem_of_getElem? (i := 875) (by decide +kernel), List.mem_of_getElem? (i := 1302) (by decide +kernel), List.mem_of_getElem? (i := 1303) (by decide +kernel)⟩
theorem lw_p74 : lw_okq (⟨"PieceBookModel", "beginningsTo", "(I)I"⟩, 34) := ⟨⟨by decide +kernel, by decide +kernel⟩, List.mem_of_getElem? (i := 875) (by decide +kernel), List.mem_of_getElem? (i := 1310) (by decide +kernel), List.mem_of_getElem? (i := 1311) (by decide +kernel)⟩
theorem lw_p75 : lw_okq (⟨"PieceBookModel", "findsBy", "(II)I"⟩, 34) := ⟨⟨by decide +kernel, by decide +kernel⟩, List.mem_of_getElem? (i := 875) (by decide +kernel), List.mem_of_getElem? (i := 1330) (by decide +kernel), List.mem_of_getElem? (i := 1331) (by decide +kernel)⟩
theorem lw_p76 : lw_okq (⟨"PieceBookModel", "stands", "(II)Z"⟩, 34) := ⟨⟨by decide +kernel, by decide +kernel⟩, List.mem_of_getElem? (i := 875) (by decide +kernel), List.mem_of_getElem? (i := 1334) (by decide +kernel), List.mem_of_getElem? (i := 1335) (by decide +kernel)⟩
theorem lw_p77 : lw_okq (⟨"PieceBookModel", "found", "(I)I"⟩, 34) := ⟨⟨by decide +kernel, by decide +kernel⟩, List.mem_of_getElem? (i := 875) (by decide +kernel), List.mem_of_getElem? (i := 1346) (by decide +kernel), List.mem_of_getElem? (i := 1347) (by decide +kernel)⟩
theorem lw_p78 : lw_okq (⟨"PieceBookModel", "alikeFrom", "(II)I"⟩, 34) := ⟨⟨by decide +kernel, by decide +kernel⟩, List.mem_of_getElem? (i := 875) (by decide +kernel), List.mem_of_getElem? (i := 1381) (by decide +kernel), List.mem_of_getElem? (i := 1382) (by decide +kernel)⟩
theorem lw_p79 : lw_okq (⟨"PieceBookModel", "isOfWord", "(I)Z"⟩, 34) := ⟨⟨by decide +kernel, by decide +kernel⟩, List.mem_of_getElem? (i := 875) (by decide +kernel), List.mem_of_getElem? (i := 1389) (by decide +kernel), List.mem_of_getElem? (i := 1390) (by decide +kernel)⟩
def lw_privs_5 : List (MethodName × Nat) := [(⟨"PieceBookModel", "redoes", "()I"⟩, 34), (⟨"PieceBookModel", "readsAct", "()Z"⟩, 34), (⟨"PieceBookModel", "digits", "(I)I"⟩, 34), (⟨"PieceBookModel", "letter", "()I"⟩, 34), (⟨"PieceBookModel", "does", "(I)I"⟩, 34), (⟨"PieceBookModel", "enters", "(J)V"⟩, 34), (⟨"PieceBookModel", "isSign", "(I)Z"⟩, 34), (⟨"PieceBookModel", "pieces", "()I"⟩, 34), (⟨"PieceBookModel", "beginOf", "(I)I"⟩, 34), (⟨"PieceBookModel", "endOf", "(I)I"⟩, 34), (⟨"PieceBookModel", "beginningsTo", "(I)I"⟩, 34), (⟨"PieceBookModel", "findsBy", "(II)I"⟩, 34), (⟨"PieceBookModel", "stands", "(II)Z"⟩, 34), (⟨"PieceBookModel", "found", "(I)I"⟩, 34), (⟨"PieceBookModel", "alikeFrom", "(II)I"⟩, 34), (⟨"PieceBookModel", "isOfWord", "(I)Z"⟩, 34)]
theorem lw_r5 : ∀ q ∈ lw_privs_5, lw_okq q := List.forall_mem_cons.mpr ⟨lw_p64, List.forall_mem_cons.mpr ⟨lw_p65, List.forall_mem_cons.mpr ⟨lw_p66, List.forall_mem_cons.mpr ⟨lw_p67, List.forall_mem_cons.mpr ⟨lw_p68, List.forall_mem_cons.mpr ⟨lw_p69, List.forall_mem_cons.mpr ⟨lw_p70, List.forall_mem_cons.mpr ⟨lw_p71, List.forall_mem_cons.mpr ⟨lw_p72, List.forall_mem_cons.mpr ⟨lw_p73, List.forall_mem_cons.mpr ⟨lw_p74, List.forall_mem_cons.mpr ⟨lw_p75, List.forall_mem_cons.mpr ⟨lw_p76, List.forall_mem_cons.mpr ⟨lw_p77, List.forall_mem_cons.mpr ⟨lw_p78, List.forall_mem_cons.mpr ⟨lw_p79, fun _ h => absurd h List.not_mem_nil⟩⟩⟩⟩⟩⟩⟩⟩⟩⟩⟩⟩⟩⟩⟩⟩
theorem lw_p80 : lw_okq (⟨"PieceBookModel", "endOfWord", "(I)I"⟩, 34) := ⟨⟨by decide +kernel, by decide +kernel⟩, List.mem_of_getElem? (i := 875) (by decide +kernel), List.mem_of_getElem? (i := 1393) (by decide +kernel), List.mem_of_getElem? (i := 1394) (by decide +kernel)⟩
theorem lw_p81 : lw_okq (⟨"PieceBookModel", "rowEnd", "(III)I"⟩, 34) := ⟨⟨by decide +kernel, by decide +kernel⟩, List.mem_of_getElem? (i := 875) (by decide +kernel), List.mem_of_getElem? (i := 1406) (by decide +kernel), List.mem_of_getElem? (i := 1407) (by decide +kernel)⟩
theorem lw_p82 : lw_okq (⟨"PieceBookModel", "sumOf", "(II)I"⟩, 34) := ⟨⟨by decide +kernel, by decide +kernel⟩, List.mem_of_getElem? (i := 875) (by decide +kernel), List.mem_of_getElem? (i := 1422) (by decide +kernel), List.mem_of_getElem? (i := 1423) (by decide +kernel)⟩
theorem lw_p83 : lw_okq (⟨"PieceBookModel", "signOf", "(I)I"⟩, 34) := ⟨⟨by decide +kernel, by decide +kernel⟩, List.mem_of_getElem? (i := 875) (by decide +kernel), List.mem_of_getElem? (i := 1430) (by decide +kernel), List.mem_of_getElem? (i := 1431) (by decide +kernel)⟩
theorem lw_p84 : lw_okq (⟨"PieceBookModel", "drawnEdit", "()V"⟩, 34) := ⟨⟨by decide +kernel, by decide +kernel⟩, List.mem_of_getElem? (i := 875) (by decide +kernel), List.mem_of_getElem? (i := 1439) (by decide +kernel), List.mem_of_getElem? (i := 1440) (by decide +kernel)⟩
theorem lw_p85 : lw_okq (⟨"PieceBookModel", "draws", "(I)I"⟩, 34) := ⟨⟨by decide +kernel, by decide +kernel⟩, List.mem_of_getElem? (i := 875) (by decide +kernel), List.mem_of_getElem? (i := 1443) (by decide +kernel), List.mem_of_getElem? (i := 1444) (by decide +kernel)⟩
def lw_privs_6 : List (MethodName × Nat) := [(⟨"PieceBookModel", "endOfWord", "(I)I"⟩, 34), (⟨"PieceBookModel", "rowEnd", "(III)I"⟩, 34), (⟨"PieceBookModel", "sumOf", "(II)I"⟩, 34), (⟨"PieceBookModel", "signOf", "(I)I"⟩, 34), (⟨"PieceBookModel", "drawnEdit", "()V"⟩, 34), (⟨"PieceBookModel", "draws", "(I)I"⟩, 34)]
theorem lw_r6 : ∀ q ∈ lw_privs_6, lw_okq q := List.forall_mem_cons.mpr ⟨lw_p80, List.forall_mem_cons.mpr ⟨lw_p81, List.forall_mem_cons.mpr ⟨lw_p82, List.forall_mem_cons.mpr ⟨lw_p83, List.forall_mem_cons.mpr ⟨lw_p84, List.forall_mem_cons.mpr ⟨lw_p85, fun _ h => absurd h List.not_mem_nil⟩⟩⟩⟩⟩⟩
def lw_privs : List (MethodName × Nat) := lw_privs_1 ++ (lw_privs_2 ++ (lw_privs_3 ++ (lw_privs_4 ++ (lw_privs_5 ++ (lw_privs_6)))))
def lw_tbl : List Cond := k2_sels lw_privs ++ tables_1
theorem lw_privs_ok : ∀ q ∈ lw_privs, lw_okq q := by
  show ∀ q ∈ lw_privs_1 ++ (lw_privs_2 ++ (lw_privs_3 ++ (lw_privs_4 ++ (lw_privs_5 ++ (lw_privs_6))))), lw_okq q
  exact List.forall_mem_append.mpr ⟨lw_r1, List.forall_mem_append.mpr ⟨lw_r2, List.forall_mem_append.mpr ⟨lw_r3, List.forall_mem_append.mpr ⟨lw_r4, List.forall_mem_append.mpr ⟨lw_r5, lw_r6⟩⟩⟩⟩⟩
def RX0 : String := "PieceBook$Draws"
def TX0 : u_T := fun k => match k with
  | _ => ("PieceBook$Draws", "drawn", "I", false)
def tyX0 : Nat → FieldType := fun k => match k with
  | _ => .int
abbrev wsX00 : List Cond := u_ws RX0 TX0 1
theorem nmX0 : ∀ a, a < 1 → ∀ b, b < 1 → a ≠ b → (TX0 a).2.1 ≠ (TX0 b).2.1 := by decide +kernel
theorem tyX0_ok : ∀ k, k < 1 → parseFieldDescriptor (TX0 k).2.2.1 = some (tyX0 k) := by decide +kernel
abbrev cX0_init : ByteArray := prog_2_method_1_code
def yX0_init : MethodName := ⟨RX0, "<init>", "(I)V"⟩
abbrev cX0_draw : ByteArray := prog_2_method_2_code
def yX0_draw : MethodName := ⟨RX0, "draw", "(I)I"⟩
def RX1 : String := "PieceBook$History"
def TX1 : u_T := fun k => match k with
  | 0 => ("PieceBook$History", "leaves", "[LPieceBook$Leaf;", true)
  | 1 => ("PieceBook$History", "slot", "I", false)
  | 2 => ("PieceBook$History", "undoable", "I", false)
  | _ => ("PieceBook$History", "redoable", "I", false)
def tyX1 : Nat → FieldType := fun k => match k with
  | 0 => .array (.object "PieceBook$Leaf")
  | 1 => .int
  | 2 => .int
  | _ => .int
abbrev wsX10 : List Cond := u_ws RX1 TX1 4
theorem nmX1 : ∀ a, a < 4 → ∀ b, b < 4 → a ≠ b → (TX1 a).2.1 ≠ (TX1 b).2.1 := by decide +kernel
theorem tyX1_ok : ∀ k, k < 4 → parseFieldDescriptor (TX1 k).2.2.1 = some (tyX1 k) := by decide +kernel
abbrev cX1_init : ByteArray := prog_3_method_1_code
def yX1_init : MethodName := ⟨RX1, "<init>", "()V"⟩
abbrev cX1_current : ByteArray := prog_3_method_2_code
def yX1_current : MethodName := ⟨RX1, "current", "()LPieceBook$Leaf;"⟩
abbrev cX1_ago : ByteArray := prog_3_method_3_code
def yX1_ago : MethodName := ⟨RX1, "ago", "(I)LPieceBook$Leaf;"⟩
abbrev cX1_beginEdit : ByteArray := prog_3_method_4_code
def yX1_beginEdit : MethodName := ⟨RX1, "beginEdit", "()LPieceBook$Leaf;"⟩
abbrev cX1_goBack : ByteArray := prog_3_method_5_code
def yX1_goBack : MethodName := ⟨RX1, "goBack", "()V"⟩
abbrev cX1_goOn : ByteArray := prog_3_method_6_code
def yX1_goOn : MethodName := ⟨RX1, "goOn", "()V"⟩
abbrev cX1_forget : ByteArray := prog_3_method_7_code
def yX1_forget : MethodName := ⟨RX1, "forget", "()V"⟩
def RX2 : String := "PieceBook$Leaf"
def TX2 : u_T := fun k => match k with
  | 0 => ("PieceBook$Leaf", "source", "[I", false)
  | 1 => ("PieceBook$Leaf", "length", "[I", false)
  | 2 => ("PieceBook$Leaf", "pieces", "I", false)
  | 3 => ("PieceBook$Leaf", "signs", "I", false)
  | 4 => ("PieceBook$Leaf", "marked", "[I", true)
  | _ => ("PieceBook$Leaf", "sticks", "[Z", true)
def tyX2 : Nat → FieldType := fun k => match k with
  | 0 => .array .int
  | 1 => .array .int
  | 2 => .int
  | 3 => .int
  | 4 => .array .int
  | _ => .array .boolean
abbrev wsX20 : List Cond := u_ws RX2 TX2 6
theorem nmX2 : ∀ a, a < 6 → ∀ b, b < 6 → a ≠ b → (TX2 a).2.1 ≠ (TX2 b).2.1 := by decide +kernel
theorem tyX2_ok : ∀ k, k < 6 → parseFieldDescriptor (TX2 k).2.2.1 = some (tyX2 k) := by decide +kernel
abbrev cX2_init : ByteArray := prog_4_method_1_code
def yX2_init : MethodName := ⟨RX2, "<init>", "()V"⟩
abbrev cX2_clear : ByteArray := prog_4_method_2_code
def yX2_clear : MethodName := ⟨RX2, "clear", "()V"⟩
abbrev cX2_become : ByteArray := prog_4_method_3_code
def yX2_become : MethodName := ⟨RX2, "become", "(LPieceBook$Leaf;)V"⟩
abbrev cX2_addPiece : ByteArray := prog_4_method_4_code
def yX2_addPiece : MethodName := ⟨RX2, "addPiece", "(II)V"⟩
abbrev cX2_openGap : ByteArray := prog_4_method_5_code
def yX2_openGap : MethodName := ⟨RX2, "openGap", "(II)V"⟩
abbrev cX2_closeGap : ByteArray := prog_4_method_6_code
def yX2_closeGap : MethodName := ⟨RX2, "closeGap", "(II)V"⟩
abbrev cX2_cutAt : ByteArray := prog_4_method_7_code
def yX2_cutAt : MethodName := ⟨RX2, "cutAt", "(I)I"⟩
abbrev cX2_insert : ByteArray := prog_4_method_8_code
def yX2_insert : MethodName := ⟨RX2, "insert", "(III)V"⟩
abbrev cX2_take : ByteArray := prog_4_method_9_code
def yX2_take : MethodName := ⟨RX2, "take", "(II)V"⟩
abbrev cX2_lay : ByteArray := prog_4_method_10_code
def yX2_lay : MethodName := ⟨RX2, "lay", "(IIILPieceBook$Leaf;)V"⟩
abbrev cX2_move : ByteArray := prog_4_method_11_code
def yX2_move : MethodName := ⟨RX2, "move", "(IIILPieceBook$Leaf;)V"⟩
abbrev cX2_dropSigns : ByteArray := prog_4_method_12_code
def yX2_dropSigns : MethodName := ⟨RX2, "dropSigns", "(II)V"⟩
abbrev cX2_layPieces : ByteArray := prog_4_method_13_code
def yX2_layPieces : MethodName := ⟨RX2, "layPieces", "(LPieceBook$Leaf;I)V"⟩
abbrev cX2_becomePart : ByteArray := prog_4_method_14_code
def yX2_becomePart : MethodName := ⟨RX2, "becomePart", "(LPieceBook$Leaf;II)V"⟩
abbrev cX2_piecesOf : ByteArray := prog_4_method_15_code
def yX2_piecesOf : MethodName := ⟨RX2, "piecesOf", "(I)I"⟩
abbrev cX2_beginOf : ByteArray := prog_4_method_16_code
def yX2_beginOf : MethodName := ⟨RX2, "beginOf", "(I)I"⟩
abbrev cX2_goOn : ByteArray := prog_4_method_17_code
def yX2_goOn : MethodName := ⟨RX2, "goOn", "(II)Z"⟩
abbrev cX2_bordersToHeal : ByteArray := prog_4_method_18_code
def yX2_bordersToHeal : MethodName := ⟨RX2, "bordersToHeal", "()I"⟩
abbrev cX2_joinPieces : ByteArray := prog_4_method_19_code
def yX2_joinPieces : MethodName := ⟨RX2, "joinPieces", "()I"⟩
abbrev cX2_setMark : ByteArray := prog_4_method_20_code
def yX2_setMark : MethodName := ⟨RX2, "setMark", "(IIZ)V"⟩
abbrev cX2_marksFrom : ByteArray := prog_4_method_21_code
def yX2_marksFrom : MethodName := ⟨RX2, "marksFrom", "(II)I"⟩
abbrev cX2_marksGoOn : ByteArray := prog_4_method_22_code
def yX2_marksGoOn : MethodName := ⟨RX2, "marksGoOn", "(II)V"⟩
abbrev cX2_marksGoBack : ByteArray := prog_4_method_23_code
def yX2_marksGoBack : MethodName := ⟨RX2, "marksGoBack", "(II)V"⟩
abbrev cX2_marksMove : ByteArray := prog_4_method_24_code
def yX2_marksMove : MethodName := ⟨RX2, "marksMove", "(III)V"⟩
def RX3 : String := "PieceBook$Page"
def TX3 : u_T := fun k => match k with
  | 0 => ("PieceBook$Page", "signs", "[B", true)
  | 1 => ("PieceBook$Page", "shownBy", "[I", true)
  | _ => ("PieceBook$Page", "size", "I", false)
def tyX3 : Nat → FieldType := fun k => match k with
  | 0 => .array .byte
  | 1 => .array .int
  | _ => .int
abbrev wsX30 : List Cond := u_ws RX3 TX3 3
theorem nmX3 : ∀ a, a < 3 → ∀ b, b < 3 → a ≠ b → (TX3 a).2.1 ≠ (TX3 b).2.1 := by decide +kernel
theorem tyX3_ok : ∀ k, k < 3 → parseFieldDescriptor (TX3 k).2.2.1 = some (tyX3 k) := by decide +kernel
abbrev cX3_init : ByteArray := prog_5_method_1_code
def yX3_init : MethodName := ⟨RX3, "<init>", "()V"⟩
abbrev cX3_lay : ByteArray := prog_5_method_2_code
def yX3_lay : MethodName := ⟨RX3, "lay", "(LPieceBook$Leaf;LPieceBook$Stores;)V"⟩
abbrev cX3_has : ByteArray := prog_5_method_3_code
def yX3_has : MethodName := ⟨RX3, "has", "(I)Z"⟩
abbrev cX3_signAt : ByteArray := prog_5_method_4_code
def yX3_signAt : MethodName := ⟨RX3, "signAt", "(I)I"⟩
abbrev cX3_pieceAt : ByteArray := prog_5_method_5_code
def yX3_pieceAt : MethodName := ⟨RX3, "pieceAt", "(I)I"⟩
abbrev cX3_piecesIn : ByteArray := prog_5_method_6_code
def yX3_piecesIn : MethodName := ⟨RX3, "piecesIn", "(II)I"⟩
abbrev cX3_breaksIn : ByteArray := prog_5_method_7_code
def yX3_breaksIn : MethodName := ⟨RX3, "breaksIn", "(II)I"⟩
abbrev cX3_lineStart : ByteArray := prog_5_method_8_code
def yX3_lineStart : MethodName := ⟨RX3, "lineStart", "(I)I"⟩
abbrev cX3_lineBegin : ByteArray := prog_5_method_9_code
def yX3_lineBegin : MethodName := ⟨RX3, "lineBegin", "(I)I"⟩
abbrev cX3_lineEnd : ByteArray := prog_5_method_10_code
def yX3_lineEnd : MethodName := ⟨RX3, "lineEnd", "(I)I"⟩
abbrev cX3_wordEnd : ByteArray := prog_5_method_11_code
def yX3_wordEnd : MethodName := ⟨RX3, "wordEnd", "(I)I"⟩
abbrev cX3_rowEnd : ByteArray := prog_5_method_12_code
def yX3_rowEnd : MethodName := ⟨RX3, "rowEnd", "(II)I"⟩
abbrev cX3_sumOf : ByteArray := prog_5_method_13_code
def yX3_sumOf : MethodName := ⟨RX3, "sumOf", "(II)I"⟩
abbrev cX3_fillFallbacks : ByteArray := prog_5_method_14_code
def yX3_fillFallbacks : MethodName := ⟨RX3, "fillFallbacks", "(I[I)V"⟩
abbrev cX3_holdOn : ByteArray := prog_5_method_15_code
def yX3_holdOn : MethodName := ⟨RX3, "holdOn", "(III[I)I"⟩
def RX4 : String := "PieceBook$Stores"
def TX4 : u_T := fun k => match k with
  | 0 => ("PieceBook$Stores", "signs", "[B", true)
  | 1 => ("PieceBook$Stores", "original", "I", false)
  | _ => ("PieceBook$Stores", "added", "I", false)
def tyX4 : Nat → FieldType := fun k => match k with
  | 0 => .array .byte
  | 1 => .int
  | _ => .int
abbrev wsX40 : List Cond := u_ws RX4 TX4 3
theorem nmX4 : ∀ a, a < 3 → ∀ b, b < 3 → a ≠ b → (TX4 a).2.1 ≠ (TX4 b).2.1 := by decide +kernel
theorem tyX4_ok : ∀ k, k < 3 → parseFieldDescriptor (TX4 k).2.2.1 = some (tyX4 k) := by decide +kernel
abbrev cX4_init : ByteArray := prog_6_method_1_code
def yX4_init : MethodName := ⟨RX4, "<init>", "()V"⟩
abbrev cX4_sizeOf : ByteArray := prog_6_method_2_code
def yX4_sizeOf : MethodName := ⟨RX4, "sizeOf", "(I)I"⟩
abbrev cX4_addedEnd : ByteArray := prog_6_method_3_code
def yX4_addedEnd : MethodName := ⟨RX4, "addedEnd", "()I"⟩
abbrev cX4_signAt : ByteArray := prog_6_method_4_code
def yX4_signAt : MethodName := ⟨RX4, "signAt", "(I)I"⟩
abbrev cX4_renew : ByteArray := prog_6_method_5_code
def yX4_renew : MethodName := ⟨RX4, "renew", "([III)V"⟩
abbrev cX4_add : ByteArray := prog_6_method_6_code
def yX4_add : MethodName := ⟨RX4, "add", "(I)V"⟩
abbrev cX4_addText : ByteArray := prog_6_method_7_code
def yX4_addText : MethodName := ⟨RX4, "addText", "([II)V"⟩
abbrev cX4_addBlanks : ByteArray := prog_6_method_8_code
def yX4_addBlanks : MethodName := ⟨RX4, "addBlanks", "(I)V"⟩
abbrev cX4_breaksIn : ByteArray := prog_6_method_9_code
def yX4_breaksIn : MethodName := ⟨RX4, "breaksIn", "(II)I"⟩
def RX5 : String := "PieceBook$Told"
def TX5 : u_T := fun k => match k with
  | 0 => ("PieceBook$Told", "numbers", "[J", true)
  | _ => ("PieceBook$Told", "size", "I", false)
def tyX5 : Nat → FieldType := fun k => match k with
  | 0 => .array .long
  | _ => .int
abbrev wsX50 : List Cond := u_ws RX5 TX5 2
theorem nmX5 : ∀ a, a < 2 → ∀ b, b < 2 → a ≠ b → (TX5 a).2.1 ≠ (TX5 b).2.1 := by decide +kernel
theorem tyX5_ok : ∀ k, k < 2 → parseFieldDescriptor (TX5 k).2.2.1 = some (tyX5 k) := by decide +kernel
abbrev cX5_init : ByteArray := prog_7_method_1_code
def yX5_init : MethodName := ⟨RX5, "<init>", "()V"⟩
abbrev cX5_clear : ByteArray := prog_7_method_2_code
def yX5_clear : MethodName := ⟨RX5, "clear", "()V"⟩
abbrev cX5_add : ByteArray := prog_7_method_3_code
def yX5_add : MethodName := ⟨RX5, "add", "(J)V"⟩
abbrev cX5_tell : ByteArray := prog_7_method_4_code
def yX5_tell : MethodName := ⟨RX5, "tell", "(J)V"⟩
abbrev cX5_tell_ : ByteArray := prog_7_method_5_code
def yX5_tell_ : MethodName := ⟨RX5, "tell", "(JJ)V"⟩
abbrev cX5_tell__ : ByteArray := prog_7_method_6_code
def yX5_tell__ : MethodName := ⟨RX5, "tell", "(JJJ)V"⟩
def RX6 : String := "PieceBook"
def TX6 : u_T := fun k => match k with
  | 0 => ("PieceBook", "text", "[I", true)
  | 1 => ("PieceBook", "textSize", "I", false)
  | 2 => ("PieceBook", "told", "LPieceBook$Told;", true)
  | 3 => ("PieceBook", "stores", "LPieceBook$Stores;", true)
  | 4 => ("PieceBook", "history", "LPieceBook$History;", true)
  | 5 => ("PieceBook", "kept", "[LPieceBook$Leaf;", true)
  | 6 => ("PieceBook", "isKept", "[Z", true)
  | 7 => ("PieceBook", "clip", "LPieceBook$Leaf;", true)
  | 8 => ("PieceBook", "trial", "LPieceBook$Leaf;", true)
  | 9 => ("PieceBook", "page", "LPieceBook$Page;", true)
  | 10 => ("PieceBook", "pageIsOld", "Z", false)
  | 11 => ("PieceBook", "otherPage", "LPieceBook$Page;", true)
  | 12 => ("PieceBook", "scratch", "[I", true)
  | _ => ("PieceBook", "typedBehind", "I", false)
def tyX6 : Nat → FieldType := fun k => match k with
  | 0 => .array .int
  | 1 => .int
  | 2 => .object "PieceBook$Told"
  | 3 => .object "PieceBook$Stores"
  | 4 => .object "PieceBook$History"
  | 5 => .array (.object "PieceBook$Leaf")
  | 6 => .array .boolean
  | 7 => .object "PieceBook$Leaf"
  | 8 => .object "PieceBook$Leaf"
  | 9 => .object "PieceBook$Page"
  | 10 => .boolean
  | 11 => .object "PieceBook$Page"
  | 12 => .array .int
  | _ => .int
abbrev wsX60 : List Cond := u_ws RX6 TX6 14
theorem nmX6 : ∀ a, a < 14 → ∀ b, b < 14 → a ≠ b → (TX6 a).2.1 ≠ (TX6 b).2.1 := by decide +kernel
theorem tyX6_ok : ∀ k, k < 14 → parseFieldDescriptor (TX6 k).2.2.1 = some (tyX6 k) := by decide +kernel
abbrev cX6_init : ByteArray := prog_1_method_1_code
def yX6_init : MethodName := ⟨RX6, "<init>", "()V"⟩
abbrev cX6_sign : ByteArray := prog_1_method_2_code
def yX6_sign : MethodName := ⟨RX6, "sign", "(I)I"⟩
abbrev cX6_end : ByteArray := prog_1_method_3_code
def yX6_end : MethodName := ⟨RX6, "end", "(I)Z"⟩
abbrev cX6_opens : ByteArray := prog_1_method_4_code
def yX6_opens : MethodName := ⟨RX6, "opens", "(I)I"⟩
abbrev cX6_store : ByteArray := prog_1_method_5_code
def yX6_store : MethodName := ⟨RX6, "store", "(II)I"⟩
abbrev cX6_inserts : ByteArray := prog_1_method_6_code
def yX6_inserts : MethodName := ⟨RX6, "inserts", "(I)I"⟩
abbrev cX6_type : ByteArray := prog_1_method_7_code
def yX6_type : MethodName := ⟨RX6, "type", "(II)I"⟩
abbrev cX6_takes : ByteArray := prog_1_method_8_code
def yX6_takes : MethodName := ⟨RX6, "takes", "(II)I"⟩
abbrev cX6_puts : ByteArray := prog_1_method_9_code
def yX6_puts : MethodName := ⟨RX6, "puts", "(II)I"⟩
abbrev cX6_lays : ByteArray := prog_1_method_10_code
def yX6_lays : MethodName := ⟨RX6, "lays", "(III)I"⟩
abbrev cX6_moves : ByteArray := prog_1_method_11_code
def yX6_moves : MethodName := ⟨RX6, "moves", "(III)I"⟩
abbrev cX6_cuts : ByteArray := prog_1_method_12_code
def yX6_cuts : MethodName := ⟨RX6, "cuts", "(I)I"⟩
abbrev cX6_indents : ByteArray := prog_1_method_13_code
def yX6_indents : MethodName := ⟨RX6, "indents", "(III)I"⟩
abbrev cX6_heals : ByteArray := prog_1_method_14_code
def yX6_heals : MethodName := ⟨RX6, "heals", "()I"⟩
abbrev cX6_marks : ByteArray := prog_1_method_15_code
def yX6_marks : MethodName := ⟨RX6, "marks", "(III)I"⟩
abbrev cX6_day : ByteArray := prog_1_method_16_code
def yX6_day : MethodName := ⟨RX6, "day", "()I"⟩
abbrev cX6_undo : ByteArray := prog_1_method_17_code
def yX6_undo : MethodName := ⟨RX6, "undo", "()I"⟩
abbrev cX6_redo : ByteArray := prog_1_method_18_code
def yX6_redo : MethodName := ⟨RX6, "redo", "()I"⟩
abbrev cX6_at : ByteArray := prog_1_method_19_code
def yX6_at : MethodName := ⟨RX6, "at", "(I)I"⟩
abbrev cX6_reads : ByteArray := prog_1_method_20_code
def yX6_reads : MethodName := ⟨RX6, "reads", "(II)I"⟩
abbrev cX6_line : ByteArray := prog_1_method_21_code
def yX6_line : MethodName := ⟨RX6, "line", "(I)I"⟩
abbrev cX6_starts : ByteArray := prog_1_method_22_code
def yX6_starts : MethodName := ⟨RX6, "starts", "(I)I"⟩
abbrev cX6_place : ByteArray := prog_1_method_23_code
def yX6_place : MethodName := ⟨RX6, "place", "(II)I"⟩
abbrev cX6_longest : ByteArray := prog_1_method_24_code
def yX6_longest : MethodName := ⟨RX6, "longest", "()I"⟩
abbrev cX6_mark : ByteArray := prog_1_method_25_code
def yX6_mark : MethodName := ⟨RX6, "mark", "(I)I"⟩
abbrev cX6_between : ByteArray := prog_1_method_26_code
def yX6_between : MethodName := ⟨RX6, "between", "(II)I"⟩
abbrev cX6_piece : ByteArray := prog_1_method_27_code
def yX6_piece : MethodName := ⟨RX6, "piece", "(II)I"⟩
abbrev cX6_shows : ByteArray := prog_1_method_28_code
def yX6_shows : MethodName := ⟨RX6, "shows", "(I)I"⟩
abbrev cX6_from : ByteArray := prog_1_method_29_code
def yX6_from : MethodName := ⟨RX6, "from", "(II)I"⟩
abbrev cX6_lost : ByteArray := prog_1_method_30_code
def yX6_lost : MethodName := ⟨RX6, "lost", "(I)I"⟩
abbrev cX6_healable : ByteArray := prog_1_method_31_code
def yX6_healable : MethodName := ⟨RX6, "healable", "()I"⟩
abbrev cX6_finds : ByteArray := prog_1_method_32_code
def yX6_finds : MethodName := ⟨RX6, "finds", "(I)I"⟩
abbrev cX6_last : ByteArray := prog_1_method_33_code
def yX6_last : MethodName := ⟨RX6, "last", "(I)I"⟩
abbrev cX6_many : ByteArray := prog_1_method_34_code
def yX6_many : MethodName := ⟨RX6, "many", "()I"⟩
abbrev cX6_fits : ByteArray := prog_1_method_35_code
def yX6_fits : MethodName := ⟨RX6, "fits", "(I)I"⟩
abbrev cX6_folds : ByteArray := prog_1_method_36_code
def yX6_folds : MethodName := ⟨RX6, "folds", "(I)I"⟩
abbrev cX6_pair : ByteArray := prog_1_method_37_code
def yX6_pair : MethodName := ⟨RX6, "pair", "(I)I"⟩
abbrev cX6_nested : ByteArray := prog_1_method_38_code
def yX6_nested : MethodName := ⟨RX6, "nested", "()I"⟩
abbrev cX6_before : ByteArray := prog_1_method_39_code
def yX6_before : MethodName := ⟨RX6, "before", "(I)I"⟩
abbrev cX6_word : ByteArray := prog_1_method_40_code
def yX6_word : MethodName := ⟨RX6, "word", "(I)I"⟩
abbrev cX6_words : ByteArray := prog_1_method_41_code
def yX6_words : MethodName := ⟨RX6, "words", "()I"⟩
abbrev cX6_rows : ByteArray := prog_1_method_42_code
def yX6_rows : MethodName := ⟨RX6, "rows", "(I)I"⟩
abbrev cX6_tally : ByteArray := prog_1_method_43_code
def yX6_tally : MethodName := ⟨RX6, "tally", "(I)I"⟩
abbrev cX6_alike : ByteArray := prog_1_method_44_code
def yX6_alike : MethodName := ⟨RX6, "alike", "(II)I"⟩
abbrev cX6_sum : ByteArray := prog_1_method_45_code
def yX6_sum : MethodName := ⟨RX6, "sum", "(II)I"⟩
abbrev cX6_differs : ByteArray := prog_1_method_46_code
def yX6_differs : MethodName := ⟨RX6, "differs", "(I)I"⟩
abbrev cX6_years : ByteArray := prog_1_method_47_code
def yX6_years : MethodName := ⟨RX6, "years", "(II)I"⟩
abbrev cX6_keep : ByteArray := prog_1_method_48_code
def yX6_keep : MethodName := ⟨RX6, "keep", "(I)Z"⟩
abbrev cX6_again : ByteArray := prog_1_method_49_code
def yX6_again : MethodName := ⟨RX6, "again", "(I)Z"⟩
abbrev cX6_count : ByteArray := prog_1_method_50_code
def yX6_count : MethodName := ⟨RX6, "count", "(I)I"⟩
abbrev cX6_row : ByteArray := prog_1_method_51_code
def yX6_row : MethodName := ⟨RX6, "row", "(I)J"⟩
abbrev cX6_readText : ByteArray := prog_1_method_52_code
def yX6_readText : MethodName := ⟨RX6, "readText", "()I"⟩
abbrev cX6_firstThatIsNone : ByteArray := prog_1_method_53_code
def yX6_firstThatIsNone : MethodName := ⟨RX6, "firstThatIsNone", "(I)I"⟩
abbrev cX6_isPlace : ByteArray := prog_1_method_54_code
def yX6_isPlace : MethodName := ⟨RX6, "isPlace", "(I)Z"⟩
abbrev cX6_hasSigns : ByteArray := prog_1_method_55_code
def yX6_hasSigns : MethodName := ⟨RX6, "hasSigns", "(II)Z"⟩
abbrev cX6_shownPage : ByteArray := prog_1_method_56_code
def yX6_shownPage : MethodName := ⟨RX6, "shownPage", "()LPieceBook$Page;"⟩
abbrev cX6_beginEdit : ByteArray := prog_1_method_57_code
def yX6_beginEdit : MethodName := ⟨RX6, "beginEdit", "()LPieceBook$Leaf;"⟩
abbrev cX6_bookIsOther : ByteArray := prog_1_method_58_code
def yX6_bookIsOther : MethodName := ⟨RX6, "bookIsOther", "()V"⟩
abbrev cX6_putInPlace : ByteArray := prog_1_method_59_code
def yX6_putInPlace : MethodName := ⟨RX6, "putInPlace", "(III)I"⟩
abbrev cX6_faultOfDay : ByteArray := prog_1_method_60_code
def yX6_faultOfDay : MethodName := ⟨RX6, "faultOfDay", "(I)I"⟩
abbrev cX6_doAct : ByteArray := prog_1_method_61_code
def yX6_doAct : MethodName := ⟨RX6, "doAct", "(I)I"⟩
abbrev cX6_numberAt : ByteArray := prog_1_method_62_code
def yX6_numberAt : MethodName := ⟨RX6, "numberAt", "(II)I"⟩
abbrev cX6_countShown : ByteArray := prog_1_method_63_code
def yX6_countShown : MethodName := ⟨RX6, "countShown", "(II)V"⟩
abbrev cX6_firstFrom : ByteArray := prog_1_method_64_code
def yX6_firstFrom : MethodName := ⟨RX6, "firstFrom", "(II)I"⟩
abbrev cX6_standsAt : ByteArray := prog_1_method_65_code
def yX6_standsAt : MethodName := ⟨RX6, "standsAt", "(III)Z"⟩
abbrev cX6_doDrawnEdit : ByteArray := prog_1_method_66_code
def yX6_doDrawnEdit : MethodName := ⟨RX6, "doDrawnEdit", "(LPieceBook$Draws;)V"⟩
abbrev cX6_isSign : ByteArray := prog_1_method_67_code
def yX6_isSign : MethodName := ⟨RX6, "isSign", "(I)Z"⟩
abbrev cX6_isDigit : ByteArray := prog_1_method_68_code
def yX6_isDigit : MethodName := ⟨RX6, "isDigit", "(I)Z"⟩
abbrev cX6_isSmall : ByteArray := prog_1_method_69_code
def yX6_isSmall : MethodName := ⟨RX6, "isSmall", "(I)Z"⟩
abbrev cX6_isCapital : ByteArray := prog_1_method_70_code
def yX6_isCapital : MethodName := ⟨RX6, "isCapital", "(I)Z"⟩
abbrev cX6_isOfWord : ByteArray := prog_1_method_71_code
def yX6_isOfWord : MethodName := ⟨RX6, "isOfWord", "(I)Z"⟩
abbrev cX6_small : ByteArray := prog_1_method_72_code
def yX6_small : MethodName := ⟨RX6, "small", "(I)I"⟩
abbrev cX6_isAlike : ByteArray := prog_1_method_73_code
def yX6_isAlike : MethodName := ⟨RX6, "isAlike", "(III)Z"⟩
abbrev cX6_opensPair : ByteArray := prog_1_method_74_code
def yX6_opensPair : MethodName := ⟨RX6, "opensPair", "(I)Z"⟩
abbrev cX6_partnerOf : ByteArray := prog_1_method_75_code
def yX6_partnerOf : MethodName := ⟨RX6, "partnerOf", "(I)I"⟩
abbrev cX6_lengthOfAct : ByteArray := prog_1_method_76_code
def yX6_lengthOfAct : MethodName := ⟨RX6, "lengthOfAct", "(I)I"⟩
abbrev cX6_mayStand : ByteArray := prog_1_method_77_code
def yX6_mayStand : MethodName := ⟨RX6, "mayStand", "(III)Z"⟩
abbrev cX6_baseOf : ByteArray := prog_1_method_78_code
def yX6_baseOf : MethodName := ⟨RX6, "baseOf", "(I)I"⟩
abbrev cX6_storeOf : ByteArray := prog_1_method_79_code
def yX6_storeOf : MethodName := ⟨RX6, "storeOf", "(I)I"⟩
abbrev cX6_placeInStore : ByteArray := prog_1_method_80_code
def yX6_placeInStore : MethodName := ⟨RX6, "placeInStore", "(I)I"⟩
def RX7 : String := "PieceBookModel"
def TX7 : u_T := fun k => match k with
  | 0 => ("PieceBookModel", "thrown", "I", false)
  | 1 => ("PieceBookModel", "told", "I", false)
  | 2 => ("PieceBookModel", "row", "[J", true)
  | 3 => ("PieceBookModel", "tape", "[I", true)
  | 4 => ("PieceBookModel", "taped", "I", false)
  | 5 => ("PieceBookModel", "textLong", "I", false)
  | 6 => ("PieceBookModel", "original", "[I", true)
  | 7 => ("PieceBookModel", "added", "[I", true)
  | 8 => ("PieceBookModel", "originalMany", "I", false)
  | 9 => ("PieceBookModel", "addedMany", "I", false)
  | 10 => ("PieceBookModel", "book", "[I", true)
  | 11 => ("PieceBookModel", "bookLong", "I", false)
  | 12 => ("PieceBookModel", "mark", "[I", true)
  | 13 => ("PieceBookModel", "sticks", "[I", true)
  | 14 => ("PieceBookModel", "laid", "[I", true)
  | 15 => ("PieceBookModel", "past", "[[I", true)
  | 16 => ("PieceBookModel", "pastMarks", "[[I", true)
  | 17 => ("PieceBookModel", "pastMany", "I", false)
  | 18 => ("PieceBookModel", "future", "[[I", true)
  | 19 => ("PieceBookModel", "futureMarks", "[[I", true)
  | 20 => ("PieceBookModel", "futureMany", "I", false)
  | 21 => ("PieceBookModel", "typedAt", "I", false)
  | 22 => ("PieceBookModel", "kept", "[[I", true)
  | 23 => ("PieceBookModel", "keptMarks", "[[I", true)
  | 24 => ("PieceBookModel", "wasMark", "[I", true)
  | 25 => ("PieceBookModel", "actSign", "[I", true)
  | 26 => ("PieceBookModel", "actOne", "[I", true)
  | 27 => ("PieceBookModel", "actTwo", "[I", true)
  | 28 => ("PieceBookModel", "actThree", "[I", true)
  | 29 => ("PieceBookModel", "acts", "I", false)
  | 30 => ("PieceBookModel", "read", "I", false)
  | 31 => ("PieceBookModel", "isShown", "[Z", true)
  | 32 => ("PieceBookModel", "open", "[I", true)
  | _ => ("PieceBookModel", "random", "I", false)
def tyX7 : Nat → FieldType := fun k => match k with
  | 0 => .int
  | 1 => .int
  | 2 => .array .long
  | 3 => .array .int
  | 4 => .int
  | 5 => .int
  | 6 => .array .int
  | 7 => .array .int
  | 8 => .int
  | 9 => .int
  | 10 => .array .int
  | 11 => .int
  | 12 => .array .int
  | 13 => .array .int
  | 14 => .array .int
  | 15 => .array (.array .int)
  | 16 => .array (.array .int)
  | 17 => .int
  | 18 => .array (.array .int)
  | 19 => .array (.array .int)
  | 20 => .int
  | 21 => .int
  | 22 => .array (.array .int)
  | 23 => .array (.array .int)
  | 24 => .array .int
  | 25 => .array .int
  | 26 => .array .int
  | 27 => .array .int
  | 28 => .array .int
  | 29 => .int
  | 30 => .int
  | 31 => .array .boolean
  | 32 => .array .int
  | _ => .int
abbrev wsX70 : List Cond := u_ws RX7 TX7 34
theorem nmX7 : ∀ a, a < 34 → ∀ b, b < 34 → a ≠ b → (TX7 a).2.1 ≠ (TX7 b).2.1 := by decide +kernel
theorem tyX7_ok : ∀ k, k < 34 → parseFieldDescriptor (TX7 k).2.2.1 = some (tyX7 k) := by decide +kernel
abbrev cX7_thrown : ByteArray := prog_9_method_1_code
def yX7_thrown : MethodName := ⟨RX7, "thrown", "()I"⟩
abbrev cX7_refuse : ByteArray := prog_9_method_2_code
def yX7_refuse : MethodName := ⟨RX7, "refuse", "()I"⟩
abbrev cX7_in : ByteArray := prog_9_method_3_code
def yX7_in : MethodName := ⟨RX7, "in", "(JJJ)Z"⟩
abbrev cX7_flag : ByteArray := prog_9_method_4_code
def yX7_flag : MethodName := ⟨RX7, "flag", "(Z)I"⟩
abbrev cX7_enters : ByteArray := prog_9_method_5_code
def yX7_enters : MethodName := ⟨RX7, "enters", "(J)V"⟩
abbrev cX7_sign : ByteArray := prog_9_method_6_code
def yX7_sign : MethodName := ⟨RX7, "sign", "(I)I"⟩
abbrev cX7_end : ByteArray := prog_9_method_7_code
def yX7_end : MethodName := ⟨RX7, "end", "(I)Z"⟩
abbrev cX7_empties : ByteArray := prog_9_method_8_code
def yX7_empties : MethodName := ⟨RX7, "empties", "()I"⟩
abbrev cX7_faultOfText : ByteArray := prog_9_method_9_code
def yX7_faultOfText : MethodName := ⟨RX7, "faultOfText", "()I"⟩
abbrev cX7_storeMany : ByteArray := prog_9_method_10_code
def yX7_storeMany : MethodName := ⟨RX7, "storeMany", "(I)I"⟩
abbrev cX7_ofStore : ByteArray := prog_9_method_11_code
def yX7_ofStore : MethodName := ⟨RX7, "ofStore", "(II)I"⟩
abbrev cX7_init : ByteArray := prog_9_method_12_code
def yX7_init : MethodName := ⟨RX7, "<init>", "()V"⟩
abbrev cX7_unsets : ByteArray := prog_9_method_13_code
def yX7_unsets : MethodName := ⟨RX7, "unsets", "()V"⟩
abbrev cX7_storeAt : ByteArray := prog_9_method_14_code
def yX7_storeAt : MethodName := ⟨RX7, "storeAt", "(I)I"⟩
abbrev cX7_placeAt : ByteArray := prog_9_method_15_code
def yX7_placeAt : MethodName := ⟨RX7, "placeAt", "(I)I"⟩
abbrev cX7_signAt : ByteArray := prog_9_method_16_code
def yX7_signAt : MethodName := ⟨RX7, "signAt", "(I)I"⟩
abbrev cX7_begins : ByteArray := prog_9_method_17_code
def yX7_begins : MethodName := ⟨RX7, "begins", "(I)Z"⟩
abbrev cX7_coded : ByteArray := prog_9_method_18_code
def yX7_coded : MethodName := ⟨RX7, "coded", "(IIZ)I"⟩
abbrev cX7_partsAt : ByteArray := prog_9_method_19_code
def yX7_partsAt : MethodName := ⟨RX7, "partsAt", "(I)V"⟩
abbrev cX7_isPlace : ByteArray := prog_9_method_20_code
def yX7_isPlace : MethodName := ⟨RX7, "isPlace", "(I)Z"⟩
abbrev cX7_isSign : ByteArray := prog_9_method_21_code
def yX7_isSign : MethodName := ⟨RX7, "isSign", "(I)Z"⟩
abbrev cX7_pieces : ByteArray := prog_9_method_22_code
def yX7_pieces : MethodName := ⟨RX7, "pieces", "()I"⟩
abbrev cX7_opensGap : ByteArray := prog_9_method_23_code
def yX7_opensGap : MethodName := ⟨RX7, "opensGap", "(II)V"⟩
abbrev cX7_closesGap : ByteArray := prog_9_method_24_code
def yX7_closesGap : MethodName := ⟨RX7, "closesGap", "(II)V"⟩
abbrev cX7_marksCome : ByteArray := prog_9_method_25_code
def yX7_marksCome : MethodName := ⟨RX7, "marksCome", "(II)V"⟩
abbrev cX7_marksGo : ByteArray := prog_9_method_26_code
def yX7_marksGo : MethodName := ⟨RX7, "marksGo", "(II)V"⟩
abbrev cX7_goesOn : ByteArray := prog_9_method_27_code
def yX7_goesOn : MethodName := ⟨RX7, "goesOn", "(I)Z"⟩
abbrev cX7_comesIn : ByteArray := prog_9_method_28_code
def yX7_comesIn : MethodName := ⟨RX7, "comesIn", "(IIIZ)V"⟩
abbrev cX7_insertsText : ByteArray := prog_9_method_29_code
def yX7_insertsText : MethodName := ⟨RX7, "insertsText", "(I)V"⟩
abbrev cX7_takesOut : ByteArray := prog_9_method_30_code
def yX7_takesOut : MethodName := ⟨RX7, "takesOut", "(II)I"⟩
abbrev cX7_laysOut : ByteArray := prog_9_method_31_code
def yX7_laysOut : MethodName := ⟨RX7, "laysOut", "(II)V"⟩
abbrev cX7_laysIn : ByteArray := prog_9_method_32_code
def yX7_laysIn : MethodName := ⟨RX7, "laysIn", "(II)V"⟩
abbrev cX7_bookCopy : ByteArray := prog_9_method_33_code
def yX7_bookCopy : MethodName := ⟨RX7, "bookCopy", "()[I"⟩
abbrev cX7_marksCopy : ByteArray := prog_9_method_34_code
def yX7_marksCopy : MethodName := ⟨RX7, "marksCopy", "()[I"⟩
abbrev cX7_becomes : ByteArray := prog_9_method_35_code
def yX7_becomes : MethodName := ⟨RX7, "becomes", "([I[I)V"⟩
abbrev cX7_keepsPast : ByteArray := prog_9_method_36_code
def yX7_keepsPast : MethodName := ⟨RX7, "keepsPast", "()V"⟩
abbrev cX7_edits : ByteArray := prog_9_method_37_code
def yX7_edits : MethodName := ⟨RX7, "edits", "()V"⟩
abbrev cX7_forgetsEdits : ByteArray := prog_9_method_38_code
def yX7_forgetsEdits : MethodName := ⟨RX7, "forgetsEdits", "()V"⟩
abbrev cX7_opens : ByteArray := prog_9_method_39_code
def yX7_opens : MethodName := ⟨RX7, "opens", "(I)I"⟩
abbrev cX7_store : ByteArray := prog_9_method_40_code
def yX7_store : MethodName := ⟨RX7, "store", "(II)I"⟩
abbrev cX7_inserts : ByteArray := prog_9_method_41_code
def yX7_inserts : MethodName := ⟨RX7, "inserts", "(I)I"⟩
abbrev cX7_typesIn : ByteArray := prog_9_method_42_code
def yX7_typesIn : MethodName := ⟨RX7, "typesIn", "(II)I"⟩
abbrev cX7_type : ByteArray := prog_9_method_43_code
def yX7_type : MethodName := ⟨RX7, "type", "(II)I"⟩
abbrev cX7_typesOne : ByteArray := prog_9_method_44_code
def yX7_typesOne : MethodName := ⟨RX7, "typesOne", "(II)I"⟩
abbrev cX7_takesOne : ByteArray := prog_9_method_45_code
def yX7_takesOne : MethodName := ⟨RX7, "takesOne", "(II)I"⟩
abbrev cX7_takes : ByteArray := prog_9_method_46_code
def yX7_takes : MethodName := ⟨RX7, "takes", "(II)I"⟩
abbrev cX7_puts : ByteArray := prog_9_method_47_code
def yX7_puts : MethodName := ⟨RX7, "puts", "(II)I"⟩
abbrev cX7_laysOne : ByteArray := prog_9_method_48_code
def yX7_laysOne : MethodName := ⟨RX7, "laysOne", "(III)I"⟩
abbrev cX7_lays : ByteArray := prog_9_method_49_code
def yX7_lays : MethodName := ⟨RX7, "lays", "(III)I"⟩
abbrev cX7_movesOne : ByteArray := prog_9_method_50_code
def yX7_movesOne : MethodName := ⟨RX7, "movesOne", "(III)I"⟩
abbrev cX7_moves : ByteArray := prog_9_method_51_code
def yX7_moves : MethodName := ⟨RX7, "moves", "(III)I"⟩
abbrev cX7_isHealable : ByteArray := prog_9_method_52_code
def yX7_isHealable : MethodName := ⟨RX7, "isHealable", "(I)Z"⟩
abbrev cX7_healables : ByteArray := prog_9_method_53_code
def yX7_healables : MethodName := ⟨RX7, "healables", "()I"⟩
abbrev cX7_healsAll : ByteArray := prog_9_method_54_code
def yX7_healsAll : MethodName := ⟨RX7, "healsAll", "()I"⟩
abbrev cX7_heals : ByteArray := prog_9_method_55_code
def yX7_heals : MethodName := ⟨RX7, "heals", "()I"⟩
abbrev cX7_cuts : ByteArray := prog_9_method_56_code
def yX7_cuts : MethodName := ⟨RX7, "cuts", "(I)I"⟩
abbrev cX7_indents : ByteArray := prog_9_method_57_code
def yX7_indents : MethodName := ⟨RX7, "indents", "(III)I"⟩
abbrev cX7_marks : ByteArray := prog_9_method_58_code
def yX7_marks : MethodName := ⟨RX7, "marks", "(III)I"⟩
abbrev cX7_undoes : ByteArray := prog_9_method_59_code
def yX7_undoes : MethodName := ⟨RX7, "undoes", "()I"⟩
abbrev cX7_redoes : ByteArray := prog_9_method_60_code
def yX7_redoes : MethodName := ⟨RX7, "redoes", "()I"⟩
abbrev cX7_undo : ByteArray := prog_9_method_61_code
def yX7_undo : MethodName := ⟨RX7, "undo", "()I"⟩
abbrev cX7_redo : ByteArray := prog_9_method_62_code
def yX7_redo : MethodName := ⟨RX7, "redo", "()I"⟩
abbrev cX7_digits : ByteArray := prog_9_method_63_code
def yX7_digits : MethodName := ⟨RX7, "digits", "(I)I"⟩
abbrev cX7_letter : ByteArray := prog_9_method_64_code
def yX7_letter : MethodName := ⟨RX7, "letter", "()I"⟩
abbrev cX7_readsAct : ByteArray := prog_9_method_65_code
def yX7_readsAct : MethodName := ⟨RX7, "readsAct", "()Z"⟩
abbrev cX7_does : ByteArray := prog_9_method_66_code
def yX7_does : MethodName := ⟨RX7, "does", "(I)I"⟩
abbrev cX7_day : ByteArray := prog_9_method_67_code
def yX7_day : MethodName := ⟨RX7, "day", "()I"⟩
abbrev cX7_at : ByteArray := prog_9_method_68_code
def yX7_at : MethodName := ⟨RX7, "at", "(I)I"⟩
abbrev cX7_reads : ByteArray := prog_9_method_69_code
def yX7_reads : MethodName := ⟨RX7, "reads", "(II)I"⟩
abbrev cX7_breaksAhead : ByteArray := prog_9_method_70_code
def yX7_breaksAhead : MethodName := ⟨RX7, "breaksAhead", "(I)I"⟩
abbrev cX7_lines : ByteArray := prog_9_method_71_code
def yX7_lines : MethodName := ⟨RX7, "lines", "()I"⟩
abbrev cX7_startOf : ByteArray := prog_9_method_72_code
def yX7_startOf : MethodName := ⟨RX7, "startOf", "(I)I"⟩
abbrev cX7_endFrom : ByteArray := prog_9_method_73_code
def yX7_endFrom : MethodName := ⟨RX7, "endFrom", "(I)I"⟩
abbrev cX7_line : ByteArray := prog_9_method_74_code
def yX7_line : MethodName := ⟨RX7, "line", "(I)I"⟩
abbrev cX7_starts : ByteArray := prog_9_method_75_code
def yX7_starts : MethodName := ⟨RX7, "starts", "(I)I"⟩
abbrev cX7_place : ByteArray := prog_9_method_76_code
def yX7_place : MethodName := ⟨RX7, "place", "(II)I"⟩
abbrev cX7_longest : ByteArray := prog_9_method_77_code
def yX7_longest : MethodName := ⟨RX7, "longest", "()I"⟩
abbrev cX7_mark : ByteArray := prog_9_method_78_code
def yX7_mark : MethodName := ⟨RX7, "mark", "(I)I"⟩
abbrev cX7_between : ByteArray := prog_9_method_79_code
def yX7_between : MethodName := ⟨RX7, "between", "(II)I"⟩
abbrev cX7_beginOf : ByteArray := prog_9_method_80_code
def yX7_beginOf : MethodName := ⟨RX7, "beginOf", "(I)I"⟩
abbrev cX7_endOf : ByteArray := prog_9_method_81_code
def yX7_endOf : MethodName := ⟨RX7, "endOf", "(I)I"⟩
abbrev cX7_piece : ByteArray := prog_9_method_82_code
def yX7_piece : MethodName := ⟨RX7, "piece", "(II)I"⟩
abbrev cX7_beginningsTo : ByteArray := prog_9_method_83_code
def yX7_beginningsTo : MethodName := ⟨RX7, "beginningsTo", "(I)I"⟩
abbrev cX7_shows : ByteArray := prog_9_method_84_code
def yX7_shows : MethodName := ⟨RX7, "shows", "(I)I"⟩
abbrev cX7_from : ByteArray := prog_9_method_85_code
def yX7_from : MethodName := ⟨RX7, "from", "(II)I"⟩
abbrev cX7_lost : ByteArray := prog_9_method_86_code
def yX7_lost : MethodName := ⟨RX7, "lost", "(I)I"⟩
abbrev cX7_healable : ByteArray := prog_9_method_87_code
def yX7_healable : MethodName := ⟨RX7, "healable", "()I"⟩
abbrev cX7_small : ByteArray := prog_9_method_88_code
def yX7_small : MethodName := ⟨RX7, "small", "(I)I"⟩
abbrev cX7_isLike : ByteArray := prog_9_method_89_code
def yX7_isLike : MethodName := ⟨RX7, "isLike", "(III)Z"⟩
abbrev cX7_stands : ByteArray := prog_9_method_90_code
def yX7_stands : MethodName := ⟨RX7, "stands", "(II)Z"⟩
abbrev cX7_found : ByteArray := prog_9_method_91_code
def yX7_found : MethodName := ⟨RX7, "found", "(I)I"⟩
abbrev cX7_findsBy : ByteArray := prog_9_method_92_code
def yX7_findsBy : MethodName := ⟨RX7, "findsBy", "(II)I"⟩
abbrev cX7_finds : ByteArray := prog_9_method_93_code
def yX7_finds : MethodName := ⟨RX7, "finds", "(I)I"⟩
abbrev cX7_last : ByteArray := prog_9_method_94_code
def yX7_last : MethodName := ⟨RX7, "last", "(I)I"⟩
abbrev cX7_many : ByteArray := prog_9_method_95_code
def yX7_many : MethodName := ⟨RX7, "many", "()I"⟩
abbrev cX7_fits : ByteArray := prog_9_method_96_code
def yX7_fits : MethodName := ⟨RX7, "fits", "(I)I"⟩
abbrev cX7_folds : ByteArray := prog_9_method_97_code
def yX7_folds : MethodName := ⟨RX7, "folds", "(I)I"⟩
abbrev cX7_bracketOf : ByteArray := prog_9_method_98_code
def yX7_bracketOf : MethodName := ⟨RX7, "bracketOf", "(I)I"⟩
abbrev cX7_pair : ByteArray := prog_9_method_99_code
def yX7_pair : MethodName := ⟨RX7, "pair", "(I)I"⟩
abbrev cX7_nested : ByteArray := prog_9_method_100_code
def yX7_nested : MethodName := ⟨RX7, "nested", "()I"⟩
abbrev cX7_alikeFrom : ByteArray := prog_9_method_101_code
def yX7_alikeFrom : MethodName := ⟨RX7, "alikeFrom", "(II)I"⟩
abbrev cX7_before : ByteArray := prog_9_method_102_code
def yX7_before : MethodName := ⟨RX7, "before", "(I)I"⟩
abbrev cX7_isOfWord : ByteArray := prog_9_method_103_code
def yX7_isOfWord : MethodName := ⟨RX7, "isOfWord", "(I)Z"⟩
abbrev cX7_endOfWord : ByteArray := prog_9_method_104_code
def yX7_endOfWord : MethodName := ⟨RX7, "endOfWord", "(I)I"⟩
abbrev cX7_word : ByteArray := prog_9_method_105_code
def yX7_word : MethodName := ⟨RX7, "word", "(I)I"⟩
abbrev cX7_words : ByteArray := prog_9_method_106_code
def yX7_words : MethodName := ⟨RX7, "words", "()I"⟩
abbrev cX7_rowEnd : ByteArray := prog_9_method_107_code
def yX7_rowEnd : MethodName := ⟨RX7, "rowEnd", "(III)I"⟩
abbrev cX7_rows : ByteArray := prog_9_method_108_code
def yX7_rows : MethodName := ⟨RX7, "rows", "(I)I"⟩
abbrev cX7_tally : ByteArray := prog_9_method_109_code
def yX7_tally : MethodName := ⟨RX7, "tally", "(I)I"⟩
abbrev cX7_alike : ByteArray := prog_9_method_110_code
def yX7_alike : MethodName := ⟨RX7, "alike", "(II)I"⟩
abbrev cX7_sumOf : ByteArray := prog_9_method_111_code
def yX7_sumOf : MethodName := ⟨RX7, "sumOf", "(II)I"⟩
abbrev cX7_sum : ByteArray := prog_9_method_112_code
def yX7_sum : MethodName := ⟨RX7, "sum", "(II)I"⟩
abbrev cX7_signOf : ByteArray := prog_9_method_113_code
def yX7_signOf : MethodName := ⟨RX7, "signOf", "(I)I"⟩
abbrev cX7_differs : ByteArray := prog_9_method_114_code
def yX7_differs : MethodName := ⟨RX7, "differs", "(I)I"⟩
abbrev cX7_draws : ByteArray := prog_9_method_115_code
def yX7_draws : MethodName := ⟨RX7, "draws", "(I)I"⟩
abbrev cX7_drawnEdit : ByteArray := prog_9_method_116_code
def yX7_drawnEdit : MethodName := ⟨RX7, "drawnEdit", "()V"⟩
abbrev cX7_years : ByteArray := prog_9_method_117_code
def yX7_years : MethodName := ⟨RX7, "years", "(II)I"⟩
abbrev cX7_keep : ByteArray := prog_9_method_118_code
def yX7_keep : MethodName := ⟨RX7, "keep", "(I)Z"⟩
abbrev cX7_again : ByteArray := prog_9_method_119_code
def yX7_again : MethodName := ⟨RX7, "again", "(I)Z"⟩
abbrev cX7_count : ByteArray := prog_9_method_120_code
def yX7_count : MethodName := ⟨RX7, "count", "(I)I"⟩
abbrev cX7_row : ByteArray := prog_9_method_121_code
def yX7_row : MethodName := ⟨RX7, "row", "(I)J"⟩
def RJx145de : String := "java/io/Serializable"
def TJx145de : u_T := fun k => match k with
  | _ => ("", "", "", false)
def tyJx145de : Nat → FieldType := fun k => match k with
  | _ => .int
theorem tyJx145de_ok : ∀ k, k < 0 → parseFieldDescriptor (TJx145de k).2.2.1 = some (tyJx145de k) := by decide +kernel
def RJx8e188 : String := "java/lang/Cloneable"
def TJx8e188 : u_T := fun k => match k with
  | _ => ("", "", "", false)
def tyJx8e188 : Nat → FieldType := fun k => match k with
  | _ => .int
theorem tyJx8e188_ok : ∀ k, k < 0 → parseFieldDescriptor (TJx8e188 k).2.2.1 = some (tyJx8e188 k) := by decide +kernel
def RJ6 : String := "java/lang/Integer"
def TJ6 : u_T := fun k => match k with
  | _ => ("", "", "", false)
def tyJ6 : Nat → FieldType := fun k => match k with
  | _ => .int
theorem tyJ6_ok : ∀ k, k < 0 → parseFieldDescriptor (TJ6 k).2.2.1 = some (tyJ6 k) := by decide +kernel
abbrev cJ6_bitCount_0f7a4 : ByteArray := prog_13_method_49_code
def yJ6_bitCount_0f7a4 : MethodName := ⟨RJ6, "bitCount", "(I)I"⟩
def RJ9 : String := "java/lang/Math"
def TJ9 : u_T := fun k => match k with
  | _ => ("", "", "", false)
def tyJ9 : Nat → FieldType := fun k => match k with
  | _ => .int
theorem tyJ9_ok : ∀ k, k < 0 → parseFieldDescriptor (TJ9 k).2.2.1 = some (tyJ9 k) := by decide +kernel
abbrev cJ9_floorMod_7cf53 : ByteArray := prog_14_method_50_code
def yJ9_floorMod_7cf53 : MethodName := ⟨RJ9, "floorMod", "(II)I"⟩
abbrev cJ9_max_7cf53 : ByteArray := prog_14_method_65_code
def yJ9_max_7cf53 : MethodName := ⟨RJ9, "max", "(II)I"⟩
abbrev cJ9_min_7cf53 : ByteArray := prog_14_method_69_code
def yJ9_min_7cf53 : MethodName := ⟨RJ9, "min", "(II)I"⟩
def RJ0 : String := "java/lang/String"
def TJ0 : u_T := fun k => match k with
  | _ => ("", "", "", false)
def tyJ0 : Nat → FieldType := fun k => match k with
  | _ => .int
theorem tyJ0_ok : ∀ k, k < 0 → parseFieldDescriptor (TJ0 k).2.2.1 = some (tyJ0 k) := by decide +kernel
def RJ10 : String := "java/lang/System"
def TJ10 : u_T := fun k => match k with
  | _ => ("", "", "", false)
def tyJ10 : Nat → FieldType := fun k => match k with
  | _ => .int
theorem tyJ10_ok : ∀ k, k < 0 → parseFieldDescriptor (TJ10 k).2.2.1 = some (tyJ10 k) := by decide +kernel
def RJ7 : String := "java/util/Arrays"
def TJ7 : u_T := fun k => match k with
  | _ => ("", "", "", false)
def tyJ7 : Nat → FieldType := fun k => match k with
  | _ => .int
theorem tyJ7_ok : ∀ k, k < 0 → parseFieldDescriptor (TJ7 k).2.2.1 = some (tyJ7 k) := by decide +kernel
abbrev cJ7_fill_53178 : ByteArray := prog_19_method_103_code
def yJ7_fill_53178 : MethodName := ⟨RJ7, "fill", "([II)V"⟩
abbrev cJ7_copyOf_59c91 : ByteArray := prog_19_method_123_code
def yJ7_copyOf_59c91 : MethodName := ⟨RJ7, "copyOf", "([II)[I"⟩
def RL : String := "PieceBookLaw"
abbrev cL_store : ByteArray := method_3_code
def yL_store : MethodName := ⟨RL, "store", "(LPieceBook;II[J)I"⟩
abbrev cL_piece : ByteArray := method_4_code
def yL_piece : MethodName := ⟨RL, "piece", "(LPieceBook;II[J)I"⟩
abbrev cL_row : ByteArray := method_5_code
def yL_row : MethodName := ⟨RL, "row", "(LPieceBook;I[J)I"⟩
abbrev cL_law : ByteArray := code
def yL_law : MethodName := ⟨RL, "law", "([I)Z"⟩
abbrev vwCl : List vw_C := [(RX0, TX0, 1), (RX1, TX1, 4), (RX2, TX2, 6), (RX3, TX3, 3), (RX4, TX4, 3), (RX5, TX5, 2), (RX6, TX6, 14), (RX7, TX7, 34)]
