-- ===== PART A: goes FIRST, ahead of the names: the tables' words, and 'selects' of the private methods out of them =====
/-- a private method of a class that the tables say can be made, by its rows of tables_1 -/
def lw_okq (q : MethodName × Nat) : Prop := (q.1.cls ≠ "java/lang/invoke/MethodHandle" ∧ q.1.cls ≠ "java/lang/invoke/VarHandle") ∧ Cond.instantiable q.1.cls q.2 ∈ tables_1 ∧ Cond.privateMethod q.1 ∈ tables_1 ∧ Cond.instanceMethod q.1 ∈ tables_1
theorem lw_p0 : lw_okq (⟨"LadderMaker$Tape", "readPoly", "(LLadderMaker$Poly;)Z"⟩, 5) := ⟨⟨by decide +kernel, by decide +kernel⟩, List.mem_of_getElem? (i := 25) (by decide +kernel), List.mem_of_getElem? (i := 322) (by decide +kernel), List.mem_of_getElem? (i := 323) (by decide +kernel)⟩
theorem lw_p1 : lw_okq (⟨"LadderMaker$Tape", "pass", "(C)Z"⟩, 5) := ⟨⟨by decide +kernel, by decide +kernel⟩, List.mem_of_getElem? (i := 25) (by decide +kernel), List.mem_of_getElem? (i := 327) (by decide +kernel), List.mem_of_getElem? (i := 328) (by decide +kernel)⟩
theorem lw_p2 : lw_okq (⟨"LadderMaker$Tape", "look", "()I"⟩, 5) := ⟨⟨by decide +kernel, by decide +kernel⟩, List.mem_of_getElem? (i := 25) (by decide +kernel), List.mem_of_getElem? (i := 331) (by decide +kernel), List.mem_of_getElem? (i := 332) (by decide +kernel)⟩
theorem lw_p3 : lw_okq (⟨"LadderMaker$Tape", "readTerm", "(LLadderMaker$Poly;Z)Z"⟩, 5) := ⟨⟨by decide +kernel, by decide +kernel⟩, List.mem_of_getElem? (i := 25) (by decide +kernel), List.mem_of_getElem? (i := 335) (by decide +kernel), List.mem_of_getElem? (i := 336) (by decide +kernel)⟩
theorem lw_p4 : lw_okq (⟨"LadderMaker$Tape", "readNumber", "()Z"⟩, 5) := ⟨⟨by decide +kernel, by decide +kernel⟩, List.mem_of_getElem? (i := 25) (by decide +kernel), List.mem_of_getElem? (i := 339) (by decide +kernel), List.mem_of_getElem? (i := 340) (by decide +kernel)⟩
theorem lw_p5 : lw_okq (⟨"LadderMaker$Tape", "readParts", "(LLadderMaker$Ladder;)Z"⟩, 5) := ⟨⟨by decide +kernel, by decide +kernel⟩, List.mem_of_getElem? (i := 25) (by decide +kernel), List.mem_of_getElem? (i := 398) (by decide +kernel), List.mem_of_getElem? (i := 399) (by decide +kernel)⟩
theorem lw_p6 : lw_okq (⟨"LadderMaker$Tape", "readPart", "(LLadderMaker$Ladder;)Z"⟩, 5) := ⟨⟨by decide +kernel, by decide +kernel⟩, List.mem_of_getElem? (i := 25) (by decide +kernel), List.mem_of_getElem? (i := 402) (by decide +kernel), List.mem_of_getElem? (i := 403) (by decide +kernel)⟩
theorem lw_p7 : lw_okq (⟨"LadderMaker$Tape", "readFraction", "()Z"⟩, 5) := ⟨⟨by decide +kernel, by decide +kernel⟩, List.mem_of_getElem? (i := 25) (by decide +kernel), List.mem_of_getElem? (i := 409) (by decide +kernel), List.mem_of_getElem? (i := 410) (by decide +kernel)⟩
theorem lw_p8 : lw_okq (⟨"LadderMaker$Tape", "readEnd", "(LLadderMaker$Ladder;)Z"⟩, 5) := ⟨⟨by decide +kernel, by decide +kernel⟩, List.mem_of_getElem? (i := 25) (by decide +kernel), List.mem_of_getElem? (i := 417) (by decide +kernel), List.mem_of_getElem? (i := 418) (by decide +kernel)⟩
theorem lw_p9 : lw_okq (⟨"LadderMaker$Divider", "makePart", "(LLadderMaker$Ladder;)I"⟩, 4) := ⟨⟨by decide +kernel, by decide +kernel⟩, List.mem_of_getElem? (i := 50) (by decide +kernel), List.mem_of_getElem? (i := 493) (by decide +kernel), List.mem_of_getElem? (i := 494) (by decide +kernel)⟩
theorem lw_p10 : lw_okq (⟨"LadderMaker$Divider", "reach", "(LLadderMaker$Poly;)I"⟩, 4) := ⟨⟨by decide +kernel, by decide +kernel⟩, List.mem_of_getElem? (i := 50) (by decide +kernel), List.mem_of_getElem? (i := 497) (by decide +kernel), List.mem_of_getElem? (i := 498) (by decide +kernel)⟩
theorem lw_p11 : lw_okq (⟨"LadderMaker$Divider", "changePlaces", "()V"⟩, 4) := ⟨⟨by decide +kernel, by decide +kernel⟩, List.mem_of_getElem? (i := 50) (by decide +kernel), List.mem_of_getElem? (i := 503) (by decide +kernel), List.mem_of_getElem? (i := 504) (by decide +kernel)⟩
theorem lw_p12 : lw_okq (⟨"LadderMaker$Divider", "leader", "(LLadderMaker$Poly;)J"⟩, 4) := ⟨⟨by decide +kernel, by decide +kernel⟩, List.mem_of_getElem? (i := 50) (by decide +kernel), List.mem_of_getElem? (i := 507) (by decide +kernel), List.mem_of_getElem? (i := 508) (by decide +kernel)⟩
theorem lw_p13 : lw_okq (⟨"LadderMaker$Divider", "addPartOf", "(IJLLadderMaker$Ladder;)V"⟩, 4) := ⟨⟨by decide +kernel, by decide +kernel⟩, List.mem_of_getElem? (i := 50) (by decide +kernel), List.mem_of_getElem? (i := 517) (by decide +kernel), List.mem_of_getElem? (i := 518) (by decide +kernel)⟩
theorem lw_p14 : lw_okq (⟨"LadderMaker$Ratio", "takeIn", "(IZJ)Z"⟩, 2) := ⟨⟨by decide +kernel, by decide +kernel⟩, List.mem_of_getElem? (i := 128) (by decide +kernel), List.mem_of_getElem? (i := 619) (by decide +kernel), List.mem_of_getElem? (i := 620) (by decide +kernel)⟩
theorem lw_p15 : lw_okq (⟨"LadderMaker$Ladder", "canBeWidened", "()Z"⟩, 6) := ⟨⟨by decide +kernel, by decide +kernel⟩, List.mem_of_getElem? (i := 148) (by decide +kernel), List.mem_of_getElem? (i := 660) (by decide +kernel), List.mem_of_getElem? (i := 661) (by decide +kernel)⟩
def lw_privs_1 : List (MethodName × Nat) := [(⟨"LadderMaker$Tape", "readPoly", "(LLadderMaker$Poly;)Z"⟩, 5), (⟨"LadderMaker$Tape", "pass", "(C)Z"⟩, 5), (⟨"LadderMaker$Tape", "look", "()I"⟩, 5), (⟨"LadderMaker$Tape", "readTerm", "(LLadderMaker$Poly;Z)Z"⟩, 5), (⟨"LadderMaker$Tape", "readNumber", "()Z"⟩, 5), (⟨"LadderMaker$Tape", "readParts", "(LLadderMaker$Ladder;)Z"⟩, 5), (⟨"LadderMaker$Tape", "readPart", "(LLadderMaker$Ladder;)Z"⟩, 5), (⟨"LadderMaker$Tape", "readFraction", "()Z"⟩, 5), (⟨"LadderMaker$Tape", "readEnd", "(LLadderMaker$Ladder;)Z"⟩, 5), (⟨"LadderMaker$Divider", "makePart", "(LLadderMaker$Ladder;)I"⟩, 4), (⟨"LadderMaker$Divider", "reach", "(LLadderMaker$Poly;)I"⟩, 4), (⟨"LadderMaker$Divider", "changePlaces", "()V"⟩, 4), (⟨"LadderMaker$Divider", "leader", "(LLadderMaker$Poly;)J"⟩, 4), (⟨"LadderMaker$Divider", "addPartOf", "(IJLLadderMaker$Ladder;)V"⟩, 4), (⟨"LadderMaker$Ratio", "takeIn", "(IZJ)Z"⟩, 2), (⟨"LadderMaker$Ladder", "canBeWidened", "()Z"⟩, 6)]
theorem lw_r1 : ∀ q ∈ lw_privs_1, lw_okq q := List.forall_mem_cons.mpr ⟨lw_p0, List.forall_mem_cons.mpr ⟨lw_p1, List.forall_mem_cons.mpr ⟨lw_p2, List.forall_mem_cons.mpr ⟨lw_p3, List.forall_mem_cons.mpr ⟨lw_p4, List.forall_mem_cons.mpr ⟨lw_p5, List.forall_mem_cons.mpr ⟨lw_p6, List.forall_mem_cons.mpr ⟨lw_p7, List.forall_mem_cons.mpr ⟨lw_p8, List.forall_mem_cons.mpr ⟨lw_p9, List.forall_mem_cons.mpr ⟨lw_p10, List.forall_mem_cons.mpr ⟨lw_p11, List.forall_mem_cons.mpr ⟨lw_p12, List.forall_mem_cons.mpr ⟨lw_p13, List.forall_mem_cons.mpr ⟨lw_p14, List.forall_mem_cons.mpr ⟨lw_p15, fun _ h => absurd h List.not_mem_nil⟩⟩⟩⟩⟩⟩⟩⟩⟩⟩⟩⟩⟩⟩⟩⟩
theorem lw_p16 : lw_okq (⟨"LadderMaker$Ladder", "workOut", "(JZ)J"⟩, 6) := ⟨⟨by decide +kernel, by decide +kernel⟩, List.mem_of_getElem? (i := 148) (by decide +kernel), List.mem_of_getElem? (i := 731) (by decide +kernel), List.mem_of_getElem? (i := 732) (by decide +kernel)⟩
theorem lw_p17 : lw_okq (⟨"LadderMaker$Ladder", "worthOfEnd", "()J"⟩, 6) := ⟨⟨by decide +kernel, by decide +kernel⟩, List.mem_of_getElem? (i := 148) (by decide +kernel), List.mem_of_getElem? (i := 735) (by decide +kernel), List.mem_of_getElem? (i := 736) (by decide +kernel)⟩
theorem lw_p18 : lw_okq (⟨"LadderMaker$Ladder", "reactanceOfPart", "(IJ)J"⟩, 6) := ⟨⟨by decide +kernel, by decide +kernel⟩, List.mem_of_getElem? (i := 148) (by decide +kernel), List.mem_of_getElem? (i := 740) (by decide +kernel), List.mem_of_getElem? (i := 741) (by decide +kernel)⟩
theorem lw_p19 : lw_okq (⟨"LadderMaker$Ladder", "worthOfPart", "(IJ)J"⟩, 6) := ⟨⟨by decide +kernel, by decide +kernel⟩, List.mem_of_getElem? (i := 148) (by decide +kernel), List.mem_of_getElem? (i := 745) (by decide +kernel), List.mem_of_getElem? (i := 746) (by decide +kernel)⟩
theorem lw_p20 : lw_okq (⟨"LadderMaker$Bins", "makeRoomFor", "(J)I"⟩, 4) := ⟨⟨by decide +kernel, by decide +kernel⟩, List.mem_of_getElem? (i := 192) (by decide +kernel), List.mem_of_getElem? (i := 792) (by decide +kernel), List.mem_of_getElem? (i := 793) (by decide +kernel)⟩
theorem lw_p21 : lw_okq (⟨"LadderMaker$Bins", "setBin", "(IJII)V"⟩, 4) := ⟨⟨by decide +kernel, by decide +kernel⟩, List.mem_of_getElem? (i := 192) (by decide +kernel), List.mem_of_getElem? (i := 802) (by decide +kernel), List.mem_of_getElem? (i := 803) (by decide +kernel)⟩
theorem lw_p22 : lw_okq (⟨"LadderMaker$Wants", "isAhead", "(IJII)Z"⟩, 6) := ⟨⟨by decide +kernel, by decide +kernel⟩, List.mem_of_getElem? (i := 98) (by decide +kernel), List.mem_of_getElem? (i := 836) (by decide +kernel), List.mem_of_getElem? (i := 837) (by decide +kernel)⟩
theorem lw_p23 : lw_okq (⟨"LadderMaker$Wants", "take", "(ILLadderMaker$Wants;I)V"⟩, 6) := ⟨⟨by decide +kernel, by decide +kernel⟩, List.mem_of_getElem? (i := 98) (by decide +kernel), List.mem_of_getElem? (i := 841) (by decide +kernel), List.mem_of_getElem? (i := 842) (by decide +kernel)⟩
theorem lw_p24 : lw_okq (⟨"LadderMaker$Workshop", "greatestBelow", "(IJ)J"⟩, 7) := ⟨⟨by decide +kernel, by decide +kernel⟩, List.mem_of_getElem? (i := 86) (by decide +kernel), List.mem_of_getElem? (i := 877) (by decide +kernel), List.mem_of_getElem? (i := 878) (by decide +kernel)⟩
theorem lw_p25 : lw_okq (⟨"LadderMaker", "findHolder", "(I)LLadderMaker$Holder;"⟩, 6) := ⟨⟨by decide +kernel, by decide +kernel⟩, List.mem_of_getElem? (i := 17) (by decide +kernel), List.mem_of_getElem? (i := 890) (by decide +kernel), List.mem_of_getElem? (i := 891) (by decide +kernel)⟩
theorem lw_p26 : lw_okq (⟨"LadderMakerModel", "poly", "(II)V"⟩, 74) := ⟨⟨by decide +kernel, by decide +kernel⟩, List.mem_of_getElem? (i := 988) (by decide +kernel), List.mem_of_getElem? (i := 1233) (by decide +kernel), List.mem_of_getElem? (i := 1234) (by decide +kernel)⟩
theorem lw_p27 : lw_okq (⟨"LadderMakerModel", "here", "(I)I"⟩, 74) := ⟨⟨by decide +kernel, by decide +kernel⟩, List.mem_of_getElem? (i := 988) (by decide +kernel), List.mem_of_getElem? (i := 1237) (by decide +kernel), List.mem_of_getElem? (i := 1238) (by decide +kernel)⟩
theorem lw_p28 : lw_okq (⟨"LadderMakerModel", "term", "(III)V"⟩, 74) := ⟨⟨by decide +kernel, by decide +kernel⟩, List.mem_of_getElem? (i := 988) (by decide +kernel), List.mem_of_getElem? (i := 1241) (by decide +kernel), List.mem_of_getElem? (i := 1242) (by decide +kernel)⟩
theorem lw_p29 : lw_okq (⟨"LadderMakerModel", "number", "(I)I"⟩, 74) := ⟨⟨by decide +kernel, by decide +kernel⟩, List.mem_of_getElem? (i := 988) (by decide +kernel), List.mem_of_getElem? (i := 1245) (by decide +kernel), List.mem_of_getElem? (i := 1246) (by decide +kernel)⟩
theorem lw_p30 : lw_okq (⟨"LadderMakerModel", "fault", "()I"⟩, 74) := ⟨⟨by decide +kernel, by decide +kernel⟩, List.mem_of_getElem? (i := 988) (by decide +kernel), List.mem_of_getElem? (i := 1251) (by decide +kernel), List.mem_of_getElem? (i := 1252) (by decide +kernel)⟩
theorem lw_p31 : lw_okq (⟨"LadderMakerModel", "isDigit", "(I)Z"⟩, 74) := ⟨⟨by decide +kernel, by decide +kernel⟩, List.mem_of_getElem? (i := 988) (by decide +kernel), List.mem_of_getElem? (i := 1255) (by decide +kernel), List.mem_of_getElem? (i := 1256) (by decide +kernel)⟩
def lw_privs_2 : List (MethodName × Nat) := [(⟨"LadderMaker$Ladder", "workOut", "(JZ)J"⟩, 6), (⟨"LadderMaker$Ladder", "worthOfEnd", "()J"⟩, 6), (⟨"LadderMaker$Ladder", "reactanceOfPart", "(IJ)J"⟩, 6), (⟨"LadderMaker$Ladder", "worthOfPart", "(IJ)J"⟩, 6), (⟨"LadderMaker$Bins", "makeRoomFor", "(J)I"⟩, 4), (⟨"LadderMaker$Bins", "setBin", "(IJII)V"⟩, 4), (⟨"LadderMaker$Wants", "isAhead", "(IJII)Z"⟩, 6), (⟨"LadderMaker$Wants", "take", "(ILLadderMaker$Wants;I)V"⟩, 6), (⟨"LadderMaker$Workshop", "greatestBelow", "(IJ)J"⟩, 7), (⟨"LadderMaker", "findHolder", "(I)LLadderMaker$Holder;"⟩, 6), (⟨"LadderMakerModel", "poly", "(II)V"⟩, 74), (⟨"LadderMakerModel", "here", "(I)I"⟩, 74), (⟨"LadderMakerModel", "term", "(III)V"⟩, 74), (⟨"LadderMakerModel", "number", "(I)I"⟩, 74), (⟨"LadderMakerModel", "fault", "()I"⟩, 74), (⟨"LadderMakerModel", "isDigit", "(I)Z"⟩, 74)]
theorem lw_r2 : ∀ q ∈ lw_privs_2, lw_okq q := List.forall_mem_cons.mpr ⟨lw_p16, List.forall_mem_cons.mpr ⟨lw_p17, List.forall_mem_cons.mpr ⟨lw_p18, List.forall_mem_cons.mpr ⟨lw_p19, List.forall_mem_cons.mpr ⟨lw_p20, List.forall_mem_cons.mpr ⟨lw_p21, List.forall_mem_cons.mpr ⟨lw_p22, List.forall_mem_cons.mpr ⟨lw_p23, List.forall_mem_cons.mpr ⟨lw_p24, List.forall_mem_cons.mpr ⟨lw_p25, List.forall_mem_cons.mpr ⟨lw_p26, List.forall_mem_cons.mpr ⟨lw_p27, List.forall_mem_cons.mpr ⟨lw_p28, List.forall_mem_cons.mpr ⟨lw_p29, List.forall_mem_cons.mpr ⟨lw_p30, List.forall_mem_cons.mpr ⟨lw_p31, fun _ h => absurd h List.not_mem_nil⟩⟩⟩⟩⟩⟩⟩⟩⟩⟩⟩⟩⟩⟩⟩⟩
theorem lw_p32 : lw_okq (⟨"LadderMakerModel", "isNothing", "(I)Z"⟩, 74) := ⟨⟨by decide +kernel, by decide +kernel⟩, List.mem_of_getElem? (i := 988) (by decide +kernel), List.mem_of_getElem? (i := 1260) (by decide +kernel), List.mem_of_getElem? (i := 1261) (by decide +kernel)⟩
theorem lw_p33 : lw_okq (⟨"LadderMakerModel", "readPart", "(II)V"⟩, 74) := ⟨⟨by decide +kernel, by decide +kernel⟩, List.mem_of_getElem? (i := 988) (by decide +kernel), List.mem_of_getElem? (i := 1268) (by decide +kernel), List.mem_of_getElem? (i := 1269) (by decide +kernel)⟩
theorem lw_p34 : lw_okq (⟨"LadderMakerModel", "fraction", "(I)V"⟩, 74) := ⟨⟨by decide +kernel, by decide +kernel⟩, List.mem_of_getElem? (i := 988) (by decide +kernel), List.mem_of_getElem? (i := 1275) (by decide +kernel), List.mem_of_getElem? (i := 1276) (by decide +kernel)⟩
theorem lw_p35 : lw_okq (⟨"LadderMakerModel", "is", "(JJ)V"⟩, 74) := ⟨⟨by decide +kernel, by decide +kernel⟩, List.mem_of_getElem? (i := 988) (by decide +kernel), List.mem_of_getElem? (i := 1279) (by decide +kernel), List.mem_of_getElem? (i := 1280) (by decide +kernel)⟩
theorem lw_p36 : lw_okq (⟨"LadderMakerModel", "lays", "(IIIJJ)V"⟩, 74) := ⟨⟨by decide +kernel, by decide +kernel⟩, List.mem_of_getElem? (i := 988) (by decide +kernel), List.mem_of_getElem? (i := 1289) (by decide +kernel), List.mem_of_getElem? (i := 1290) (by decide +kernel)⟩
theorem lw_p37 : lw_okq (⟨"LadderMakerModel", "readEnd", "(II)V"⟩, 74) := ⟨⟨by decide +kernel, by decide +kernel⟩, List.mem_of_getElem? (i := 988) (by decide +kernel), List.mem_of_getElem? (i := 1293) (by decide +kernel), List.mem_of_getElem? (i := 1294) (by decide +kernel)⟩
theorem lw_p38 : lw_okq (⟨"LadderMakerModel", "isRatio", "(I)Z"⟩, 74) := ⟨⟨by decide +kernel, by decide +kernel⟩, List.mem_of_getElem? (i := 988) (by decide +kernel), List.mem_of_getElem? (i := 1301) (by decide +kernel), List.mem_of_getElem? (i := 1302) (by decide +kernel)⟩
theorem lw_p39 : lw_okq (⟨"LadderMakerModel", "high", "(I)I"⟩, 74) := ⟨⟨by decide +kernel, by decide +kernel⟩, List.mem_of_getElem? (i := 988) (by decide +kernel), List.mem_of_getElem? (i := 1306) (by decide +kernel), List.mem_of_getElem? (i := 1307) (by decide +kernel)⟩
theorem lw_p40 : lw_okq (⟨"LadderMakerModel", "lowOf", "(I)I"⟩, 74) := ⟨⟨by decide +kernel, by decide +kernel⟩, List.mem_of_getElem? (i := 988) (by decide +kernel), List.mem_of_getElem? (i := 1310) (by decide +kernel), List.mem_of_getElem? (i := 1311) (by decide +kernel)⟩
theorem lw_p41 : lw_okq (⟨"LadderMakerModel", "product", "(III)V"⟩, 74) := ⟨⟨by decide +kernel, by decide +kernel⟩, List.mem_of_getElem? (i := 988) (by decide +kernel), List.mem_of_getElem? (i := 1324) (by decide +kernel), List.mem_of_getElem? (i := 1325) (by decide +kernel)⟩
theorem lw_p42 : lw_okq (⟨"LadderMakerModel", "times", "(JJJJ)V"⟩, 74) := ⟨⟨by decide +kernel, by decide +kernel⟩, List.mem_of_getElem? (i := 988) (by decide +kernel), List.mem_of_getElem? (i := 1328) (by decide +kernel), List.mem_of_getElem? (i := 1329) (by decide +kernel)⟩
theorem lw_p43 : lw_okq (⟨"LadderMakerModel", "plus", "(JJJJ)V"⟩, 74) := ⟨⟨by decide +kernel, by decide +kernel⟩, List.mem_of_getElem? (i := 988) (by decide +kernel), List.mem_of_getElem? (i := 1332) (by decide +kernel), List.mem_of_getElem? (i := 1333) (by decide +kernel)⟩
theorem lw_p44 : lw_okq (⟨"LadderMakerModel", "loads", "(I)V"⟩, 74) := ⟨⟨by decide +kernel, by decide +kernel⟩, List.mem_of_getElem? (i := 988) (by decide +kernel), List.mem_of_getElem? (i := 1340) (by decide +kernel), List.mem_of_getElem? (i := 1341) (by decide +kernel)⟩
theorem lw_p45 : lw_okq (⟨"LadderMakerModel", "changes", "()V"⟩, 74) := ⟨⟨by decide +kernel, by decide +kernel⟩, List.mem_of_getElem? (i := 988) (by decide +kernel), List.mem_of_getElem? (i := 1347) (by decide +kernel), List.mem_of_getElem? (i := 1348) (by decide +kernel)⟩
theorem lw_p46 : lw_okq (⟨"LadderMakerModel", "over", "(JJJJ)V"⟩, 74) := ⟨⟨by decide +kernel, by decide +kernel⟩, List.mem_of_getElem? (i := 988) (by decide +kernel), List.mem_of_getElem? (i := 1351) (by decide +kernel), List.mem_of_getElem? (i := 1352) (by decide +kernel)⟩
theorem lw_p47 : lw_okq (⟨"LadderMakerModel", "lessens", "(JJI)V"⟩, 74) := ⟨⟨by decide +kernel, by decide +kernel⟩, List.mem_of_getElem? (i := 988) (by decide +kernel), List.mem_of_getElem? (i := 1355) (by decide +kernel), List.mem_of_getElem? (i := 1356) (by decide +kernel)⟩
def lw_privs_3 : List (MethodName × Nat) := [(⟨"LadderMakerModel", "isNothing", "(I)Z"⟩, 74), (⟨"LadderMakerModel", "readPart", "(II)V"⟩, 74), (⟨"LadderMakerModel", "fraction", "(I)V"⟩, 74), (⟨"LadderMakerModel", "is", "(JJ)V"⟩, 74), (⟨"LadderMakerModel", "lays", "(IIIJJ)V"⟩, 74), (⟨"LadderMakerModel", "readEnd", "(II)V"⟩, 74), (⟨"LadderMakerModel", "isRatio", "(I)Z"⟩, 74), (⟨"LadderMakerModel", "high", "(I)I"⟩, 74), (⟨"LadderMakerModel", "lowOf", "(I)I"⟩, 74), (⟨"LadderMakerModel", "product", "(III)V"⟩, 74), (⟨"LadderMakerModel", "times", "(JJJJ)V"⟩, 74), (⟨"LadderMakerModel", "plus", "(JJJJ)V"⟩, 74), (⟨"LadderMakerModel", "loads", "(I)V"⟩, 74), (⟨"LadderMakerModel", "changes", "()V"⟩, 74), (⟨"LadderMakerModel", "over", "(JJJJ)V"⟩, 74), (⟨"LadderMakerModel", "lessens", "(JJI)V"⟩, 74)]
theorem lw_r3 : ∀ q ∈ lw_privs_3, lw_okq q := List.forall_mem_cons.mpr ⟨lw_p32, List.forall_mem_cons.mpr ⟨lw_p33, List.forall_mem_cons.mpr ⟨lw_p34, List.forall_mem_cons.mpr ⟨lw_p35, List.forall_mem_cons.mpr ⟨lw_p36, List.forall_mem_cons.mpr ⟨lw_p37, List.forall_mem_cons.mpr ⟨lw_p38, List.forall_mem_cons.mpr ⟨lw_p39, List.forall_mem_cons.mpr ⟨lw_p40, List.forall_mem_cons.mpr ⟨lw_p41, List.forall_mem_cons.mpr ⟨lw_p42, List.forall_mem_cons.mpr ⟨lw_p43, List.forall_mem_cons.mpr ⟨lw_p44, List.forall_mem_cons.mpr ⟨lw_p45, List.forall_mem_cons.mpr ⟨lw_p46, List.forall_mem_cons.mpr ⟨lw_p47, fun _ h => absurd h List.not_mem_nil⟩⟩⟩⟩⟩⟩⟩⟩⟩⟩⟩⟩⟩⟩⟩⟩
theorem lw_p48 : lw_okq (⟨"LadderMakerModel", "minus", "(JJJJ)V"⟩, 74) := ⟨⟨by decide +kernel, by decide +kernel⟩, List.mem_of_getElem? (i := 988) (by decide +kernel), List.mem_of_getElem? (i := 1359) (by decide +kernel), List.mem_of_getElem? (i := 1360) (by decide +kernel)⟩
theorem lw_p49 : lw_okq (⟨"LadderMakerModel", "keeps", "()I"⟩, 74) := ⟨⟨by decide +kernel, by decide +kernel⟩, List.mem_of_getElem? (i := 988) (by decide +kernel), List.mem_of_getElem? (i := 1367) (by decide +kernel), List.mem_of_getElem? (i := 1368) (by decide +kernel)⟩
theorem lw_p50 : lw_okq (⟨"LadderMakerModel", "shifts", "([J[JJJ)V"⟩, 74) := ⟨⟨by decide +kernel, by decide +kernel⟩, List.mem_of_getElem? (i := 988) (by decide +kernel), List.mem_of_getElem? (i := 1383) (by decide +kernel), List.mem_of_getElem? (i := 1384) (by decide +kernel)⟩
theorem lw_p51 : lw_okq (⟨"LadderMakerModel", "isLadder", "(I)Z"⟩, 74) := ⟨⟨by decide +kernel, by decide +kernel⟩, List.mem_of_getElem? (i := 988) (by decide +kernel), List.mem_of_getElem? (i := 1391) (by decide +kernel), List.mem_of_getElem? (i := 1392) (by decide +kernel)⟩
theorem lw_p52 : lw_okq (⟨"LadderMakerModel", "isPart", "(II)Z"⟩, 74) := ⟨⟨by decide +kernel, by decide +kernel⟩, List.mem_of_getElem? (i := 988) (by decide +kernel), List.mem_of_getElem? (i := 1403) (by decide +kernel), List.mem_of_getElem? (i := 1404) (by decide +kernel)⟩
theorem lw_p53 : lw_okq (⟨"LadderMakerModel", "goesOut", "(I)V"⟩, 74) := ⟨⟨by decide +kernel, by decide +kernel⟩, List.mem_of_getElem? (i := 988) (by decide +kernel), List.mem_of_getElem? (i := 1415) (by decide +kernel), List.mem_of_getElem? (i := 1416) (by decide +kernel)⟩
theorem lw_p54 : lw_okq (⟨"LadderMakerModel", "adds", "([J[J[J[JJJI)V"⟩, 74) := ⟨⟨by decide +kernel, by decide +kernel⟩, List.mem_of_getElem? (i := 988) (by decide +kernel), List.mem_of_getElem? (i := 1419) (by decide +kernel), List.mem_of_getElem? (i := 1420) (by decide +kernel)⟩
theorem lw_p55 : lw_okq (⟨"LadderMakerModel", "grows", "([J[JJJI)V"⟩, 74) := ⟨⟨by decide +kernel, by decide +kernel⟩, List.mem_of_getElem? (i := 988) (by decide +kernel), List.mem_of_getElem? (i := 1423) (by decide +kernel), List.mem_of_getElem? (i := 1424) (by decide +kernel)⟩
theorem lw_p56 : lw_okq (⟨"LadderMakerModel", "comes", "(II)I"⟩, 74) := ⟨⟨by decide +kernel, by decide +kernel⟩, List.mem_of_getElem? (i := 988) (by decide +kernel), List.mem_of_getElem? (i := 1436) (by decide +kernel), List.mem_of_getElem? (i := 1437) (by decide +kernel)⟩
theorem lw_p57 : lw_okq (⟨"LadderMakerModel", "widened", "(I)I"⟩, 74) := ⟨⟨by decide +kernel, by decide +kernel⟩, List.mem_of_getElem? (i := 988) (by decide +kernel), List.mem_of_getElem? (i := 1444) (by decide +kernel), List.mem_of_getElem? (i := 1445) (by decide +kernel)⟩
theorem lw_p58 : lw_okq (⟨"LadderMakerModel", "nearestTo", "(IJJ)I"⟩, 74) := ⟨⟨by decide +kernel, by decide +kernel⟩, List.mem_of_getElem? (i := 988) (by decide +kernel), List.mem_of_getElem? (i := 1460) (by decide +kernel), List.mem_of_getElem? (i := 1461) (by decide +kernel)⟩
theorem lw_p59 : lw_okq (⟨"LadderMakerModel", "far", "(IJJ)J"⟩, 74) := ⟨⟨by decide +kernel, by decide +kernel⟩, List.mem_of_getElem? (i := 988) (by decide +kernel), List.mem_of_getElem? (i := 1464) (by decide +kernel), List.mem_of_getElem? (i := 1465) (by decide +kernel)⟩
theorem lw_p60 : lw_okq (⟨"LadderMakerModel", "begins", "(I)V"⟩, 74) := ⟨⟨by decide +kernel, by decide +kernel⟩, List.mem_of_getElem? (i := 988) (by decide +kernel), List.mem_of_getElem? (i := 1476) (by decide +kernel), List.mem_of_getElem? (i := 1477) (by decide +kernel)⟩
theorem lw_p61 : lw_okq (⟨"LadderMakerModel", "goesOn", "(IJJZ)V"⟩, 74) := ⟨⟨by decide +kernel, by decide +kernel⟩, List.mem_of_getElem? (i := 988) (by decide +kernel), List.mem_of_getElem? (i := 1480) (by decide +kernel), List.mem_of_getElem? (i := 1481) (by decide +kernel)⟩
theorem lw_p62 : lw_okq (⟨"LadderMakerModel", "becomes", "()V"⟩, 74) := ⟨⟨by decide +kernel, by decide +kernel⟩, List.mem_of_getElem? (i := 988) (by decide +kernel), List.mem_of_getElem? (i := 1484) (by decide +kernel), List.mem_of_getElem? (i := 1485) (by decide +kernel)⟩
theorem lw_p63 : lw_okq (⟨"LadderMakerModel", "reacts", "(I)Z"⟩, 74) := ⟨⟨by decide +kernel, by decide +kernel⟩, List.mem_of_getElem? (i := 988) (by decide +kernel), List.mem_of_getElem? (i := 1492) (by decide +kernel), List.mem_of_getElem? (i := 1493) (by decide +kernel)⟩
def lw_privs_4 : List (MethodName × Nat) := [(⟨"LadderMakerModel", "minus", "(JJJJ)V"⟩, 74), (⟨"LadderMakerModel", "keeps", "()I"⟩, 74), (⟨"LadderMakerModel", "shifts", "([J[JJJ)V"⟩, 74), (⟨"LadderMakerModel", "isLadder", "(I)Z"⟩, 74), (⟨"LadderMakerModel", "isPart", "(II)Z"⟩, 74), (⟨"LadderMakerModel", "goesOut", "(I)V"⟩, 74), (⟨"LadderMakerModel", "adds", "([J[J[J[JJJI)V"⟩, 74), (⟨"LadderMakerModel", "grows", "([J[JJJI)V"⟩, 74), (⟨"LadderMakerModel", "comes", "(II)I"⟩, 74), (⟨"LadderMakerModel", "widened", "(I)I"⟩, 74), (⟨"LadderMakerModel", "nearestTo", "(IJJ)I"⟩, 74), (⟨"LadderMakerModel", "far", "(IJJ)J"⟩, 74), (⟨"LadderMakerModel", "begins", "(I)V"⟩, 74), (⟨"LadderMakerModel", "goesOn", "(IJJZ)V"⟩, 74), (⟨"LadderMakerModel", "becomes", "()V"⟩, 74), (⟨"LadderMakerModel", "reacts", "(I)Z"⟩, 74)]
theorem lw_r4 : ∀ q ∈ lw_privs_4, lw_okq q := List.forall_mem_cons.mpr ⟨lw_p48, List.forall_mem_cons.mpr ⟨lw_p49, List.forall_mem_cons.mpr ⟨lw_p50, List.forall_mem_cons.mpr ⟨lw_p51, List.forall_mem_cons.mpr ⟨lw_p52, List.forall_mem_cons.mpr ⟨lw_p53, List.forall_mem_cons.mpr ⟨lw_p54, List.forall_mem_cons.mpr ⟨lw_p55, List.forall_mem_cons.mpr ⟨lw_p56, List.forall_mem_cons.mpr ⟨lw_p57, List.forall_mem_cons.mpr ⟨lw_p58, List.forall_mem_cons.mpr ⟨lw_p59, List.forall_mem_cons.mpr ⟨lw_p60, List.forall_mem_cons.mpr ⟨lw_p61, List.forall_mem_cons.mpr ⟨lw_p62, List.forall_mem_cons.mpr ⟨lw_p63, fun _ h => absurd h List.not_mem_nil⟩⟩⟩⟩⟩⟩⟩⟩⟩⟩⟩⟩⟩⟩⟩⟩
theorem lw_p64 : lw_okq (⟨"LadderMakerModel", "reactsAt", "(IJJ)V"⟩, 74) := ⟨⟨by decide +kernel, by decide +kernel⟩, List.mem_of_getElem? (i := 988) (by decide +kernel), List.mem_of_getElem? (i := 1496) (by decide +kernel), List.mem_of_getElem? (i := 1497) (by decide +kernel)⟩
theorem lw_p65 : lw_okq (⟨"LadderMakerModel", "binOf", "(IJJ)I"⟩, 74) := ⟨⟨by decide +kernel, by decide +kernel⟩, List.mem_of_getElem? (i := 988) (by decide +kernel), List.mem_of_getElem? (i := 1509) (by decide +kernel), List.mem_of_getElem? (i := 1510) (by decide +kernel)⟩
theorem lw_p66 : lw_okq (⟨"LadderMakerModel", "moves", "(II)V"⟩, 74) := ⟨⟨by decide +kernel, by decide +kernel⟩, List.mem_of_getElem? (i := 988) (by decide +kernel), List.mem_of_getElem? (i := 1516) (by decide +kernel), List.mem_of_getElem? (i := 1517) (by decide +kernel)⟩
theorem lw_p67 : lw_okq (⟨"LadderMakerModel", "lacks", "(I)I"⟩, 74) := ⟨⟨by decide +kernel, by decide +kernel⟩, List.mem_of_getElem? (i := 988) (by decide +kernel), List.mem_of_getElem? (i := 1533) (by decide +kernel), List.mem_of_getElem? (i := 1534) (by decide +kernel)⟩
theorem lw_p68 : lw_okq (⟨"LadderMakerModel", "wanted", "(IJJI)V"⟩, 74) := ⟨⟨by decide +kernel, by decide +kernel⟩, List.mem_of_getElem? (i := 988) (by decide +kernel), List.mem_of_getElem? (i := 1537) (by decide +kernel), List.mem_of_getElem? (i := 1538) (by decide +kernel)⟩
theorem lw_p69 : lw_okq (⟨"LadderMakerModel", "isAhead", "(IIJJI)Z"⟩, 74) := ⟨⟨by decide +kernel, by decide +kernel⟩, List.mem_of_getElem? (i := 988) (by decide +kernel), List.mem_of_getElem? (i := 1541) (by decide +kernel), List.mem_of_getElem? (i := 1542) (by decide +kernel)⟩
theorem lw_p70 : lw_okq (⟨"LadderMakerModel", "wantGoes", "(II)V"⟩, 74) := ⟨⟨by decide +kernel, by decide +kernel⟩, List.mem_of_getElem? (i := 988) (by decide +kernel), List.mem_of_getElem? (i := 1545) (by decide +kernel), List.mem_of_getElem? (i := 1546) (by decide +kernel)⟩
theorem lw_p71 : lw_okq (⟨"LadderMakerModel", "gathers", "(I)I"⟩, 74) := ⟨⟨by decide +kernel, by decide +kernel⟩, List.mem_of_getElem? (i := 988) (by decide +kernel), List.mem_of_getElem? (i := 1566) (by decide +kernel), List.mem_of_getElem? (i := 1567) (by decide +kernel)⟩
theorem lw_p72 : lw_okq (⟨"LadderMakerModel", "bar", "(I)I"⟩, 74) := ⟨⟨by decide +kernel, by decide +kernel⟩, List.mem_of_getElem? (i := 988) (by decide +kernel), List.mem_of_getElem? (i := 1594) (by decide +kernel), List.mem_of_getElem? (i := 1595) (by decide +kernel)⟩
def lw_privs_5 : List (MethodName × Nat) := [(⟨"LadderMakerModel", "reactsAt", "(IJJ)V"⟩, 74), (⟨"LadderMakerModel", "binOf", "(IJJ)I"⟩, 74), (⟨"LadderMakerModel", "moves", "(II)V"⟩, 74), (⟨"LadderMakerModel", "lacks", "(I)I"⟩, 74), (⟨"LadderMakerModel", "wanted", "(IJJI)V"⟩, 74), (⟨"LadderMakerModel", "isAhead", "(IIJJI)Z"⟩, 74), (⟨"LadderMakerModel", "wantGoes", "(II)V"⟩, 74), (⟨"LadderMakerModel", "gathers", "(I)I"⟩, 74), (⟨"LadderMakerModel", "bar", "(I)I"⟩, 74)]
theorem lw_r5 : ∀ q ∈ lw_privs_5, lw_okq q := List.forall_mem_cons.mpr ⟨lw_p64, List.forall_mem_cons.mpr ⟨lw_p65, List.forall_mem_cons.mpr ⟨lw_p66, List.forall_mem_cons.mpr ⟨lw_p67, List.forall_mem_cons.mpr ⟨lw_p68, List.forall_mem_cons.mpr ⟨lw_p69, List.forall_mem_cons.mpr ⟨lw_p70, List.forall_mem_cons.mpr ⟨lw_p71, List.forall_mem_cons.mpr ⟨lw_p72, fun _ h => absurd h List.not_mem_nil⟩⟩⟩⟩⟩⟩⟩⟩⟩
def lw_privs : List (MethodName × Nat) := lw_privs_1 ++ (lw_privs_2 ++ (lw_privs_3 ++ (lw_privs_4 ++ (lw_privs_5))))
def lw_tbl : List Cond := k2_sels lw_privs ++ tables_1
theorem lw_privs_ok : ∀ q ∈ lw_privs, lw_okq q := by
  show ∀ q ∈ lw_privs_1 ++ (lw_privs_2 ++ (lw_privs_3 ++ (lw_privs_4 ++ (lw_privs_5)))), lw_okq q
  exact List.forall_mem_append.mpr ⟨lw_r1, List.forall_mem_append.mpr ⟨lw_r2, List.forall_mem_append.mpr ⟨lw_r3, List.forall_mem_append.mpr ⟨lw_r4, lw_r5⟩⟩⟩⟩
def RX0 : String := "LadderMaker$Bins"
def TX0 : u_T := fun k => match k with
  | 0 => ("LadderMaker$Bins", "values", "[J", true)
  | 1 => ("LadderMaker$Bins", "counts", "[I", true)
  | 2 => ("LadderMaker$Bins", "prices", "[I", true)
  | _ => ("LadderMaker$Bins", "size", "I", false)
def tyX0 : Nat → FieldType := fun k => match k with
  | 0 => .array .long
  | 1 => .array .int
  | 2 => .array .int
  | _ => .int
theorem nmX0 : ∀ a, a < 4 → ∀ b, b < 4 → a ≠ b → (TX0 a).2.1 ≠ (TX0 b).2.1 := by decide +kernel
theorem tyX0_ok : ∀ k, k < 4 → parseFieldDescriptor (TX0 k).2.2.1 = some (tyX0 k) := by decide +kernel
def RX1 : String := "LadderMaker$Divider"
def TX1 : u_T := fun k => match k with
  | 0 => ("LadderMaker$Divider", "a", "LLadderMaker$Poly;", false)
  | 1 => ("LadderMaker$Divider", "b", "LLadderMaker$Poly;", false)
  | 2 => ("LadderMaker$Divider", "shunt", "Z", false)
  | _ => ("LadderMaker$Divider", "fromHighest", "Z", false)
def tyX1 : Nat → FieldType := fun k => match k with
  | 0 => .object "LadderMaker$Poly"
  | 1 => .object "LadderMaker$Poly"
  | 2 => .boolean
  | _ => .boolean
theorem nmX1 : ∀ a, a < 4 → ∀ b, b < 4 → a ≠ b → (TX1 a).2.1 ≠ (TX1 b).2.1 := by decide +kernel
theorem tyX1_ok : ∀ k, k < 4 → parseFieldDescriptor (TX1 k).2.2.1 = some (tyX1 k) := by decide +kernel
def RX3 : String := "LadderMaker$Holder"
def TX3 : u_T := fun k => match k with
  | 0 => ("LadderMaker$Holder", "numbers", "[J", true)
  | 1 => ("LadderMaker$Holder", "content", "I", false)
  | 2 => ("LadderMaker$Holder", "size", "I", false)
  | 3 => ("LadderMaker$Holder", "sort", "I", false)
  | 4 => ("LadderMaker$Holder", "shunt", "Z", false)
  | _ => ("LadderMaker$Holder", "v", "J", false)
def tyX3 : Nat → FieldType := fun k => match k with
  | 0 => .array .long
  | 1 => .int
  | 2 => .int
  | 3 => .int
  | 4 => .boolean
  | _ => .long
theorem nmX3 : ∀ a, a < 6 → ∀ b, b < 6 → a ≠ b → (TX3 a).2.1 ≠ (TX3 b).2.1 := by decide +kernel
theorem tyX3_ok : ∀ k, k < 6 → parseFieldDescriptor (TX3 k).2.2.1 = some (tyX3 k) := by decide +kernel
def RX4 : String := "LadderMaker$Ladder"
def TX4 : u_T := fun k => match k with
  | 0 => ("LadderMaker$Ladder", "sorts", "[I", true)
  | 1 => ("LadderMaker$Ladder", "shunts", "[Z", true)
  | 2 => ("LadderMaker$Ladder", "values", "[J", true)
  | 3 => ("LadderMaker$Ladder", "size", "I", false)
  | 4 => ("LadderMaker$Ladder", "ending", "I", false)
  | _ => ("LadderMaker$Ladder", "loss", "J", false)
def tyX4 : Nat → FieldType := fun k => match k with
  | 0 => .array .int
  | 1 => .array .boolean
  | 2 => .array .long
  | 3 => .int
  | 4 => .int
  | _ => .long
theorem nmX4 : ∀ a, a < 6 → ∀ b, b < 6 → a ≠ b → (TX4 a).2.1 ≠ (TX4 b).2.1 := by decide +kernel
theorem tyX4_ok : ∀ k, k < 6 → parseFieldDescriptor (TX4 k).2.2.1 = some (tyX4 k) := by decide +kernel
def RX5 : String := "LadderMaker$Poly"
def TX5 : u_T := fun k => match k with
  | _ => ("LadderMaker$Poly", "coefficients", "[J", true)
def tyX5 : Nat → FieldType := fun k => match k with
  | _ => .array .long
theorem nmX5 : ∀ a, a < 1 → ∀ b, b < 1 → a ≠ b → (TX5 a).2.1 ≠ (TX5 b).2.1 := by decide +kernel
theorem tyX5_ok : ∀ k, k < 1 → parseFieldDescriptor (TX5 k).2.2.1 = some (tyX5 k) := by decide +kernel
def RX6 : String := "LadderMaker$Ratio"
def TX6 : u_T := fun k => match k with
  | 0 => ("LadderMaker$Ratio", "above", "LLadderMaker$Poly;", true)
  | _ => ("LadderMaker$Ratio", "below", "LLadderMaker$Poly;", true)
def tyX6 : Nat → FieldType := fun k => match k with
  | 0 => .object "LadderMaker$Poly"
  | _ => .object "LadderMaker$Poly"
theorem nmX6 : ∀ a, a < 2 → ∀ b, b < 2 → a ≠ b → (TX6 a).2.1 ≠ (TX6 b).2.1 := by decide +kernel
theorem tyX6_ok : ∀ k, k < 2 → parseFieldDescriptor (TX6 k).2.2.1 = some (tyX6 k) := by decide +kernel
def RX7 : String := "LadderMaker$Tape"
def TX7 : u_T := fun k => match k with
  | 0 => ("LadderMaker$Tape", "bytes", "[I", true)
  | 1 => ("LadderMaker$Tape", "size", "I", false)
  | 2 => ("LadderMaker$Tape", "place", "I", false)
  | 3 => ("LadderMaker$Tape", "number", "J", false)
  | _ => ("LadderMaker$Tape", "fraction", "J", false)
def tyX7 : Nat → FieldType := fun k => match k with
  | 0 => .array .int
  | 1 => .int
  | 2 => .int
  | 3 => .long
  | _ => .long
theorem nmX7 : ∀ a, a < 5 → ∀ b, b < 5 → a ≠ b → (TX7 a).2.1 ≠ (TX7 b).2.1 := by decide +kernel
theorem tyX7_ok : ∀ k, k < 5 → parseFieldDescriptor (TX7 k).2.2.1 = some (tyX7 k) := by decide +kernel
def RX8 : String := "LadderMaker$Wants"
def TX8 : u_T := fun k => match k with
  | 0 => ("LadderMaker$Wants", "sorts", "[I", true)
  | 1 => ("LadderMaker$Wants", "values", "[J", true)
  | 2 => ("LadderMaker$Wants", "urgencies", "[I", true)
  | 3 => ("LadderMaker$Wants", "numbers", "[I", true)
  | 4 => ("LadderMaker$Wants", "size", "I", false)
  | _ => ("LadderMaker$Wants", "ever", "I", false)
def tyX8 : Nat → FieldType := fun k => match k with
  | 0 => .array .int
  | 1 => .array .long
  | 2 => .array .int
  | 3 => .array .int
  | 4 => .int
  | _ => .int
theorem nmX8 : ∀ a, a < 6 → ∀ b, b < 6 → a ≠ b → (TX8 a).2.1 ≠ (TX8 b).2.1 := by decide +kernel
theorem tyX8_ok : ∀ k, k < 6 → parseFieldDescriptor (TX8 k).2.2.1 = some (tyX8 k) := by decide +kernel
def RX9 : String := "LadderMaker$Workshop"
def TX9 : u_T := fun k => match k with
  | 0 => ("LadderMaker$Workshop", "ratios", "[LLadderMaker$Ratio;", true)
  | 1 => ("LadderMaker$Workshop", "ladders", "[LLadderMaker$Ladder;", true)
  | 2 => ("LadderMaker$Workshop", "bins", "[LLadderMaker$Bins;", true)
  | 3 => ("LadderMaker$Workshop", "wants", "LLadderMaker$Wants;", true)
  | 4 => ("LadderMaker$Workshop", "ratioCount", "I", false)
  | 5 => ("LadderMaker$Workshop", "ladderCount", "I", false)
  | _ => ("LadderMaker$Workshop", "spent", "I", false)
def tyX9 : Nat → FieldType := fun k => match k with
  | 0 => .array (.object "LadderMaker$Ratio")
  | 1 => .array (.object "LadderMaker$Ladder")
  | 2 => .array (.object "LadderMaker$Bins")
  | 3 => .object "LadderMaker$Wants"
  | 4 => .int
  | 5 => .int
  | _ => .int
theorem nmX9 : ∀ a, a < 7 → ∀ b, b < 7 → a ≠ b → (TX9 a).2.1 ≠ (TX9 b).2.1 := by decide +kernel
theorem tyX9_ok : ∀ k, k < 7 → parseFieldDescriptor (TX9 k).2.2.1 = some (tyX9 k) := by decide +kernel
def RX10 : String := "LadderMaker"
def TX10 : u_T := fun k => match k with
  | 0 => ("LadderMaker", "tape", "LLadderMaker$Tape;", true)
  | 1 => ("LadderMaker", "divider", "LLadderMaker$Divider;", true)
  | 2 => ("LadderMaker", "now", "LLadderMaker$Workshop;", true)
  | 3 => ("LadderMaker", "kept", "LLadderMaker$Workshop;", true)
  | 4 => ("LadderMaker", "holders", "[LLadderMaker$Holder;", true)
  | _ => ("LadderMaker", "isKept", "Z", false)
def tyX10 : Nat → FieldType := fun k => match k with
  | 0 => .object "LadderMaker$Tape"
  | 1 => .object "LadderMaker$Divider"
  | 2 => .object "LadderMaker$Workshop"
  | 3 => .object "LadderMaker$Workshop"
  | 4 => .array (.object "LadderMaker$Holder")
  | _ => .boolean
theorem nmX10 : ∀ a, a < 6 → ∀ b, b < 6 → a ≠ b → (TX10 a).2.1 ≠ (TX10 b).2.1 := by decide +kernel
theorem tyX10_ok : ∀ k, k < 6 → parseFieldDescriptor (TX10 k).2.2.1 = some (tyX10 k) := by decide +kernel
def RX11 : String := "LadderMakerModel"
def TX11 : u_T := fun k => match k with
  | 0 => ("LadderMakerModel", "tape", "[I", true)
  | 1 => ("LadderMakerModel", "taped", "I", false)
  | 2 => ("LadderMakerModel", "at", "I", false)
  | 3 => ("LadderMakerModel", "isFault", "Z", false)
  | 4 => ("LadderMakerModel", "up", "J", false)
  | 5 => ("LadderMakerModel", "low", "J", false)
  | 6 => ("LadderMakerModel", "isWide", "Z", false)
  | 7 => ("LadderMakerModel", "ratioUp", "[J", true)
  | 8 => ("LadderMakerModel", "ratioLow", "[J", true)
  | 9 => ("LadderMakerModel", "ratios", "I", false)
  | 10 => ("LadderMakerModel", "sorts", "[I", true)
  | 11 => ("LadderMakerModel", "shunts", "[I", true)
  | 12 => ("LadderMakerModel", "many", "[I", true)
  | 13 => ("LadderMakerModel", "ends", "[I", true)
  | 14 => ("LadderMakerModel", "valueUp", "[J", true)
  | 15 => ("LadderMakerModel", "valueLow", "[J", true)
  | 16 => ("LadderMakerModel", "lossUp", "[J", true)
  | 17 => ("LadderMakerModel", "lossLow", "[J", true)
  | 18 => ("LadderMakerModel", "ladders", "I", false)
  | 19 => ("LadderMakerModel", "binUp", "[J", true)
  | 20 => ("LadderMakerModel", "binLow", "[J", true)
  | 21 => ("LadderMakerModel", "counts", "[I", true)
  | 22 => ("LadderMakerModel", "prices", "[I", true)
  | 23 => ("LadderMakerModel", "bins", "[I", true)
  | 24 => ("LadderMakerModel", "wantUp", "[J", true)
  | 25 => ("LadderMakerModel", "wantLow", "[J", true)
  | 26 => ("LadderMakerModel", "wantSort", "[I", true)
  | 27 => ("LadderMakerModel", "wantUrgency", "[I", true)
  | 28 => ("LadderMakerModel", "wantNumber", "[I", true)
  | 29 => ("LadderMakerModel", "wants", "I", false)
  | 30 => ("LadderMakerModel", "spent", "I", false)
  | 31 => ("LadderMakerModel", "ever", "I", false)
  | 32 => ("LadderMakerModel", "holds", "[I", true)
  | 33 => ("LadderMakerModel", "heldSort", "[I", true)
  | 34 => ("LadderMakerModel", "heldShunt", "[I", true)
  | 35 => ("LadderMakerModel", "sizes", "[I", true)
  | 36 => ("LadderMakerModel", "heldUp", "[J", true)
  | 37 => ("LadderMakerModel", "heldLow", "[J", true)
  | 38 => ("LadderMakerModel", "rows", "[J", true)
  | 39 => ("LadderMakerModel", "aUp", "[J", true)
  | 40 => ("LadderMakerModel", "aLow", "[J", true)
  | 41 => ("LadderMakerModel", "bUp", "[J", true)
  | 42 => ("LadderMakerModel", "bLow", "[J", true)
  | 43 => ("LadderMakerModel", "zUp", "J", false)
  | 44 => ("LadderMakerModel", "zLow", "J", false)
  | 45 => ("LadderMakerModel", "left", "[I", true)
  | 46 => ("LadderMakerModel", "unlikeUp", "[J", true)
  | 47 => ("LadderMakerModel", "unlikeLow", "[J", true)
  | 48 => ("LadderMakerModel", "isImage", "Z", false)
  | 49 => ("LadderMakerModel", "imRatioUp", "[J", true)
  | 50 => ("LadderMakerModel", "imRatioLow", "[J", true)
  | 51 => ("LadderMakerModel", "imValueUp", "[J", true)
  | 52 => ("LadderMakerModel", "imValueLow", "[J", true)
  | 53 => ("LadderMakerModel", "imLossUp", "[J", true)
  | 54 => ("LadderMakerModel", "imLossLow", "[J", true)
  | 55 => ("LadderMakerModel", "imSorts", "[I", true)
  | 56 => ("LadderMakerModel", "imShunts", "[I", true)
  | 57 => ("LadderMakerModel", "imMany", "[I", true)
  | 58 => ("LadderMakerModel", "imEnds", "[I", true)
  | 59 => ("LadderMakerModel", "imBinUp", "[J", true)
  | 60 => ("LadderMakerModel", "imBinLow", "[J", true)
  | 61 => ("LadderMakerModel", "imWantUp", "[J", true)
  | 62 => ("LadderMakerModel", "imWantLow", "[J", true)
  | 63 => ("LadderMakerModel", "imCounts", "[I", true)
  | 64 => ("LadderMakerModel", "imPrices", "[I", true)
  | 65 => ("LadderMakerModel", "imBins", "[I", true)
  | 66 => ("LadderMakerModel", "imWantSort", "[I", true)
  | 67 => ("LadderMakerModel", "imWantUrgency", "[I", true)
  | 68 => ("LadderMakerModel", "imWantNumber", "[I", true)
  | 69 => ("LadderMakerModel", "imRatios", "I", false)
  | 70 => ("LadderMakerModel", "imLadders", "I", false)
  | 71 => ("LadderMakerModel", "imWants", "I", false)
  | 72 => ("LadderMakerModel", "imSpent", "I", false)
  | _ => ("LadderMakerModel", "imEver", "I", false)
def tyX11 : Nat → FieldType := fun k => match k with
  | 0 => .array .int
  | 1 => .int
  | 2 => .int
  | 3 => .boolean
  | 4 => .long
  | 5 => .long
  | 6 => .boolean
  | 7 => .array .long
  | 8 => .array .long
  | 9 => .int
  | 10 => .array .int
  | 11 => .array .int
  | 12 => .array .int
  | 13 => .array .int
  | 14 => .array .long
  | 15 => .array .long
  | 16 => .array .long
  | 17 => .array .long
  | 18 => .int
  | 19 => .array .long
  | 20 => .array .long
  | 21 => .array .int
  | 22 => .array .int
  | 23 => .array .int
  | 24 => .array .long
  | 25 => .array .long
  | 26 => .array .int
  | 27 => .array .int
  | 28 => .array .int
  | 29 => .int
  | 30 => .int
  | 31 => .int
  | 32 => .array .int
  | 33 => .array .int
  | 34 => .array .int
  | 35 => .array .int
  | 36 => .array .long
  | 37 => .array .long
  | 38 => .array .long
  | 39 => .array .long
  | 40 => .array .long
  | 41 => .array .long
  | 42 => .array .long
  | 43 => .long
  | 44 => .long
  | 45 => .array .int
  | 46 => .array .long
  | 47 => .array .long
  | 48 => .boolean
  | 49 => .array .long
  | 50 => .array .long
  | 51 => .array .long
  | 52 => .array .long
  | 53 => .array .long
  | 54 => .array .long
  | 55 => .array .int
  | 56 => .array .int
  | 57 => .array .int
  | 58 => .array .int
  | 59 => .array .long
  | 60 => .array .long
  | 61 => .array .long
  | 62 => .array .long
  | 63 => .array .int
  | 64 => .array .int
  | 65 => .array .int
  | 66 => .array .int
  | 67 => .array .int
  | 68 => .array .int
  | 69 => .int
  | 70 => .int
  | 71 => .int
  | 72 => .int
  | _ => .int
theorem nmX11 : ∀ a, a < 74 → ∀ b, b < 74 → a ≠ b → (TX11 a).2.1 ≠ (TX11 b).2.1 := by decide +kernel
theorem tyX11_ok : ∀ k, k < 74 → parseFieldDescriptor (TX11 k).2.2.1 = some (tyX11 k) := by decide +kernel
abbrev vwCl : List vw_C := [(RX0, TX0, 4), (RX1, TX1, 4), (RX3, TX3, 6), (RX4, TX4, 6), (RX5, TX5, 1), (RX6, TX6, 2), (RX7, TX7, 5), (RX8, TX8, 6), (RX9, TX9, 7), (RX10, TX10, 6), (RX11, TX11, 74)]
theorem jn_r {big : List Cond} (ws : List Cond) (ps : List Nat) (hp : ws = ps.filterMap (fun i => big[i]?)) : ∀ w ∈ ws, w ∈ big := by
  intro w hw
  rw [hp] at hw
  obtain ⟨i, -, hi⟩ := List.mem_filterMap.mp hw
  exact List.mem_of_getElem? hi
theorem inX0 : ∀ w ∈ u_ws RX0 TX0 4, w ∈ lw_tbl := jn_r _ [281, 283, 285, 287] (by decide +kernel)
theorem inX1 : ∀ w ∈ u_ws RX1 TX1 4, w ∈ lw_tbl := jn_r _ [149, 151, 153, 155] (by decide +kernel)
theorem inX3 : ∀ w ∈ u_ws RX3 TX3 6, w ∈ lw_tbl := jn_r _ [334, 336, 338, 340, 342, 344] (by decide +kernel)
theorem inX4 : ∀ w ∈ u_ws RX4 TX4 6, w ∈ lw_tbl := jn_r _ [251, 253, 255, 257, 259, 261] (by decide +kernel)
theorem inX5 : ∀ w ∈ u_ws RX5 TX5 1, w ∈ lw_tbl := jn_r _ [141] (by decide +kernel)
theorem inX6 : ∀ w ∈ u_ws RX6 TX6 2, w ∈ lw_tbl := jn_r _ [216, 218] (by decide +kernel)
theorem inX7 : ∀ w ∈ u_ws RX7 TX7 5, w ∈ lw_tbl := jn_r _ [110, 112, 114, 116, 118] (by decide +kernel)
theorem inX8 : ∀ w ∈ u_ws RX8 TX8 6, w ∈ lw_tbl := jn_r _ [188, 190, 192, 194, 196, 198] (by decide +kernel)
theorem inX9 : ∀ w ∈ u_ws RX9 TX9 7, w ∈ lw_tbl := jn_r _ [302, 304, 306, 308, 310, 312, 314] (by decide +kernel)
theorem inX10 : ∀ w ∈ u_ws RX10 TX10 6, w ∈ lw_tbl := jn_r _ [353, 355, 357, 359, 361, 363] (by decide +kernel)
theorem inX11 : ∀ w ∈ u_ws RX11 TX11 74, w ∈ lw_tbl := jn_r _ [1140, 1142, 1144, 1146, 1148, 1150, 1152, 1154, 1156, 1158, 1160, 1162, 1164, 1166, 1168, 1170, 1172, 1174, 1176, 1178, 1180, 1182, 1184, 1186, 1188, 1190, 1192, 1194, 1196, 1198, 1200, 1202, 1204, 1206, 1208, 1210, 1212, 1214, 1216, 1218, 1220, 1222, 1224, 1226, 1228, 1230, 1232, 1234, 1236, 1238, 1240, 1242, 1244, 1246, 1248, 1250, 1252, 1254, 1256, 1258, 1260, 1262, 1264, 1266, 1268, 1270, 1272, 1274, 1276, 1278, 1280, 1282, 1284, 1286] (by decide +kernel)
