section
-- ===== PART A: goes FIRST, ahead of the names: the tables' words, and 'selects' of the private methods out of them =====
/-- a private method of a class that the tables say can be made, by its rows of tables_1 -/
def lw_okq (q : MethodName × Nat) : Prop := (q.1.cls ≠ "java/lang/invoke/MethodHandle" ∧ q.1.cls ≠ "java/lang/invoke/VarHandle") ∧ Cond.instantiable q.1.cls q.2 ∈ tables_1 ∧ Cond.privateMethod q.1 ∈ tables_1 ∧ Cond.instanceMethod q.1 ∈ tables_1
theorem lw_p0 : lw_okq (⟨"LostMuseum", "putNumber", "(I)V"⟩, 20) := ⟨⟨by decide +kernel, by decide +kernel⟩, List.mem_of_getElem? (i := 27) (by decide +kernel), List.mem_of_getElem? (i := 496) (by decide +kernel), List.mem_of_getElem? (i := 497) (by decide +kernel)⟩
theorem lw_p1 : lw_okq (⟨"LostMuseum$Graph", "joined", "([II)I"⟩, 10) := ⟨⟨by decide +kernel, by decide +kernel⟩, List.mem_of_getElem? (i := 296) (by decide +kernel), List.mem_of_getElem? (i := 539) (by decide +kernel), List.mem_of_getElem? (i := 540) (by decide +kernel)⟩
theorem lw_p2 : lw_okq (⟨"LostMuseum$Walk", "allKnow", "(I)Z"⟩, 8) := ⟨⟨by decide +kernel, by decide +kernel⟩, List.mem_of_getElem? (i := 336) (by decide +kernel), List.mem_of_getElem? (i := 552) (by decide +kernel), List.mem_of_getElem? (i := 553) (by decide +kernel)⟩
theorem lw_p3 : lw_okq (⟨"LostMuseum$Walk", "lookOnce", "(I)V"⟩, 8) := ⟨⟨by decide +kernel, by decide +kernel⟩, List.mem_of_getElem? (i := 336) (by decide +kernel), List.mem_of_getElem? (i := 562) (by decide +kernel), List.mem_of_getElem? (i := 563) (by decide +kernel)⟩
theorem lw_p4 : lw_okq (⟨"LostMuseum$Graph", "closure", "([II)I"⟩, 10) := ⟨⟨by decide +kernel, by decide +kernel⟩, List.mem_of_getElem? (i := 296) (by decide +kernel), List.mem_of_getElem? (i := 584) (by decide +kernel), List.mem_of_getElem? (i := 585) (by decide +kernel)⟩
theorem lw_p5 : lw_okq (⟨"LostMuseum", "needBytes", "(II)V"⟩, 20) := ⟨⟨by decide +kernel, by decide +kernel⟩, List.mem_of_getElem? (i := 27) (by decide +kernel), List.mem_of_getElem? (i := 626) (by decide +kernel), List.mem_of_getElem? (i := 627) (by decide +kernel)⟩
theorem lw_p6 : lw_okq (⟨"LostMuseum", "needWithin", "(III)V"⟩, 20) := ⟨⟨by decide +kernel, by decide +kernel⟩, List.mem_of_getElem? (i := 27) (by decide +kernel), List.mem_of_getElem? (i := 630) (by decide +kernel), List.mem_of_getElem? (i := 631) (by decide +kernel)⟩
theorem lw_p7 : lw_okq (⟨"java/lang/Throwable", "fillInStackTrace", "(I)Ljava/lang/Throwable;"⟩, 6) := ⟨⟨by decide +kernel, by decide +kernel⟩, List.mem_of_getElem? (i := 671) (by decide +kernel), List.mem_of_getElem? (i := 669) (by decide +kernel), List.mem_of_getElem? (i := 670) (by decide +kernel)⟩
theorem lw_p8 : lw_okq (⟨"LostMuseum", "takeTape", "(I)V"⟩, 20) := ⟨⟨by decide +kernel, by decide +kernel⟩, List.mem_of_getElem? (i := 27) (by decide +kernel), List.mem_of_getElem? (i := 700) (by decide +kernel), List.mem_of_getElem? (i := 701) (by decide +kernel)⟩
theorem lw_p9 : lw_okq (⟨"LostMuseum$Plan", "clear", "()V"⟩, 14) := ⟨⟨by decide +kernel, by decide +kernel⟩, List.mem_of_getElem? (i := 77) (by decide +kernel), List.mem_of_getElem? (i := 713) (by decide +kernel), List.mem_of_getElem? (i := 714) (by decide +kernel)⟩
theorem lw_p10 : lw_okq (⟨"LostMuseum$Plan", "readClause", "(LLostMuseum$Reader;Z)Z"⟩, 14) := ⟨⟨by decide +kernel, by decide +kernel⟩, List.mem_of_getElem? (i := 77) (by decide +kernel), List.mem_of_getElem? (i := 725) (by decide +kernel), List.mem_of_getElem? (i := 726) (by decide +kernel)⟩
theorem lw_p11 : lw_okq (⟨"LostMuseum$Reader", "byteAt", "(I)I"⟩, 8) := ⟨⟨by decide +kernel, by decide +kernel⟩, List.mem_of_getElem? (i := 35) (by decide +kernel), List.mem_of_getElem? (i := 740) (by decide +kernel), List.mem_of_getElem? (i := 741) (by decide +kernel)⟩
theorem lw_p12 : lw_okq (⟨"LostMuseum$Plan", "readRoom", "(LLostMuseum$Reader;)Z"⟩, 14) := ⟨⟨by decide +kernel, by decide +kernel⟩, List.mem_of_getElem? (i := 77) (by decide +kernel), List.mem_of_getElem? (i := 798) (by decide +kernel), List.mem_of_getElem? (i := 799) (by decide +kernel)⟩
theorem lw_p13 : lw_okq (⟨"LostMuseum$Plan", "readDoor", "(LLostMuseum$Reader;)Z"⟩, 14) := ⟨⟨by decide +kernel, by decide +kernel⟩, List.mem_of_getElem? (i := 77) (by decide +kernel), List.mem_of_getElem? (i := 811) (by decide +kernel), List.mem_of_getElem? (i := 812) (by decide +kernel)⟩
theorem lw_p14 : lw_okq (⟨"LostMuseum$Plan", "readExit", "(LLostMuseum$Reader;)Z"⟩, 14) := ⟨⟨by decide +kernel, by decide +kernel⟩, List.mem_of_getElem? (i := 77) (by decide +kernel), List.mem_of_getElem? (i := 816) (by decide +kernel), List.mem_of_getElem? (i := 817) (by decide +kernel)⟩
theorem lw_p15 : lw_okq (⟨"LostMuseum$Plan", "readTour", "(LLostMuseum$Reader;)Z"⟩, 14) := ⟨⟨by decide +kernel, by decide +kernel⟩, List.mem_of_getElem? (i := 77) (by decide +kernel), List.mem_of_getElem? (i := 821) (by decide +kernel), List.mem_of_getElem? (i := 822) (by decide +kernel)⟩
def lw_privs_1 : List (MethodName × Nat) := [(⟨"LostMuseum", "putNumber", "(I)V"⟩, 20), (⟨"LostMuseum$Graph", "joined", "([II)I"⟩, 10), (⟨"LostMuseum$Walk", "allKnow", "(I)Z"⟩, 8), (⟨"LostMuseum$Walk", "lookOnce", "(I)V"⟩, 8), (⟨"LostMuseum$Graph", "closure", "([II)I"⟩, 10), (⟨"LostMuseum", "needBytes", "(II)V"⟩, 20), (⟨"LostMuseum", "needWithin", "(III)V"⟩, 20), (⟨"java/lang/Throwable", "fillInStackTrace", "(I)Ljava/lang/Throwable;"⟩, 6), (⟨"LostMuseum", "takeTape", "(I)V"⟩, 20), (⟨"LostMuseum$Plan", "clear", "()V"⟩, 14), (⟨"LostMuseum$Plan", "readClause", "(LLostMuseum$Reader;Z)Z"⟩, 14), (⟨"LostMuseum$Reader", "byteAt", "(I)I"⟩, 8), (⟨"LostMuseum$Plan", "readRoom", "(LLostMuseum$Reader;)Z"⟩, 14), (⟨"LostMuseum$Plan", "readDoor", "(LLostMuseum$Reader;)Z"⟩, 14), (⟨"LostMuseum$Plan", "readExit", "(LLostMuseum$Reader;)Z"⟩, 14), (⟨"LostMuseum$Plan", "readTour", "(LLostMuseum$Reader;)Z"⟩, 14)]
theorem lw_r1 : ∀ q ∈ lw_privs_1, lw_okq q := List.forall_mem_cons.mpr ⟨lw_p0, List.forall_mem_cons.mpr ⟨lw_p1, List.forall_mem_cons.mpr ⟨lw_p2, List.forall_mem_cons.mpr ⟨lw_p3, List.forall_mem_cons.mpr ⟨lw_p4, List.forall_mem_cons.mpr ⟨lw_p5, List.forall_mem_cons.mpr ⟨lw_p6, List.forall_mem_cons.mpr ⟨lw_p7, List.forall_mem_cons.mpr ⟨lw_p8, List.forall_mem_cons.mpr ⟨lw_p9, List.forall_mem_cons.mpr ⟨lw_p10, List.forall_mem_cons.mpr ⟨lw_p11, List.forall_mem_cons.mpr ⟨lw_p12, List.forall_mem_cons.mpr ⟨lw_p13, List.forall_mem_cons.mpr ⟨lw_p14, List.forall_mem_cons.mpr ⟨lw_p15, fun _ h => absurd h List.not_mem_nil⟩⟩⟩⟩⟩⟩⟩⟩⟩⟩⟩⟩⟩⟩⟩⟩
theorem lw_p16 : lw_okq (⟨"LostMuseum$Plan", "readWarder", "(LLostMuseum$Reader;)Z"⟩, 14) := ⟨⟨by decide +kernel, by decide +kernel⟩, List.mem_of_getElem? (i := 77) (by decide +kernel), List.mem_of_getElem? (i := 826) (by decide +kernel), List.mem_of_getElem? (i := 827) (by decide +kernel)⟩
theorem lw_p17 : lw_okq (⟨"LostMuseum", "faultOfText", "()I"⟩, 20) := ⟨⟨by decide +kernel, by decide +kernel⟩, List.mem_of_getElem? (i := 27) (by decide +kernel), List.mem_of_getElem? (i := 834) (by decide +kernel), List.mem_of_getElem? (i := 835) (by decide +kernel)⟩
theorem lw_p18 : lw_okq (⟨"LostMuseum$Law", "readSum", "(LLostMuseum$Reader;I)Z"⟩, 5) := ⟨⟨by decide +kernel, by decide +kernel⟩, List.mem_of_getElem? (i := 167) (by decide +kernel), List.mem_of_getElem? (i := 867) (by decide +kernel), List.mem_of_getElem? (i := 868) (by decide +kernel)⟩
theorem lw_p19 : lw_okq (⟨"LostMuseum$Law", "readProduct", "(LLostMuseum$Reader;I)Z"⟩, 5) := ⟨⟨by decide +kernel, by decide +kernel⟩, List.mem_of_getElem? (i := 167) (by decide +kernel), List.mem_of_getElem? (i := 871) (by decide +kernel), List.mem_of_getElem? (i := 872) (by decide +kernel)⟩
theorem lw_p20 : lw_okq (⟨"LostMuseum$Law", "readUnit", "(LLostMuseum$Reader;I)Z"⟩, 5) := ⟨⟨by decide +kernel, by decide +kernel⟩, List.mem_of_getElem? (i := 167) (by decide +kernel), List.mem_of_getElem? (i := 875) (by decide +kernel), List.mem_of_getElem? (i := 876) (by decide +kernel)⟩
theorem lw_p21 : lw_okq (⟨"LostMuseum$Law", "put", "(I)V"⟩, 5) := ⟨⟨by decide +kernel, by decide +kernel⟩, List.mem_of_getElem? (i := 167) (by decide +kernel), List.mem_of_getElem? (i := 882) (by decide +kernel), List.mem_of_getElem? (i := 883) (by decide +kernel)⟩
theorem lw_p22 : lw_okq (⟨"LostMuseum$Law", "readBracket", "(LLostMuseum$Reader;I)Z"⟩, 5) := ⟨⟨by decide +kernel, by decide +kernel⟩, List.mem_of_getElem? (i := 167) (by decide +kernel), List.mem_of_getElem? (i := 886) (by decide +kernel), List.mem_of_getElem? (i := 887) (by decide +kernel)⟩
theorem lw_p23 : lw_okq (⟨"LostMuseum$Law", "readPair", "(LLostMuseum$Reader;II)Z"⟩, 5) := ⟨⟨by decide +kernel, by decide +kernel⟩, List.mem_of_getElem? (i := 167) (by decide +kernel), List.mem_of_getElem? (i := 907) (by decide +kernel), List.mem_of_getElem? (i := 908) (by decide +kernel)⟩
theorem lw_p24 : lw_okq (⟨"LostMuseum$Work", "readSteps", "(LLostMuseum$Reader;LLostMuseum$Plan;I)Z"⟩, 7) := ⟨⟨by decide +kernel, by decide +kernel⟩, List.mem_of_getElem? (i := 193) (by decide +kernel), List.mem_of_getElem? (i := 931) (by decide +kernel), List.mem_of_getElem? (i := 932) (by decide +kernel)⟩
theorem lw_p25 : lw_okq (⟨"LostMuseum$Work", "readStep", "(LLostMuseum$Reader;LLostMuseum$Plan;I)Z"⟩, 7) := ⟨⟨by decide +kernel, by decide +kernel⟩, List.mem_of_getElem? (i := 193) (by decide +kernel), List.mem_of_getElem? (i := 937) (by decide +kernel), List.mem_of_getElem? (i := 938) (by decide +kernel)⟩
theorem lw_p26 : lw_okq (⟨"LostMuseum$Work", "readGo", "(LLostMuseum$Reader;LLostMuseum$Plan;)Z"⟩, 7) := ⟨⟨by decide +kernel, by decide +kernel⟩, List.mem_of_getElem? (i := 193) (by decide +kernel), List.mem_of_getElem? (i := 944) (by decide +kernel), List.mem_of_getElem? (i := 945) (by decide +kernel)⟩
theorem lw_p27 : lw_okq (⟨"LostMuseum$Work", "put", "(III)V"⟩, 7) := ⟨⟨by decide +kernel, by decide +kernel⟩, List.mem_of_getElem? (i := 193) (by decide +kernel), List.mem_of_getElem? (i := 949) (by decide +kernel), List.mem_of_getElem? (i := 950) (by decide +kernel)⟩
theorem lw_p28 : lw_okq (⟨"LostMuseum$Work", "readDoorStep", "(LLostMuseum$Reader;LLostMuseum$Plan;I)Z"⟩, 7) := ⟨⟨by decide +kernel, by decide +kernel⟩, List.mem_of_getElem? (i := 193) (by decide +kernel), List.mem_of_getElem? (i := 954) (by decide +kernel), List.mem_of_getElem? (i := 955) (by decide +kernel)⟩
theorem lw_p29 : lw_okq (⟨"LostMuseum$Work", "readAgain", "(LLostMuseum$Reader;LLostMuseum$Plan;I)Z"⟩, 7) := ⟨⟨by decide +kernel, by decide +kernel⟩, List.mem_of_getElem? (i := 193) (by decide +kernel), List.mem_of_getElem? (i := 962) (by decide +kernel), List.mem_of_getElem? (i := 963) (by decide +kernel)⟩
theorem lw_p30 : lw_okq (⟨"LostMuseum$Work", "turnBack", "(I)I"⟩, 7) := ⟨⟨by decide +kernel, by decide +kernel⟩, List.mem_of_getElem? (i := 193) (by decide +kernel), List.mem_of_getElem? (i := 976) (by decide +kernel), List.mem_of_getElem? (i := 977) (by decide +kernel)⟩
theorem lw_p31 : lw_okq (⟨"LostMuseum$Work", "isDone", "(ILLostMuseum$Plan;LLostMuseum$State;LLostMuseum$Hours;)Z"⟩, 7) := ⟨⟨by decide +kernel, by decide +kernel⟩, List.mem_of_getElem? (i := 193) (by decide +kernel), List.mem_of_getElem? (i := 980) (by decide +kernel), List.mem_of_getElem? (i := 981) (by decide +kernel)⟩
def lw_privs_2 : List (MethodName × Nat) := [(⟨"LostMuseum$Plan", "readWarder", "(LLostMuseum$Reader;)Z"⟩, 14), (⟨"LostMuseum", "faultOfText", "()I"⟩, 20), (⟨"LostMuseum$Law", "readSum", "(LLostMuseum$Reader;I)Z"⟩, 5), (⟨"LostMuseum$Law", "readProduct", "(LLostMuseum$Reader;I)Z"⟩, 5), (⟨"LostMuseum$Law", "readUnit", "(LLostMuseum$Reader;I)Z"⟩, 5), (⟨"LostMuseum$Law", "put", "(I)V"⟩, 5), (⟨"LostMuseum$Law", "readBracket", "(LLostMuseum$Reader;I)Z"⟩, 5), (⟨"LostMuseum$Law", "readPair", "(LLostMuseum$Reader;II)Z"⟩, 5), (⟨"LostMuseum$Work", "readSteps", "(LLostMuseum$Reader;LLostMuseum$Plan;I)Z"⟩, 7), (⟨"LostMuseum$Work", "readStep", "(LLostMuseum$Reader;LLostMuseum$Plan;I)Z"⟩, 7), (⟨"LostMuseum$Work", "readGo", "(LLostMuseum$Reader;LLostMuseum$Plan;)Z"⟩, 7), (⟨"LostMuseum$Work", "put", "(III)V"⟩, 7), (⟨"LostMuseum$Work", "readDoorStep", "(LLostMuseum$Reader;LLostMuseum$Plan;I)Z"⟩, 7), (⟨"LostMuseum$Work", "readAgain", "(LLostMuseum$Reader;LLostMuseum$Plan;I)Z"⟩, 7), (⟨"LostMuseum$Work", "turnBack", "(I)I"⟩, 7), (⟨"LostMuseum$Work", "isDone", "(ILLostMuseum$Plan;LLostMuseum$State;LLostMuseum$Hours;)Z"⟩, 7)]
theorem lw_r2 : ∀ q ∈ lw_privs_2, lw_okq q := List.forall_mem_cons.mpr ⟨lw_p16, List.forall_mem_cons.mpr ⟨lw_p17, List.forall_mem_cons.mpr ⟨lw_p18, List.forall_mem_cons.mpr ⟨lw_p19, List.forall_mem_cons.mpr ⟨lw_p20, List.forall_mem_cons.mpr ⟨lw_p21, List.forall_mem_cons.mpr ⟨lw_p22, List.forall_mem_cons.mpr ⟨lw_p23, List.forall_mem_cons.mpr ⟨lw_p24, List.forall_mem_cons.mpr ⟨lw_p25, List.forall_mem_cons.mpr ⟨lw_p26, List.forall_mem_cons.mpr ⟨lw_p27, List.forall_mem_cons.mpr ⟨lw_p28, List.forall_mem_cons.mpr ⟨lw_p29, List.forall_mem_cons.mpr ⟨lw_p30, List.forall_mem_cons.mpr ⟨lw_p31, fun _ h => absurd h List.not_mem_nil⟩⟩⟩⟩⟩⟩⟩⟩⟩⟩⟩⟩⟩⟩⟩⟩
theorem lw_p32 : lw_okq (⟨"LostMuseum", "needRoom", "(I)V"⟩, 20) := ⟨⟨by decide +kernel, by decide +kernel⟩, List.mem_of_getElem? (i := 27) (by decide +kernel), List.mem_of_getElem? (i := 1056) (by decide +kernel), List.mem_of_getElem? (i := 1057) (by decide +kernel)⟩
theorem lw_p33 : lw_okq (⟨"LostMuseum", "needDoor", "(I)V"⟩, 20) := ⟨⟨by decide +kernel, by decide +kernel⟩, List.mem_of_getElem? (i := 27) (by decide +kernel), List.mem_of_getElem? (i := 1084) (by decide +kernel), List.mem_of_getElem? (i := 1085) (by decide +kernel)⟩
theorem lw_p34 : lw_okq (⟨"LostMuseum$Walk", "fewestBehind", "(II)I"⟩, 8) := ⟨⟨by decide +kernel, by decide +kernel⟩, List.mem_of_getElem? (i := 336) (by decide +kernel), List.mem_of_getElem? (i := 1116) (by decide +kernel), List.mem_of_getElem? (i := 1117) (by decide +kernel)⟩
theorem lw_p35 : lw_okq (⟨"LostMuseum$Walk", "slip", "(II)I"⟩, 8) := ⟨⟨by decide +kernel, by decide +kernel⟩, List.mem_of_getElem? (i := 336) (by decide +kernel), List.mem_of_getElem? (i := 1125) (by decide +kernel), List.mem_of_getElem? (i := 1126) (by decide +kernel)⟩
theorem lw_p36 : lw_okq (⟨"LostMuseum$Hours", "comeTo", "(II)I"⟩, 3) := ⟨⟨by decide +kernel, by decide +kernel⟩, List.mem_of_getElem? (i := 280) (by decide +kernel), List.mem_of_getElem? (i := 1151) (by decide +kernel), List.mem_of_getElem? (i := 1152) (by decide +kernel)⟩
theorem lw_p37 : lw_okq (⟨"LostMuseum$Graph", "goOneDoor", "(I)V"⟩, 10) := ⟨⟨by decide +kernel, by decide +kernel⟩, List.mem_of_getElem? (i := 296) (by decide +kernel), List.mem_of_getElem? (i := 1228) (by decide +kernel), List.mem_of_getElem? (i := 1229) (by decide +kernel)⟩
theorem lw_p38 : lw_okq (⟨"LostMuseum$Graph", "enterFrom", "(II)V"⟩, 10) := ⟨⟨by decide +kernel, by decide +kernel⟩, List.mem_of_getElem? (i := 296) (by decide +kernel), List.mem_of_getElem? (i := 1232) (by decide +kernel), List.mem_of_getElem? (i := 1233) (by decide +kernel)⟩
theorem lw_p39 : lw_okq (⟨"LostMuseum$Parting", "waysApart", "(III)I"⟩, 6) := ⟨⟨by decide +kernel, by decide +kernel⟩, List.mem_of_getElem? (i := 369) (by decide +kernel), List.mem_of_getElem? (i := 1270) (by decide +kernel), List.mem_of_getElem? (i := 1271) (by decide +kernel)⟩
theorem lw_p40 : lw_okq (⟨"LostMuseum$Parting", "findsWay", "(III)Z"⟩, 6) := ⟨⟨by decide +kernel, by decide +kernel⟩, List.mem_of_getElem? (i := 369) (by decide +kernel), List.mem_of_getElem? (i := 1274) (by decide +kernel), List.mem_of_getElem? (i := 1275) (by decide +kernel)⟩
theorem lw_p41 : lw_okq (⟨"LostMuseum$Parting", "leadsTo", "(II)I"⟩, 6) := ⟨⟨by decide +kernel, by decide +kernel⟩, List.mem_of_getElem? (i := 369) (by decide +kernel), List.mem_of_getElem? (i := 1278) (by decide +kernel), List.mem_of_getElem? (i := 1279) (by decide +kernel)⟩
theorem lw_p42 : lw_okq (⟨"LostMuseum$Parting", "takeWay", "(II)V"⟩, 6) := ⟨⟨by decide +kernel, by decide +kernel⟩, List.mem_of_getElem? (i := 369) (by decide +kernel), List.mem_of_getElem? (i := 1282) (by decide +kernel), List.mem_of_getElem? (i := 1283) (by decide +kernel)⟩
theorem lw_p43 : lw_okq (⟨"LostMuseum$Sleeper", "openFrom", "(II)I"⟩, 9) := ⟨⟨by decide +kernel, by decide +kernel⟩, List.mem_of_getElem? (i := 394) (by decide +kernel), List.mem_of_getElem? (i := 1377) (by decide +kernel), List.mem_of_getElem? (i := 1378) (by decide +kernel)⟩
theorem lw_p44 : lw_okq (⟨"LostMuseum$Sleeper", "draw", "()I"⟩, 9) := ⟨⟨by decide +kernel, by decide +kernel⟩, List.mem_of_getElem? (i := 394) (by decide +kernel), List.mem_of_getElem? (i := 1383) (by decide +kernel), List.mem_of_getElem? (i := 1384) (by decide +kernel)⟩
theorem lw_p45 : lw_okq (⟨"LostMuseumModel", "tellsNothing", "()V"⟩, 51) := ⟨⟨by decide +kernel, by decide +kernel⟩, List.mem_of_getElem? (i := 1399) (by decide +kernel), List.mem_of_getElem? (i := 1407) (by decide +kernel), List.mem_of_getElem? (i := 1408) (by decide +kernel)⟩
theorem lw_p46 : lw_okq (⟨"LostMuseumModel", "beginsAnew", "()V"⟩, 51) := ⟨⟨by decide +kernel, by decide +kernel⟩, List.mem_of_getElem? (i := 1399) (by decide +kernel), List.mem_of_getElem? (i := 1411) (by decide +kernel), List.mem_of_getElem? (i := 1412) (by decide +kernel)⟩
theorem lw_p47 : lw_okq (⟨"LostMuseumModel", "bad", "(ZII)Z"⟩, 51) := ⟨⟨by decide +kernel, by decide +kernel⟩, List.mem_of_getElem? (i := 1399) (by decide +kernel), List.mem_of_getElem? (i := 1587) (by decide +kernel), List.mem_of_getElem? (i := 1588) (by decide +kernel)⟩
def lw_privs_3 : List (MethodName × Nat) := [(⟨"LostMuseum", "needRoom", "(I)V"⟩, 20), (⟨"LostMuseum", "needDoor", "(I)V"⟩, 20), (⟨"LostMuseum$Walk", "fewestBehind", "(II)I"⟩, 8), (⟨"LostMuseum$Walk", "slip", "(II)I"⟩, 8), (⟨"LostMuseum$Hours", "comeTo", "(II)I"⟩, 3), (⟨"LostMuseum$Graph", "goOneDoor", "(I)V"⟩, 10), (⟨"LostMuseum$Graph", "enterFrom", "(II)V"⟩, 10), (⟨"LostMuseum$Parting", "waysApart", "(III)I"⟩, 6), (⟨"LostMuseum$Parting", "findsWay", "(III)Z"⟩, 6), (⟨"LostMuseum$Parting", "leadsTo", "(II)I"⟩, 6), (⟨"LostMuseum$Parting", "takeWay", "(II)V"⟩, 6), (⟨"LostMuseum$Sleeper", "openFrom", "(II)I"⟩, 9), (⟨"LostMuseum$Sleeper", "draw", "()I"⟩, 9), (⟨"LostMuseumModel", "tellsNothing", "()V"⟩, 51), (⟨"LostMuseumModel", "beginsAnew", "()V"⟩, 51), (⟨"LostMuseumModel", "bad", "(ZII)Z"⟩, 51)]
theorem lw_r3 : ∀ q ∈ lw_privs_3, lw_okq q := List.forall_mem_cons.mpr ⟨lw_p32, List.forall_mem_cons.mpr ⟨lw_p33, List.forall_mem_cons.mpr ⟨lw_p34, List.forall_mem_cons.mpr ⟨lw_p35, List.forall_mem_cons.mpr ⟨lw_p36, List.forall_mem_cons.mpr ⟨lw_p37, List.forall_mem_cons.mpr ⟨lw_p38, List.forall_mem_cons.mpr ⟨lw_p39, List.forall_mem_cons.mpr ⟨lw_p40, List.forall_mem_cons.mpr ⟨lw_p41, List.forall_mem_cons.mpr ⟨lw_p42, List.forall_mem_cons.mpr ⟨lw_p43, List.forall_mem_cons.mpr ⟨lw_p44, List.forall_mem_cons.mpr ⟨lw_p45, List.forall_mem_cons.mpr ⟨lw_p46, List.forall_mem_cons.mpr ⟨lw_p47, fun _ h => absurd h List.not_mem_nil⟩⟩⟩⟩⟩⟩⟩⟩⟩⟩⟩⟩⟩⟩⟩⟩
theorem lw_p48 : lw_okq (⟨"LostMuseumModel", "starts", "(I)V"⟩, 51) := ⟨⟨by decide +kernel, by decide +kernel⟩, List.mem_of_getElem? (i := 1399) (by decide +kernel), List.mem_of_getElem? (i := 1591) (by decide +kernel), List.mem_of_getElem? (i := 1592) (by decide +kernel)⟩
theorem lw_p49 : lw_okq (⟨"LostMuseumModel", "blanks", "()V"⟩, 51) := ⟨⟨by decide +kernel, by decide +kernel⟩, List.mem_of_getElem? (i := 1399) (by decide +kernel), List.mem_of_getElem? (i := 1595) (by decide +kernel), List.mem_of_getElem? (i := 1596) (by decide +kernel)⟩
theorem lw_p50 : lw_okq (⟨"LostMuseumModel", "byteAt", "(I)I"⟩, 51) := ⟨⟨by decide +kernel, by decide +kernel⟩, List.mem_of_getElem? (i := 1399) (by decide +kernel), List.mem_of_getElem? (i := 1599) (by decide +kernel), List.mem_of_getElem? (i := 1600) (by decide +kernel)⟩
theorem lw_p51 : lw_okq (⟨"LostMuseumModel", "clause", "()V"⟩, 51) := ⟨⟨by decide +kernel, by decide +kernel⟩, List.mem_of_getElem? (i := 1399) (by decide +kernel), List.mem_of_getElem? (i := 1603) (by decide +kernel), List.mem_of_getElem? (i := 1604) (by decide +kernel)⟩
theorem lw_p52 : lw_okq (⟨"LostMuseumModel", "kindHere", "()I"⟩, 51) := ⟨⟨by decide +kernel, by decide +kernel⟩, List.mem_of_getElem? (i := 1399) (by decide +kernel), List.mem_of_getElem? (i := 1607) (by decide +kernel), List.mem_of_getElem? (i := 1608) (by decide +kernel)⟩
theorem lw_p53 : lw_okq (⟨"LostMuseumModel", "isWord", "(IIIIII)Z"⟩, 51) := ⟨⟨by decide +kernel, by decide +kernel⟩, List.mem_of_getElem? (i := 1399) (by decide +kernel), List.mem_of_getElem? (i := 1611) (by decide +kernel), List.mem_of_getElem? (i := 1612) (by decide +kernel)⟩
theorem lw_p54 : lw_okq (⟨"LostMuseumModel", "wordHere", "()I"⟩, 51) := ⟨⟨by decide +kernel, by decide +kernel⟩, List.mem_of_getElem? (i := 1399) (by decide +kernel), List.mem_of_getElem? (i := 1615) (by decide +kernel), List.mem_of_getElem? (i := 1616) (by decide +kernel)⟩
theorem lw_p55 : lw_okq (⟨"LostMuseumModel", "wrong", "(II)V"⟩, 51) := ⟨⟨by decide +kernel, by decide +kernel⟩, List.mem_of_getElem? (i := 1399) (by decide +kernel), List.mem_of_getElem? (i := 1625) (by decide +kernel), List.mem_of_getElem? (i := 1626) (by decide +kernel)⟩
theorem lw_p56 : lw_okq (⟨"LostMuseumModel", "skipWord", "()V"⟩, 51) := ⟨⟨by decide +kernel, by decide +kernel⟩, List.mem_of_getElem? (i := 1399) (by decide +kernel), List.mem_of_getElem? (i := 1629) (by decide +kernel), List.mem_of_getElem? (i := 1630) (by decide +kernel)⟩
theorem lw_p57 : lw_okq (⟨"LostMuseumModel", "number", "(II)I"⟩, 51) := ⟨⟨by decide +kernel, by decide +kernel⟩, List.mem_of_getElem? (i := 1399) (by decide +kernel), List.mem_of_getElem? (i := 1633) (by decide +kernel), List.mem_of_getElem? (i := 1634) (by decide +kernel)⟩
theorem lw_p58 : lw_okq (⟨"LostMuseumModel", "roomHere", "()I"⟩, 51) := ⟨⟨by decide +kernel, by decide +kernel⟩, List.mem_of_getElem? (i := 1399) (by decide +kernel), List.mem_of_getElem? (i := 1641) (by decide +kernel), List.mem_of_getElem? (i := 1642) (by decide +kernel)⟩
theorem lw_p59 : lw_okq (⟨"LostMuseumModel", "sign", "(I)V"⟩, 51) := ⟨⟨by decide +kernel, by decide +kernel⟩, List.mem_of_getElem? (i := 1399) (by decide +kernel), List.mem_of_getElem? (i := 1645) (by decide +kernel), List.mem_of_getElem? (i := 1646) (by decide +kernel)⟩
theorem lw_p60 : lw_okq (⟨"LostMuseumModel", "ends2", "()I"⟩, 51) := ⟨⟨by decide +kernel, by decide +kernel⟩, List.mem_of_getElem? (i := 1399) (by decide +kernel), List.mem_of_getElem? (i := 1649) (by decide +kernel), List.mem_of_getElem? (i := 1650) (by decide +kernel)⟩
theorem lw_p61 : lw_okq (⟨"LostMuseumModel", "sum", "()V"⟩, 51) := ⟨⟨by decide +kernel, by decide +kernel⟩, List.mem_of_getElem? (i := 1399) (by decide +kernel), List.mem_of_getElem? (i := 1657) (by decide +kernel), List.mem_of_getElem? (i := 1658) (by decide +kernel)⟩
theorem lw_p62 : lw_okq (⟨"LostMuseumModel", "product", "()V"⟩, 51) := ⟨⟨by decide +kernel, by decide +kernel⟩, List.mem_of_getElem? (i := 1399) (by decide +kernel), List.mem_of_getElem? (i := 1661) (by decide +kernel), List.mem_of_getElem? (i := 1662) (by decide +kernel)⟩
theorem lw_p63 : lw_okq (⟨"LostMuseumModel", "one", "()V"⟩, 51) := ⟨⟨by decide +kernel, by decide +kernel⟩, List.mem_of_getElem? (i := 1399) (by decide +kernel), List.mem_of_getElem? (i := 1665) (by decide +kernel), List.mem_of_getElem? (i := 1666) (by decide +kernel)⟩
def lw_privs_4 : List (MethodName × Nat) := [(⟨"LostMuseumModel", "starts", "(I)V"⟩, 51), (⟨"LostMuseumModel", "blanks", "()V"⟩, 51), (⟨"LostMuseumModel", "byteAt", "(I)I"⟩, 51), (⟨"LostMuseumModel", "clause", "()V"⟩, 51), (⟨"LostMuseumModel", "kindHere", "()I"⟩, 51), (⟨"LostMuseumModel", "isWord", "(IIIIII)Z"⟩, 51), (⟨"LostMuseumModel", "wordHere", "()I"⟩, 51), (⟨"LostMuseumModel", "wrong", "(II)V"⟩, 51), (⟨"LostMuseumModel", "skipWord", "()V"⟩, 51), (⟨"LostMuseumModel", "number", "(II)I"⟩, 51), (⟨"LostMuseumModel", "roomHere", "()I"⟩, 51), (⟨"LostMuseumModel", "sign", "(I)V"⟩, 51), (⟨"LostMuseumModel", "ends2", "()I"⟩, 51), (⟨"LostMuseumModel", "sum", "()V"⟩, 51), (⟨"LostMuseumModel", "product", "()V"⟩, 51), (⟨"LostMuseumModel", "one", "()V"⟩, 51)]
theorem lw_r4 : ∀ q ∈ lw_privs_4, lw_okq q := List.forall_mem_cons.mpr ⟨lw_p48, List.forall_mem_cons.mpr ⟨lw_p49, List.forall_mem_cons.mpr ⟨lw_p50, List.forall_mem_cons.mpr ⟨lw_p51, List.forall_mem_cons.mpr ⟨lw_p52, List.forall_mem_cons.mpr ⟨lw_p53, List.forall_mem_cons.mpr ⟨lw_p54, List.forall_mem_cons.mpr ⟨lw_p55, List.forall_mem_cons.mpr ⟨lw_p56, List.forall_mem_cons.mpr ⟨lw_p57, List.forall_mem_cons.mpr ⟨lw_p58, List.forall_mem_cons.mpr ⟨lw_p59, List.forall_mem_cons.mpr ⟨lw_p60, List.forall_mem_cons.mpr ⟨lw_p61, List.forall_mem_cons.mpr ⟨lw_p62, List.forall_mem_cons.mpr ⟨lw_p63, fun _ h => absurd h List.not_mem_nil⟩⟩⟩⟩⟩⟩⟩⟩⟩⟩⟩⟩⟩⟩⟩⟩
theorem lw_p64 : lw_okq (⟨"LostMuseumModel", "opensOne", "()Z"⟩, 51) := ⟨⟨by decide +kernel, by decide +kernel⟩, List.mem_of_getElem? (i := 1399) (by decide +kernel), List.mem_of_getElem? (i := 1669) (by decide +kernel), List.mem_of_getElem? (i := 1670) (by decide +kernel)⟩
theorem lw_p65 : lw_okq (⟨"LostMuseumModel", "notes", "(II)V"⟩, 51) := ⟨⟨by decide +kernel, by decide +kernel⟩, List.mem_of_getElem? (i := 1399) (by decide +kernel), List.mem_of_getElem? (i := 1673) (by decide +kernel), List.mem_of_getElem? (i := 1674) (by decide +kernel)⟩
theorem lw_p66 : lw_okq (⟨"LostMuseumModel", "knownHere", "()I"⟩, 51) := ⟨⟨by decide +kernel, by decide +kernel⟩, List.mem_of_getElem? (i := 1399) (by decide +kernel), List.mem_of_getElem? (i := 1677) (by decide +kernel), List.mem_of_getElem? (i := 1678) (by decide +kernel)⟩
theorem lw_p67 : lw_okq (⟨"LostMuseumModel", "takes", "(IIIIII)Z"⟩, 51) := ⟨⟨by decide +kernel, by decide +kernel⟩, List.mem_of_getElem? (i := 1399) (by decide +kernel), List.mem_of_getElem? (i := 1681) (by decide +kernel), List.mem_of_getElem? (i := 1682) (by decide +kernel)⟩
theorem lw_p68 : lw_okq (⟨"LostMuseumModel", "isTo", "()Z"⟩, 51) := ⟨⟨by decide +kernel, by decide +kernel⟩, List.mem_of_getElem? (i := 1399) (by decide +kernel), List.mem_of_getElem? (i := 1685) (by decide +kernel), List.mem_of_getElem? (i := 1686) (by decide +kernel)⟩
theorem lw_p69 : lw_okq (⟨"LostMuseumModel", "takesSign", "(I)Z"⟩, 51) := ⟨⟨by decide +kernel, by decide +kernel⟩, List.mem_of_getElem? (i := 1399) (by decide +kernel), List.mem_of_getElem? (i := 1689) (by decide +kernel), List.mem_of_getElem? (i := 1690) (by decide +kernel)⟩
theorem lw_p70 : lw_okq (⟨"LostMuseumModel", "readsStep", "()V"⟩, 51) := ⟨⟨by decide +kernel, by decide +kernel⟩, List.mem_of_getElem? (i := 1399) (by decide +kernel), List.mem_of_getElem? (i := 1705) (by decide +kernel), List.mem_of_getElem? (i := 1706) (by decide +kernel)⟩
theorem lw_p71 : lw_okq (⟨"LostMuseumModel", "stepHere", "()I"⟩, 51) := ⟨⟨by decide +kernel, by decide +kernel⟩, List.mem_of_getElem? (i := 1399) (by decide +kernel), List.mem_of_getElem? (i := 1709) (by decide +kernel), List.mem_of_getElem? (i := 1710) (by decide +kernel)⟩
theorem lw_p72 : lw_okq (⟨"LostMuseumModel", "goes", "(II)V"⟩, 51) := ⟨⟨by decide +kernel, by decide +kernel⟩, List.mem_of_getElem? (i := 1399) (by decide +kernel), List.mem_of_getElem? (i := 1716) (by decide +kernel), List.mem_of_getElem? (i := 1717) (by decide +kernel)⟩
theorem lw_p73 : lw_okq (⟨"LostMuseumModel", "does", "([I[I)Z"⟩, 51) := ⟨⟨by decide +kernel, by decide +kernel⟩, List.mem_of_getElem? (i := 1399) (by decide +kernel), List.mem_of_getElem? (i := 1720) (by decide +kernel), List.mem_of_getElem? (i := 1721) (by decide +kernel)⟩
theorem lw_p74 : lw_okq (⟨"LostMuseumModel", "isOpenIn", "([III)Z"⟩, 51) := ⟨⟨by decide +kernel, by decide +kernel⟩, List.mem_of_getElem? (i := 1399) (by decide +kernel), List.mem_of_getElem? (i := 1724) (by decide +kernel), List.mem_of_getElem? (i := 1725) (by decide +kernel)⟩
theorem lw_p75 : lw_okq (⟨"LostMuseumModel", "isOpenBy", "([IIII)Z"⟩, 51) := ⟨⟨by decide +kernel, by decide +kernel⟩, List.mem_of_getElem? (i := 1399) (by decide +kernel), List.mem_of_getElem? (i := 1728) (by decide +kernel), List.mem_of_getElem? (i := 1729) (by decide +kernel)⟩
theorem lw_p76 : lw_okq (⟨"LostMuseumModel", "isLawful", "([IIII)Z"⟩, 51) := ⟨⟨by decide +kernel, by decide +kernel⟩, List.mem_of_getElem? (i := 1399) (by decide +kernel), List.mem_of_getElem? (i := 1735) (by decide +kernel), List.mem_of_getElem? (i := 1736) (by decide +kernel)⟩
theorem lw_p77 : lw_okq (⟨"LostMuseumModel", "byLaw", "()I"⟩, 51) := ⟨⟨by decide +kernel, by decide +kernel⟩, List.mem_of_getElem? (i := 1399) (by decide +kernel), List.mem_of_getElem? (i := 1739) (by decide +kernel), List.mem_of_getElem? (i := 1740) (by decide +kernel)⟩
theorem lw_p78 : lw_okq (⟨"LostMuseumModel", "sumOf", "(I)I"⟩, 51) := ⟨⟨by decide +kernel, by decide +kernel⟩, List.mem_of_getElem? (i := 1399) (by decide +kernel), List.mem_of_getElem? (i := 1760) (by decide +kernel), List.mem_of_getElem? (i := 1761) (by decide +kernel)⟩
theorem lw_p79 : lw_okq (⟨"LostMuseumModel", "isRoom", "(I)Z"⟩, 51) := ⟨⟨by decide +kernel, by decide +kernel⟩, List.mem_of_getElem? (i := 1399) (by decide +kernel), List.mem_of_getElem? (i := 1768) (by decide +kernel), List.mem_of_getElem? (i := 1769) (by decide +kernel)⟩
def lw_privs_5 : List (MethodName × Nat) := [(⟨"LostMuseumModel", "opensOne", "()Z"⟩, 51), (⟨"LostMuseumModel", "notes", "(II)V"⟩, 51), (⟨"LostMuseumModel", "knownHere", "()I"⟩, 51), (⟨"LostMuseumModel", "takes", "(IIIIII)Z"⟩, 51), (⟨"LostMuseumModel", "isTo", "()Z"⟩, 51), (⟨"LostMuseumModel", "takesSign", "(I)Z"⟩, 51), (⟨"LostMuseumModel", "readsStep", "()V"⟩, 51), (⟨"LostMuseumModel", "stepHere", "()I"⟩, 51), (⟨"LostMuseumModel", "goes", "(II)V"⟩, 51), (⟨"LostMuseumModel", "does", "([I[I)Z"⟩, 51), (⟨"LostMuseumModel", "isOpenIn", "([III)Z"⟩, 51), (⟨"LostMuseumModel", "isOpenBy", "([IIII)Z"⟩, 51), (⟨"LostMuseumModel", "isLawful", "([IIII)Z"⟩, 51), (⟨"LostMuseumModel", "byLaw", "()I"⟩, 51), (⟨"LostMuseumModel", "sumOf", "(I)I"⟩, 51), (⟨"LostMuseumModel", "isRoom", "(I)Z"⟩, 51)]
theorem lw_r5 : ∀ q ∈ lw_privs_5, lw_okq q := List.forall_mem_cons.mpr ⟨lw_p64, List.forall_mem_cons.mpr ⟨lw_p65, List.forall_mem_cons.mpr ⟨lw_p66, List.forall_mem_cons.mpr ⟨lw_p67, List.forall_mem_cons.mpr ⟨lw_p68, List.forall_mem_cons.mpr ⟨lw_p69, List.forall_mem_cons.mpr ⟨lw_p70, List.forall_mem_cons.mpr ⟨lw_p71, List.forall_mem_cons.mpr ⟨lw_p72, List.forall_mem_cons.mpr ⟨lw_p73, List.forall_mem_cons.mpr ⟨lw_p74, List.forall_mem_cons.mpr ⟨lw_p75, List.forall_mem_cons.mpr ⟨lw_p76, List.forall_mem_cons.mpr ⟨lw_p77, List.forall_mem_cons.mpr ⟨lw_p78, List.forall_mem_cons.mpr ⟨lw_p79, fun _ h => absurd h List.not_mem_nil⟩⟩⟩⟩⟩⟩⟩⟩⟩⟩⟩⟩⟩⟩⟩⟩
theorem lw_p80 : lw_okq (⟨"LostMuseumModel", "isExit", "(I)Z"⟩, 51) := ⟨⟨by decide +kernel, by decide +kernel⟩, List.mem_of_getElem? (i := 1399) (by decide +kernel), List.mem_of_getElem? (i := 1772) (by decide +kernel), List.mem_of_getElem? (i := 1773) (by decide +kernel)⟩
theorem lw_p81 : lw_okq (⟨"LostMuseumModel", "toursIn", "(I)I"⟩, 51) := ⟨⟨by decide +kernel, by decide +kernel⟩, List.mem_of_getElem? (i := 1399) (by decide +kernel), List.mem_of_getElem? (i := 1779) (by decide +kernel), List.mem_of_getElem? (i := 1780) (by decide +kernel)⟩
theorem lw_p82 : lw_okq (⟨"LostMuseumModel", "doorsOf", "(III)I"⟩, 51) := ⟨⟨by decide +kernel, by decide +kernel⟩, List.mem_of_getElem? (i := 1399) (by decide +kernel), List.mem_of_getElem? (i := 1783) (by decide +kernel), List.mem_of_getElem? (i := 1784) (by decide +kernel)⟩
theorem lw_p83 : lw_okq (⟨"LostMuseumModel", "isDoor", "(I)Z"⟩, 51) := ⟨⟨by decide +kernel, by decide +kernel⟩, List.mem_of_getElem? (i := 1399) (by decide +kernel), List.mem_of_getElem? (i := 1791) (by decide +kernel), List.mem_of_getElem? (i := 1792) (by decide +kernel)⟩
theorem lw_p84 : lw_okq (⟨"LostMuseumModel", "fitsNow", "()I"⟩, 51) := ⟨⟨by decide +kernel, by decide +kernel⟩, List.mem_of_getElem? (i := 1399) (by decide +kernel), List.mem_of_getElem? (i := 1807) (by decide +kernel), List.mem_of_getElem? (i := 1808) (by decide +kernel)⟩
theorem lw_p85 : lw_okq (⟨"LostMuseumModel", "allRooms", "()I"⟩, 51) := ⟨⟨by decide +kernel, by decide +kernel⟩, List.mem_of_getElem? (i := 1399) (by decide +kernel), List.mem_of_getElem? (i := 1811) (by decide +kernel), List.mem_of_getElem? (i := 1812) (by decide +kernel)⟩
theorem lw_p86 : lw_okq (⟨"LostMuseumModel", "behind", "(I)I"⟩, 51) := ⟨⟨by decide +kernel, by decide +kernel⟩, List.mem_of_getElem? (i := 1399) (by decide +kernel), List.mem_of_getElem? (i := 1815) (by decide +kernel), List.mem_of_getElem? (i := 1816) (by decide +kernel)⟩
theorem lw_p87 : lw_okq (⟨"LostMuseumModel", "seen", "(II)I"⟩, 51) := ⟨⟨by decide +kernel, by decide +kernel⟩, List.mem_of_getElem? (i := 1399) (by decide +kernel), List.mem_of_getElem? (i := 1819) (by decide +kernel), List.mem_of_getElem? (i := 1820) (by decide +kernel)⟩
theorem lw_p88 : lw_okq (⟨"LostMuseumModel", "isKnown", "(II)Z"⟩, 51) := ⟨⟨by decide +kernel, by decide +kernel⟩, List.mem_of_getElem? (i := 1399) (by decide +kernel), List.mem_of_getElem? (i := 1831) (by decide +kernel), List.mem_of_getElem? (i := 1832) (by decide +kernel)⟩
theorem lw_p89 : lw_okq (⟨"LostMuseumModel", "laysSlips", "()V"⟩, 51) := ⟨⟨by decide +kernel, by decide +kernel⟩, List.mem_of_getElem? (i := 1399) (by decide +kernel), List.mem_of_getElem? (i := 1842) (by decide +kernel), List.mem_of_getElem? (i := 1843) (by decide +kernel)⟩
theorem lw_p90 : lw_okq (⟨"LostMuseumModel", "soonTo", "(II)I"⟩, 51) := ⟨⟨by decide +kernel, by decide +kernel⟩, List.mem_of_getElem? (i := 1399) (by decide +kernel), List.mem_of_getElem? (i := 1850) (by decide +kernel), List.mem_of_getElem? (i := 1851) (by decide +kernel)⟩
theorem lw_p91 : lw_okq (⟨"LostMuseumModel", "behindIn", "(II)I"⟩, 51) := ⟨⟨by decide +kernel, by decide +kernel⟩, List.mem_of_getElem? (i := 1399) (by decide +kernel), List.mem_of_getElem? (i := 1854) (by decide +kernel), List.mem_of_getElem? (i := 1855) (by decide +kernel)⟩
theorem lw_p92 : lw_okq (⟨"LostMuseumModel", "laysWays", "()V"⟩, 51) := ⟨⟨by decide +kernel, by decide +kernel⟩, List.mem_of_getElem? (i := 1399) (by decide +kernel), List.mem_of_getElem? (i := 1870) (by decide +kernel), List.mem_of_getElem? (i := 1871) (by decide +kernel)⟩
theorem lw_p93 : lw_okq (⟨"LostMuseumModel", "stringTo", "(I)I"⟩, 51) := ⟨⟨by decide +kernel, by decide +kernel⟩, List.mem_of_getElem? (i := 1399) (by decide +kernel), List.mem_of_getElem? (i := 1874) (by decide +kernel), List.mem_of_getElem? (i := 1875) (by decide +kernel)⟩
theorem lw_p94 : lw_okq (⟨"LostMuseumModel", "wingOf", "(I)I"⟩, 51) := ⟨⟨by decide +kernel, by decide +kernel⟩, List.mem_of_getElem? (i := 1399) (by decide +kernel), List.mem_of_getElem? (i := 1893) (by decide +kernel), List.mem_of_getElem? (i := 1894) (by decide +kernel)⟩
theorem lw_p95 : lw_okq (⟨"LostMuseumModel", "laysRounds", "(I)V"⟩, 51) := ⟨⟨by decide +kernel, by decide +kernel⟩, List.mem_of_getElem? (i := 1399) (by decide +kernel), List.mem_of_getElem? (i := 1905) (by decide +kernel), List.mem_of_getElem? (i := 1906) (by decide +kernel)⟩
def lw_privs_6 : List (MethodName × Nat) := [(⟨"LostMuseumModel", "isExit", "(I)Z"⟩, 51), (⟨"LostMuseumModel", "toursIn", "(I)I"⟩, 51), (⟨"LostMuseumModel", "doorsOf", "(III)I"⟩, 51), (⟨"LostMuseumModel", "isDoor", "(I)Z"⟩, 51), (⟨"LostMuseumModel", "fitsNow", "()I"⟩, 51), (⟨"LostMuseumModel", "allRooms", "()I"⟩, 51), (⟨"LostMuseumModel", "behind", "(I)I"⟩, 51), (⟨"LostMuseumModel", "seen", "(II)I"⟩, 51), (⟨"LostMuseumModel", "isKnown", "(II)Z"⟩, 51), (⟨"LostMuseumModel", "laysSlips", "()V"⟩, 51), (⟨"LostMuseumModel", "soonTo", "(II)I"⟩, 51), (⟨"LostMuseumModel", "behindIn", "(II)I"⟩, 51), (⟨"LostMuseumModel", "laysWays", "()V"⟩, 51), (⟨"LostMuseumModel", "stringTo", "(I)I"⟩, 51), (⟨"LostMuseumModel", "wingOf", "(I)I"⟩, 51), (⟨"LostMuseumModel", "laysRounds", "(I)V"⟩, 51)]
theorem lw_r6 : ∀ q ∈ lw_privs_6, lw_okq q := List.forall_mem_cons.mpr ⟨lw_p80, List.forall_mem_cons.mpr ⟨lw_p81, List.forall_mem_cons.mpr ⟨lw_p82, List.forall_mem_cons.mpr ⟨lw_p83, List.forall_mem_cons.mpr ⟨lw_p84, List.forall_mem_cons.mpr ⟨lw_p85, List.forall_mem_cons.mpr ⟨lw_p86, List.forall_mem_cons.mpr ⟨lw_p87, List.forall_mem_cons.mpr ⟨lw_p88, List.forall_mem_cons.mpr ⟨lw_p89, List.forall_mem_cons.mpr ⟨lw_p90, List.forall_mem_cons.mpr ⟨lw_p91, List.forall_mem_cons.mpr ⟨lw_p92, List.forall_mem_cons.mpr ⟨lw_p93, List.forall_mem_cons.mpr ⟨lw_p94, List.forall_mem_cons.mpr ⟨lw_p95, fun _ h => absurd h List.not_mem_nil⟩⟩⟩⟩⟩⟩⟩⟩⟩⟩⟩⟩⟩⟩⟩⟩
theorem lw_p96 : lw_okq (⟨"LostMuseumModel", "roundTo", "()I"⟩, 51) := ⟨⟨by decide +kernel, by decide +kernel⟩, List.mem_of_getElem? (i := 1399) (by decide +kernel), List.mem_of_getElem? (i := 1909) (by decide +kernel), List.mem_of_getElem? (i := 1910) (by decide +kernel)⟩
theorem lw_p97 : lw_okq (⟨"LostMuseumModel", "flowsTo", "(III)I"⟩, 51) := ⟨⟨by decide +kernel, by decide +kernel⟩, List.mem_of_getElem? (i := 1399) (by decide +kernel), List.mem_of_getElem? (i := 1925) (by decide +kernel), List.mem_of_getElem? (i := 1926) (by decide +kernel)⟩
theorem lw_p98 : lw_okq (⟨"LostMuseumModel", "isMore", "(III)Z"⟩, 51) := ⟨⟨by decide +kernel, by decide +kernel⟩, List.mem_of_getElem? (i := 1399) (by decide +kernel), List.mem_of_getElem? (i := 1929) (by decide +kernel), List.mem_of_getElem? (i := 1930) (by decide +kernel)⟩
theorem lw_p99 : lw_okq (⟨"LostMuseumModel", "walksBy", "(III)I"⟩, 51) := ⟨⟨by decide +kernel, by decide +kernel⟩, List.mem_of_getElem? (i := 1399) (by decide +kernel), List.mem_of_getElem? (i := 1967) (by decide +kernel), List.mem_of_getElem? (i := 1968) (by decide +kernel)⟩
theorem lw_p100 : lw_okq (⟨"LostMuseumModel", "behindDoor", "(III)I"⟩, 51) := ⟨⟨by decide +kernel, by decide +kernel⟩, List.mem_of_getElem? (i := 1399) (by decide +kernel), List.mem_of_getElem? (i := 1972) (by decide +kernel), List.mem_of_getElem? (i := 1973) (by decide +kernel)⟩
theorem lw_p101 : lw_okq (⟨"LostMuseumModel", "putsAll", "([IZ)V"⟩, 51) := ⟨⟨by decide +kernel, by decide +kernel⟩, List.mem_of_getElem? (i := 1399) (by decide +kernel), List.mem_of_getElem? (i := 1987) (by decide +kernel), List.mem_of_getElem? (i := 1988) (by decide +kernel)⟩
theorem lw_p102 : lw_okq (⟨"LostMuseumModel", "puts", "([IIZ)I"⟩, 51) := ⟨⟨by decide +kernel, by decide +kernel⟩, List.mem_of_getElem? (i := 1399) (by decide +kernel), List.mem_of_getElem? (i := 1991) (by decide +kernel), List.mem_of_getElem? (i := 1992) (by decide +kernel)⟩
def lw_privs_7 : List (MethodName × Nat) := [(⟨"LostMuseumModel", "roundTo", "()I"⟩, 51), (⟨"LostMuseumModel", "flowsTo", "(III)I"⟩, 51), (⟨"LostMuseumModel", "isMore", "(III)Z"⟩, 51), (⟨"LostMuseumModel", "walksBy", "(III)I"⟩, 51), (⟨"LostMuseumModel", "behindDoor", "(III)I"⟩, 51), (⟨"LostMuseumModel", "putsAll", "([IZ)V"⟩, 51), (⟨"LostMuseumModel", "puts", "([IIZ)I"⟩, 51)]
theorem lw_r7 : ∀ q ∈ lw_privs_7, lw_okq q := List.forall_mem_cons.mpr ⟨lw_p96, List.forall_mem_cons.mpr ⟨lw_p97, List.forall_mem_cons.mpr ⟨lw_p98, List.forall_mem_cons.mpr ⟨lw_p99, List.forall_mem_cons.mpr ⟨lw_p100, List.forall_mem_cons.mpr ⟨lw_p101, List.forall_mem_cons.mpr ⟨lw_p102, fun _ h => absurd h List.not_mem_nil⟩⟩⟩⟩⟩⟩⟩
def lw_privs : List (MethodName × Nat) := lw_privs_1 ++ (lw_privs_2 ++ (lw_privs_3 ++ (lw_privs_4 ++ (lw_privs_5 ++ (lw_privs_6 ++ (lw_privs_7))))))
def lw_tbl : List Cond := k2_sels lw_privs ++ tables_1
theorem lw_privs_ok : ∀ q ∈ lw_privs, lw_okq q := by
  show ∀ q ∈ lw_privs_1 ++ (lw_privs_2 ++ (lw_privs_3 ++ (lw_privs_4 ++ (lw_privs_5 ++ (lw_privs_6 ++ (lw_privs_7)))))), lw_okq q
  exact List.forall_mem_append.mpr ⟨lw_r1, List.forall_mem_append.mpr ⟨lw_r2, List.forall_mem_append.mpr ⟨lw_r3, List.forall_mem_append.mpr ⟨lw_r4, List.forall_mem_append.mpr ⟨lw_r5, List.forall_mem_append.mpr ⟨lw_r6, lw_r7⟩⟩⟩⟩⟩⟩
end
section
def RX0 : String := "LostMuseum$Graph"
def TX0 : u_T := fun k => match k with
  | 0 => ("LostMuseum$Graph", "plan", "LLostMuseum$Plan;", true)
  | 1 => ("LostMuseum$Graph", "state", "LLostMuseum$State;", true)
  | 2 => ("LostMuseum$Graph", "ahead", "[I", true)
  | 3 => ("LostMuseum$Graph", "behind", "[I", true)
  | 4 => ("LostMuseum$Graph", "likely", "[J", true)
  | 5 => ("LostMuseum$Graph", "ended", "[I", true)
  | 6 => ("LostMuseum$Graph", "fresh", "[I", true)
  | 7 => ("LostMuseum$Graph", "later", "[I", true)
  | 8 => ("LostMuseum$Graph", "many", "I", false)
  | _ => ("LostMuseum$Graph", "where", "I", false)
def tyX0 : Nat → FieldType := fun k => match k with
  | 0 => .object "LostMuseum$Plan"
  | 1 => .object "LostMuseum$State"
  | 2 => .array .int
  | 3 => .array .int
  | 4 => .array .long
  | 5 => .array .int
  | 6 => .array .int
  | 7 => .array .int
  | 8 => .int
  | _ => .int
theorem nmX0 : ∀ a, a < 10 → ∀ b, b < 10 → a ≠ b → (TX0 a).2.1 ≠ (TX0 b).2.1 := by decide +kernel
theorem tyX0_ok : ∀ k, k < 10 → parseFieldDescriptor (TX0 k).2.2.1 = some (tyX0 k) := by decide +kernel

def RX1 : String := "LostMuseum$Hours"
def TX1 : u_T := fun k => match k with
  | 0 => ("LostMuseum$Hours", "plan", "LLostMuseum$Plan;", true)
  | 1 => ("LostMuseum$Hours", "state", "LLostMuseum$State;", true)
  | _ => ("LostMuseum$Hours", "law", "LLostMuseum$Law;", true)
def tyX1 : Nat → FieldType := fun k => match k with
  | 0 => .object "LostMuseum$Plan"
  | 1 => .object "LostMuseum$State"
  | _ => .object "LostMuseum$Law"
theorem nmX1 : ∀ a, a < 3 → ∀ b, b < 3 → a ≠ b → (TX1 a).2.1 ≠ (TX1 b).2.1 := by decide +kernel
theorem tyX1_ok : ∀ k, k < 3 → parseFieldDescriptor (TX1 k).2.2.1 = some (tyX1 k) := by decide +kernel

def RX2 : String := "LostMuseum$Law"
def TX2 : u_T := fun k => match k with
  | 0 => ("LostMuseum$Law", "codes", "[I", true)
  | 1 => ("LostMuseum$Law", "drafted", "[I", true)
  | 2 => ("LostMuseum$Law", "stack", "[I", true)
  | 3 => ("LostMuseum$Law", "length", "I", false)
  | _ => ("LostMuseum$Law", "draftLength", "I", false)
def tyX2 : Nat → FieldType := fun k => match k with
  | 0 => .array .int
  | 1 => .array .int
  | 2 => .array .int
  | 3 => .int
  | _ => .int
theorem nmX2 : ∀ a, a < 5 → ∀ b, b < 5 → a ≠ b → (TX2 a).2.1 ≠ (TX2 b).2.1 := by decide +kernel
theorem tyX2_ok : ∀ k, k < 5 → parseFieldDescriptor (TX2 k).2.2.1 = some (tyX2 k) := by decide +kernel

def RX3 : String := "LostMuseum$Parting"
def TX3 : u_T := fun k => match k with
  | 0 => ("LostMuseum$Parting", "plan", "LLostMuseum$Plan;", true)
  | 1 => ("LostMuseum$Parting", "state", "LLostMuseum$State;", true)
  | 2 => ("LostMuseum$Parting", "queue", "[I", true)
  | 3 => ("LostMuseum$Parting", "via", "[I", true)
  | 4 => ("LostMuseum$Parting", "before", "[I", true)
  | _ => ("LostMuseum$Parting", "taken", "I", false)
def tyX3 : Nat → FieldType := fun k => match k with
  | 0 => .object "LostMuseum$Plan"
  | 1 => .object "LostMuseum$State"
  | 2 => .array .int
  | 3 => .array .int
  | 4 => .array .int
  | _ => .int
theorem nmX3 : ∀ a, a < 6 → ∀ b, b < 6 → a ≠ b → (TX3 a).2.1 ≠ (TX3 b).2.1 := by decide +kernel
theorem tyX3_ok : ∀ k, k < 6 → parseFieldDescriptor (TX3 k).2.2.1 = some (tyX3 k) := by decide +kernel

def RX4 : String := "LostMuseum$Plan"
def TX4 : u_T := fun k => match k with
  | 0 => ("LostMuseum$Plan", "rooms", "I", false)
  | 1 => ("LostMuseum$Plan", "doors", "I", false)
  | 2 => ("LostMuseum$Plan", "tours", "I", false)
  | 3 => ("LostMuseum$Plan", "exits", "I", false)
  | 4 => ("LostMuseum$Plan", "sees", "[I", true)
  | 5 => ("LostMuseum$Plan", "asleep", "[I", true)
  | 6 => ("LostMuseum$Plan", "leaving", "[I", true)
  | 7 => ("LostMuseum$Plan", "entering", "[I", true)
  | 8 => ("LostMuseum$Plan", "seeing", "[I", true)
  | 9 => ("LostMuseum$Plan", "from", "[I", true)
  | 10 => ("LostMuseum$Plan", "to", "[I", true)
  | 11 => ("LostMuseum$Plan", "opens", "[I", true)
  | 12 => ("LostMuseum$Plan", "shuts", "[I", true)
  | _ => ("LostMuseum$Plan", "stands", "[I", true)
def tyX4 : Nat → FieldType := fun k => match k with
  | 0 => .int
  | 1 => .int
  | 2 => .int
  | 3 => .int
  | 4 => .array .int
  | 5 => .array .int
  | 6 => .array .int
  | 7 => .array .int
  | 8 => .array .int
  | 9 => .array .int
  | 10 => .array .int
  | 11 => .array .int
  | 12 => .array .int
  | _ => .array .int
theorem nmX4 : ∀ a, a < 14 → ∀ b, b < 14 → a ≠ b → (TX4 a).2.1 ≠ (TX4 b).2.1 := by decide +kernel
theorem tyX4_ok : ∀ k, k < 14 → parseFieldDescriptor (TX4 k).2.2.1 = some (tyX4 k) := by decide +kernel

def RX5 : String := "LostMuseum$Reader"
def TX5 : u_T := fun k => match k with
  | 0 => ("LostMuseum$Reader", "text", "[B", true)
  | 1 => ("LostMuseum$Reader", "length", "I", false)
  | 2 => ("LostMuseum$Reader", "at", "I", false)
  | 3 => ("LostMuseum$Reader", "wordEnd", "I", false)
  | 4 => ("LostMuseum$Reader", "start", "I", false)
  | 5 => ("LostMuseum$Reader", "value", "I", false)
  | 6 => ("LostMuseum$Reader", "faultKind", "I", false)
  | _ => ("LostMuseum$Reader", "faultPlace", "I", false)
def tyX5 : Nat → FieldType := fun k => match k with
  | 0 => .array .byte
  | 1 => .int
  | 2 => .int
  | 3 => .int
  | 4 => .int
  | 5 => .int
  | 6 => .int
  | _ => .int
theorem nmX5 : ∀ a, a < 8 → ∀ b, b < 8 → a ≠ b → (TX5 a).2.1 ≠ (TX5 b).2.1 := by decide +kernel
theorem tyX5_ok : ∀ k, k < 8 → parseFieldDescriptor (TX5 k).2.2.1 = some (tyX5 k) := by decide +kernel

def RX6 : String := "LostMuseum$Sleeper"
def TX6 : u_T := fun k => match k with
  | 0 => ("LostMuseum$Sleeper", "plan", "LLostMuseum$Plan;", true)
  | 1 => ("LostMuseum$Sleeper", "state", "LLostMuseum$State;", true)
  | 2 => ("LostMuseum$Sleeper", "hours", "LLostMuseum$Hours;", true)
  | 3 => ("LostMuseum$Sleeper", "known", "[I", true)
  | 4 => ("LostMuseum$Sleeper", "open", "[I", true)
  | 5 => ("LostMuseum$Sleeper", "seed", "I", false)
  | 6 => ("LostMuseum$Sleeper", "stands", "I", false)
  | 7 => ("LostMuseum$Sleeper", "been", "I", false)
  | _ => ("LostMuseum$Sleeper", "passed", "I", false)
def tyX6 : Nat → FieldType := fun k => match k with
  | 0 => .object "LostMuseum$Plan"
  | 1 => .object "LostMuseum$State"
  | 2 => .object "LostMuseum$Hours"
  | 3 => .array .int
  | 4 => .array .int
  | 5 => .int
  | 6 => .int
  | 7 => .int
  | _ => .int
theorem nmX6 : ∀ a, a < 9 → ∀ b, b < 9 → a ≠ b → (TX6 a).2.1 ≠ (TX6 b).2.1 := by decide +kernel
theorem tyX6_ok : ∀ k, k < 9 → parseFieldDescriptor (TX6 k).2.2.1 = some (tyX6 k) := by decide +kernel

def RX7 : String := "LostMuseum$State"
def TX7 : u_T := fun k => match k with
  | 0 => ("LostMuseum$State", "hour", "I", false)
  | 1 => ("LostMuseum$State", "met", "I", false)
  | 2 => ("LostMuseum$State", "barred", "I", false)
  | 3 => ("LostMuseum$State", "used", "[I", true)
  | _ => ("LostMuseum$State", "stands", "[I", true)
def tyX7 : Nat → FieldType := fun k => match k with
  | 0 => .int
  | 1 => .int
  | 2 => .int
  | 3 => .array .int
  | _ => .array .int
theorem nmX7 : ∀ a, a < 5 → ∀ b, b < 5 → a ≠ b → (TX7 a).2.1 ≠ (TX7 b).2.1 := by decide +kernel
theorem tyX7_ok : ∀ k, k < 5 → parseFieldDescriptor (TX7 k).2.2.1 = some (tyX7 k) := by decide +kernel

def RX8 : String := "LostMuseum$Timeline"
def TX8 : u_T := fun k => match k with
  | 0 => ("LostMuseum$Timeline", "now", "LLostMuseum$State;", true)
  | 1 => ("LostMuseum$Timeline", "before", "[LLostMuseum$State;", true)
  | _ => ("LostMuseum$Timeline", "works", "I", false)
def tyX8 : Nat → FieldType := fun k => match k with
  | 0 => .object "LostMuseum$State"
  | 1 => .array (.object "LostMuseum$State")
  | _ => .int
theorem nmX8 : ∀ a, a < 3 → ∀ b, b < 3 → a ≠ b → (TX8 a).2.1 ≠ (TX8 b).2.1 := by decide +kernel
theorem tyX8_ok : ∀ k, k < 3 → parseFieldDescriptor (TX8 k).2.2.1 = some (tyX8 k) := by decide +kernel

def RX9 : String := "LostMuseum$Walk"
def TX9 : u_T := fun k => match k with
  | 0 => ("LostMuseum$Walk", "plan", "LLostMuseum$Plan;", true)
  | 1 => ("LostMuseum$Walk", "graph", "LLostMuseum$Graph;", true)
  | 2 => ("LostMuseum$Walk", "lines", "[I", true)
  | 3 => ("LostMuseum$Walk", "drafted", "[I", true)
  | 4 => ("LostMuseum$Walk", "wrong", "[I", true)
  | 5 => ("LostMuseum$Walk", "beliefs", "[Z", true)
  | 6 => ("LostMuseum$Walk", "later", "[Z", true)
  | _ => ("LostMuseum$Walk", "length", "I", false)
def tyX9 : Nat → FieldType := fun k => match k with
  | 0 => .object "LostMuseum$Plan"
  | 1 => .object "LostMuseum$Graph"
  | 2 => .array .int
  | 3 => .array .int
  | 4 => .array .int
  | 5 => .array .boolean
  | 6 => .array .boolean
  | _ => .int
theorem nmX9 : ∀ a, a < 8 → ∀ b, b < 8 → a ≠ b → (TX9 a).2.1 ≠ (TX9 b).2.1 := by decide +kernel
theorem tyX9_ok : ∀ k, k < 8 → parseFieldDescriptor (TX9 k).2.2.1 = some (tyX9 k) := by decide +kernel

def RX10 : String := "LostMuseum$Work"
def TX10 : u_T := fun k => match k with
  | 0 => ("LostMuseum$Work", "kinds", "[I", true)
  | 1 => ("LostMuseum$Work", "firsts", "[I", true)
  | 2 => ("LostMuseum$Work", "seconds", "[I", true)
  | 3 => ("LostMuseum$Work", "left", "[I", true)
  | 4 => ("LostMuseum$Work", "length", "I", false)
  | 5 => ("LostMuseum$Work", "doneSteps", "I", false)
  | _ => ("LostMuseum$Work", "refusedSteps", "I", false)
def tyX10 : Nat → FieldType := fun k => match k with
  | 0 => .array .int
  | 1 => .array .int
  | 2 => .array .int
  | 3 => .array .int
  | 4 => .int
  | 5 => .int
  | _ => .int
theorem nmX10 : ∀ a, a < 7 → ∀ b, b < 7 → a ≠ b → (TX10 a).2.1 ≠ (TX10 b).2.1 := by decide +kernel
theorem tyX10_ok : ∀ k, k < 7 → parseFieldDescriptor (TX10 k).2.2.1 = some (tyX10 k) := by decide +kernel

def RX11 : String := "LostMuseum"
def TX11 : u_T := fun k => match k with
  | 0 => ("LostMuseum", "tape", "[B", true)
  | 1 => ("LostMuseum", "tapeBytes", "I", false)
  | 2 => ("LostMuseum", "faultPlace", "I", false)
  | 3 => ("LostMuseum", "notFound", "I", false)
  | 4 => ("LostMuseum", "illegal", "I", false)
  | 5 => ("LostMuseum", "refused", "I", false)
  | 6 => ("LostMuseum", "reader", "LLostMuseum$Reader;", true)
  | 7 => ("LostMuseum", "plan", "LLostMuseum$Plan;", true)
  | 8 => ("LostMuseum", "draft", "LLostMuseum$Plan;", true)
  | 9 => ("LostMuseum", "rule", "LLostMuseum$Law;", true)
  | 10 => ("LostMuseum", "orders", "LLostMuseum$Work;", true)
  | 11 => ("LostMuseum", "seen", "LLostMuseum$Walk;", true)
  | 12 => ("LostMuseum", "past", "LLostMuseum$Timeline;", true)
  | 13 => ("LostMuseum", "images", "[LLostMuseum$Timeline;", true)
  | 14 => ("LostMuseum", "imageCount", "I", false)
  | 15 => ("LostMuseum", "now", "LLostMuseum$State;", true)
  | 16 => ("LostMuseum", "hours", "LLostMuseum$Hours;", true)
  | 17 => ("LostMuseum", "graph", "LLostMuseum$Graph;", true)
  | 18 => ("LostMuseum", "parting", "LLostMuseum$Parting;", true)
  | _ => ("LostMuseum", "sleeper", "LLostMuseum$Sleeper;", true)
def tyX11 : Nat → FieldType := fun k => match k with
  | 0 => .array .byte
  | 1 => .int
  | 2 => .int
  | 3 => .int
  | 4 => .int
  | 5 => .int
  | 6 => .object "LostMuseum$Reader"
  | 7 => .object "LostMuseum$Plan"
  | 8 => .object "LostMuseum$Plan"
  | 9 => .object "LostMuseum$Law"
  | 10 => .object "LostMuseum$Work"
  | 11 => .object "LostMuseum$Walk"
  | 12 => .object "LostMuseum$Timeline"
  | 13 => .array (.object "LostMuseum$Timeline")
  | 14 => .int
  | 15 => .object "LostMuseum$State"
  | 16 => .object "LostMuseum$Hours"
  | 17 => .object "LostMuseum$Graph"
  | 18 => .object "LostMuseum$Parting"
  | _ => .object "LostMuseum$Sleeper"
theorem nmX11 : ∀ a, a < 20 → ∀ b, b < 20 → a ≠ b → (TX11 a).2.1 ≠ (TX11 b).2.1 := by decide +kernel
theorem tyX11_ok : ∀ k, k < 20 → parseFieldDescriptor (TX11 k).2.2.1 = some (tyX11 k) := by decide +kernel

def RX12 : String := "LostMuseumModel"
def TX12 : u_T := fun k => match k with
  | 0 => ("LostMuseumModel", "thrown", "I", false)
  | 1 => ("LostMuseumModel", "tape", "I", false)
  | 2 => ("LostMuseumModel", "size", "I", false)
  | 3 => ("LostMuseumModel", "place", "I", false)
  | 4 => ("LostMuseumModel", "at", "I", false)
  | 5 => ("LostMuseumModel", "fault", "I", false)
  | 6 => ("LostMuseumModel", "faultAt", "I", false)
  | 7 => ("LostMuseumModel", "clauses", "I", false)
  | 8 => ("LostMuseumModel", "open", "I", false)
  | 9 => ("LostMuseumModel", "fed", "[I", true)
  | 10 => ("LostMuseumModel", "refused", "[I", true)
  | 11 => ("LostMuseumModel", "readTold", "[I", true)
  | 12 => ("LostMuseumModel", "told", "[I", true)
  | 13 => ("LostMuseumModel", "readSees", "[I", true)
  | 14 => ("LostMuseumModel", "sees", "[I", true)
  | 15 => ("LostMuseumModel", "readSleeps", "[I", true)
  | 16 => ("LostMuseumModel", "sleeps", "[I", true)
  | 17 => ("LostMuseumModel", "readTour", "[I", true)
  | 18 => ("LostMuseumModel", "tour", "[I", true)
  | 19 => ("LostMuseumModel", "readDoor", "[[I", true)
  | 20 => ("LostMuseumModel", "door", "[[I", true)
  | 21 => ("LostMuseumModel", "lawMany", "I", false)
  | 22 => ("LostMuseumModel", "readLawMany", "I", false)
  | 23 => ("LostMuseumModel", "law", "[[I", true)
  | 24 => ("LostMuseumModel", "readLaw", "[[I", true)
  | 25 => ("LostMuseumModel", "stack", "[I", true)
  | 26 => ("LostMuseumModel", "known", "[I", true)
  | 27 => ("LostMuseumModel", "walk", "[I", true)
  | 28 => ("LostMuseumModel", "readWalk", "[I", true)
  | 29 => ("LostMuseumModel", "step", "[[I", true)
  | 30 => ("LostMuseumModel", "steps", "I", false)
  | 31 => ("LostMuseumModel", "now", "[I", true)
  | 32 => ("LostMuseumModel", "before", "[[I", true)
  | 33 => ("LostMuseumModel", "kept", "[[I", true)
  | 34 => ("LostMuseumModel", "far", "[[I", true)
  | 35 => ("LostMuseumModel", "lines", "I", false)
  | 36 => ("LostMuseumModel", "works", "I", false)
  | 37 => ("LostMuseumModel", "refusedSteps", "I", false)
  | 38 => ("LostMuseumModel", "images", "I", false)
  | 39 => ("LostMuseumModel", "spot", "I", false)
  | 40 => ("LostMuseumModel", "begun", "I", false)
  | 41 => ("LostMuseumModel", "doneSteps", "I", false)
  | 42 => ("LostMuseumModel", "slipsFrom", "[[I", true)
  | 43 => ("LostMuseumModel", "firstFrom", "[[I", true)
  | 44 => ("LostMuseumModel", "rounds", "[[I", true)
  | 45 => ("LostMuseumModel", "flow", "[I", true)
  | 46 => ("LostMuseumModel", "seenRooms", "I", false)
  | 47 => ("LostMuseumModel", "likely", "[J", true)
  | 48 => ("LostMuseumModel", "likelier", "[J", true)
  | 49 => ("LostMuseumModel", "beenIn", "I", false)
  | _ => ("LostMuseumModel", "passed", "I", false)
def tyX12 : Nat → FieldType := fun k => match k with
  | 0 => .int
  | 1 => .int
  | 2 => .int
  | 3 => .int
  | 4 => .int
  | 5 => .int
  | 6 => .int
  | 7 => .int
  | 8 => .int
  | 9 => .array .int
  | 10 => .array .int
  | 11 => .array .int
  | 12 => .array .int
  | 13 => .array .int
  | 14 => .array .int
  | 15 => .array .int
  | 16 => .array .int
  | 17 => .array .int
  | 18 => .array .int
  | 19 => .array (.array .int)
  | 20 => .array (.array .int)
  | 21 => .int
  | 22 => .int
  | 23 => .array (.array .int)
  | 24 => .array (.array .int)
  | 25 => .array .int
  | 26 => .array .int
  | 27 => .array .int
  | 28 => .array .int
  | 29 => .array (.array .int)
  | 30 => .int
  | 31 => .array .int
  | 32 => .array (.array .int)
  | 33 => .array (.array .int)
  | 34 => .array (.array .int)
  | 35 => .int
  | 36 => .int
  | 37 => .int
  | 38 => .int
  | 39 => .int
  | 40 => .int
  | 41 => .int
  | 42 => .array (.array .int)
  | 43 => .array (.array .int)
  | 44 => .array (.array .int)
  | 45 => .array .int
  | 46 => .int
  | 47 => .array .long
  | 48 => .array .long
  | 49 => .int
  | _ => .int
theorem nmX12 : ∀ a, a < 51 → ∀ b, b < 51 → a ≠ b → (TX12 a).2.1 ≠ (TX12 b).2.1 := by decide +kernel
theorem tyX12_ok : ∀ k, k < 51 → parseFieldDescriptor (TX12 k).2.2.1 = some (tyX12 k) := by decide +kernel

abbrev cX0_init : ByteArray := prog_2_method_1_code
def yX0_init : MethodName := ⟨RX0, "<init>", "(LLostMuseum$Plan;LLostMuseum$State;)V"⟩

abbrev cX0_renew : ByteArray := prog_2_method_2_code
def yX0_renew : MethodName := ⟨RX0, "renew", "()V"⟩

abbrev cX0_aheadOf : ByteArray := prog_2_method_3_code
def yX0_aheadOf : MethodName := ⟨RX0, "aheadOf", "(I)I"⟩

abbrev cX0_oneAhead : ByteArray := prog_2_method_4_code
def yX0_oneAhead : MethodName := ⟨RX0, "oneAhead", "(I)I"⟩

abbrev cX0_joined : ByteArray := prog_2_method_5_code
def yX0_joined : MethodName := ⟨RX0, "joined", "([II)I"⟩

abbrev cX0_reachFrom : ByteArray := prog_2_method_6_code
def yX0_reachFrom : MethodName := ⟨RX0, "reachFrom", "(I)I"⟩

abbrev cX0_reachTo : ByteArray := prog_2_method_7_code
def yX0_reachTo : MethodName := ⟨RX0, "reachTo", "(I)I"⟩

abbrev cX0_closure : ByteArray := prog_2_method_8_code
def yX0_closure : MethodName := ⟨RX0, "closure", "([II)I"⟩

abbrev cX0_wingOf : ByteArray := prog_2_method_9_code
def yX0_wingOf : MethodName := ⟨RX0, "wingOf", "(I)I"⟩

abbrev cX0_fewestDoors : ByteArray := prog_2_method_10_code
def yX0_fewestDoors : MethodName := ⟨RX0, "fewestDoors", "(II)I"⟩

abbrev cX0_firstDoor : ByteArray := prog_2_method_11_code
def yX0_firstDoor : MethodName := ⟨RX0, "firstDoor", "(II)I"⟩

abbrev cX0_unrollFrom : ByteArray := prog_2_method_12_code
def yX0_unrollFrom : MethodName := ⟨RX0, "unrollFrom", "(I)V"⟩

abbrev cX0_newDoorsToJoinAll : ByteArray := prog_2_method_13_code
def yX0_newDoorsToJoinAll : MethodName := ⟨RX0, "newDoorsToJoinAll", "()I"⟩

abbrev cX0_bringTogether : ByteArray := prog_2_method_14_code
def yX0_bringTogether : MethodName := ⟨RX0, "bringTogether", "(II)V"⟩

abbrev cX0_goRound : ByteArray := prog_2_method_15_code
def yX0_goRound : MethodName := ⟨RX0, "goRound", "(I)V"⟩

abbrev cX0_goOneDoor : ByteArray := prog_2_method_16_code
def yX0_goOneDoor : MethodName := ⟨RX0, "goOneDoor", "(I)V"⟩

abbrev cX0_enterFrom : ByteArray := prog_2_method_17_code
def yX0_enterFrom : MethodName := ⟨RX0, "enterFrom", "(II)V"⟩

abbrev cX0_likeliest : ByteArray := prog_2_method_18_code
def yX0_likeliest : MethodName := ⟨RX0, "likeliest", "(II)J"⟩

abbrev cX0_aboveInLeastTerms : ByteArray := prog_2_method_19_code
def yX0_aboveInLeastTerms : MethodName := ⟨RX0, "aboveInLeastTerms", "(J)J"⟩

abbrev cX0_belowInLeastTerms : ByteArray := prog_2_method_20_code
def yX0_belowInLeastTerms : MethodName := ⟨RX0, "belowInLeastTerms", "(J)J"⟩

abbrev cX0_commonTwos : ByteArray := prog_2_method_21_code
def yX0_commonTwos : MethodName := ⟨RX0, "commonTwos", "(J)J"⟩

abbrev cX1_init : ByteArray := prog_3_method_1_code
def yX1_init : MethodName := ⟨RX1, "<init>", "(LLostMuseum$Plan;LLostMuseum$State;LLostMuseum$Law;)V"⟩

abbrev cX1_isOpen : ByteArray := prog_3_method_2_code
def yX1_isOpen : MethodName := ⟨RX1, "isOpen", "(II)Z"⟩

abbrev cX1_openDoors : ByteArray := prog_3_method_3_code
def yX1_openDoors : MethodName := ⟨RX1, "openDoors", "(I)I"⟩

abbrev cX1_soonest : ByteArray := prog_3_method_4_code
def yX1_soonest : MethodName := ⟨RX1, "soonest", "(II)I"⟩

abbrev cX1_reachedIn : ByteArray := prog_3_method_5_code
def yX1_reachedIn : MethodName := ⟨RX1, "reachedIn", "(II)I"⟩

abbrev cX1_comeTo : ByteArray := prog_3_method_6_code
def yX1_comeTo : MethodName := ⟨RX1, "comeTo", "(II)I"⟩

abbrev cX2_init : ByteArray := prog_4_method_1_code
def yX2_init : MethodName := ⟨RX2, "<init>", "()V"⟩

abbrev cX2_clear : ByteArray := prog_4_method_2_code
def yX2_clear : MethodName := ⟨RX2, "clear", "()V"⟩

abbrev cX2_read : ByteArray := prog_4_method_3_code
def yX2_read : MethodName := ⟨RX2, "read", "(LLostMuseum$Reader;)Z"⟩

abbrev cX2_put : ByteArray := prog_4_method_4_code
def yX2_put : MethodName := ⟨RX2, "put", "(I)V"⟩

abbrev cX2_readSum : ByteArray := prog_4_method_5_code
def yX2_readSum : MethodName := ⟨RX2, "readSum", "(LLostMuseum$Reader;I)Z"⟩

abbrev cX2_readProduct : ByteArray := prog_4_method_6_code
def yX2_readProduct : MethodName := ⟨RX2, "readProduct", "(LLostMuseum$Reader;I)Z"⟩

abbrev cX2_readUnit : ByteArray := prog_4_method_7_code
def yX2_readUnit : MethodName := ⟨RX2, "readUnit", "(LLostMuseum$Reader;I)Z"⟩

abbrev cX2_readBracket : ByteArray := prog_4_method_8_code
def yX2_readBracket : MethodName := ⟨RX2, "readBracket", "(LLostMuseum$Reader;I)Z"⟩

abbrev cX2_readPair : ByteArray := prog_4_method_9_code
def yX2_readPair : MethodName := ⟨RX2, "readPair", "(LLostMuseum$Reader;II)Z"⟩

abbrev cX2_codeOfWord : ByteArray := prog_4_method_10_code
def yX2_codeOfWord : MethodName := ⟨RX2, "codeOfWord", "(LLostMuseum$Reader;)I"⟩

abbrev cX2_valueFor : ByteArray := prog_4_method_11_code
def yX2_valueFor : MethodName := ⟨RX2, "valueFor", "(LLostMuseum$Plan;LLostMuseum$State;II)I"⟩

abbrev cX2_fact : ByteArray := prog_4_method_12_code
def yX2_fact : MethodName := ⟨RX2, "fact", "(ILLostMuseum$Plan;LLostMuseum$State;II)I"⟩

abbrev cX2_join : ByteArray := prog_4_method_13_code
def yX2_join : MethodName := ⟨RX2, "join", "(III)I"⟩

abbrev cX3_init : ByteArray := prog_5_method_1_code
def yX3_init : MethodName := ⟨RX3, "<init>", "(LLostMuseum$Plan;LLostMuseum$State;)V"⟩

abbrev cX3_fewest : ByteArray := prog_5_method_2_code
def yX3_fewest : MethodName := ⟨RX3, "fewest", "(II)I"⟩

abbrev cX3_firstDoors : ByteArray := prog_5_method_3_code
def yX3_firstDoors : MethodName := ⟨RX3, "firstDoors", "(II)I"⟩

abbrev cX3_waysApart : ByteArray := prog_5_method_4_code
def yX3_waysApart : MethodName := ⟨RX3, "waysApart", "(III)I"⟩

abbrev cX3_findsWay : ByteArray := prog_5_method_5_code
def yX3_findsWay : MethodName := ⟨RX3, "findsWay", "(III)Z"⟩

abbrev cX3_leadsTo : ByteArray := prog_5_method_6_code
def yX3_leadsTo : MethodName := ⟨RX3, "leadsTo", "(II)I"⟩

abbrev cX3_takeWay : ByteArray := prog_5_method_7_code
def yX3_takeWay : MethodName := ⟨RX3, "takeWay", "(II)V"⟩

abbrev cX4_init : ByteArray := prog_6_method_1_code
def yX4_init : MethodName := ⟨RX4, "<init>", "()V"⟩

abbrev cX4_allRooms : ByteArray := prog_6_method_2_code
def yX4_allRooms : MethodName := ⟨RX4, "allRooms", "()I"⟩

abbrev cX4_allDoors : ByteArray := prog_6_method_3_code
def yX4_allDoors : MethodName := ⟨RX4, "allDoors", "()I"⟩

abbrev cX4_copyFrom : ByteArray := prog_6_method_4_code
def yX4_copyFrom : MethodName := ⟨RX4, "copyFrom", "(LLostMuseum$Plan;)V"⟩

abbrev cX4_read : ByteArray := prog_6_method_5_code
def yX4_read : MethodName := ⟨RX4, "read", "(LLostMuseum$Reader;)Z"⟩

abbrev cX4_clear : ByteArray := prog_6_method_6_code
def yX4_clear : MethodName := ⟨RX4, "clear", "()V"⟩

abbrev cX4_readClause : ByteArray := prog_6_method_7_code
def yX4_readClause : MethodName := ⟨RX4, "readClause", "(LLostMuseum$Reader;Z)Z"⟩

abbrev cX4_readRoom : ByteArray := prog_6_method_8_code
def yX4_readRoom : MethodName := ⟨RX4, "readRoom", "(LLostMuseum$Reader;)Z"⟩

abbrev cX4_readDoor : ByteArray := prog_6_method_9_code
def yX4_readDoor : MethodName := ⟨RX4, "readDoor", "(LLostMuseum$Reader;)Z"⟩

abbrev cX4_readExit : ByteArray := prog_6_method_10_code
def yX4_readExit : MethodName := ⟨RX4, "readExit", "(LLostMuseum$Reader;)Z"⟩

abbrev cX4_readTour : ByteArray := prog_6_method_11_code
def yX4_readTour : MethodName := ⟨RX4, "readTour", "(LLostMuseum$Reader;)Z"⟩

abbrev cX4_readWarder : ByteArray := prog_6_method_12_code
def yX4_readWarder : MethodName := ⟨RX4, "readWarder", "(LLostMuseum$Reader;)Z"⟩

abbrev cX5_init : ByteArray := prog_7_method_1_code
def yX5_init : MethodName := ⟨RX5, "<init>", "([B)V"⟩

abbrev cX5_begin : ByteArray := prog_7_method_2_code
def yX5_begin : MethodName := ⟨RX5, "begin", "(I)V"⟩

abbrev cX5_fail : ByteArray := prog_7_method_3_code
def yX5_fail : MethodName := ⟨RX5, "fail", "(II)Z"⟩

abbrev cX5_peek : ByteArray := prog_7_method_4_code
def yX5_peek : MethodName := ⟨RX5, "peek", "()I"⟩

abbrev cX5_atEnd : ByteArray := prog_7_method_5_code
def yX5_atEnd : MethodName := ⟨RX5, "atEnd", "()Z"⟩

abbrev cX5_takes : ByteArray := prog_7_method_6_code
def yX5_takes : MethodName := ⟨RX5, "takes", "(I)Z"⟩

abbrev cX5_needs : ByteArray := prog_7_method_7_code
def yX5_needs : MethodName := ⟨RX5, "needs", "(I)Z"⟩

abbrev cX5_needsEnd : ByteArray := prog_7_method_8_code
def yX5_needsEnd : MethodName := ⟨RX5, "needsEnd", "()Z"⟩

abbrev cX5_needsNumber : ByteArray := prog_7_method_9_code
def yX5_needsNumber : MethodName := ⟨RX5, "needsNumber", "(I)Z"⟩

abbrev cX5_needsWord : ByteArray := prog_7_method_10_code
def yX5_needsWord : MethodName := ⟨RX5, "needsWord", "()Z"⟩

abbrev cX5_isWord : ByteArray := prog_7_method_11_code
def yX5_isWord : MethodName := ⟨RX5, "isWord", "(Ljava/lang/String;)Z"⟩

abbrev cX5_byteAt : ByteArray := prog_7_method_12_code
def yX5_byteAt : MethodName := ⟨RX5, "byteAt", "(I)I"⟩

abbrev cX5_isDigit : ByteArray := prog_7_method_13_code
def yX5_isDigit : MethodName := ⟨RX5, "isDigit", "(I)Z"⟩

abbrev cX5_isLetter : ByteArray := prog_7_method_14_code
def yX5_isLetter : MethodName := ⟨RX5, "isLetter", "(I)Z"⟩

abbrev cX6_init : ByteArray := prog_8_method_1_code
def yX6_init : MethodName := ⟨RX6, "<init>", "(LLostMuseum$Plan;LLostMuseum$State;LLostMuseum$Hours;)V"⟩

abbrev cX6_lieDown : ByteArray := prog_8_method_2_code
def yX6_lieDown : MethodName := ⟨RX6, "lieDown", "()V"⟩

abbrev cX6_sleep : ByteArray := prog_8_method_3_code
def yX6_sleep : MethodName := ⟨RX6, "sleep", "(III)V"⟩

abbrev cX6_openFrom : ByteArray := prog_8_method_4_code
def yX6_openFrom : MethodName := ⟨RX6, "openFrom", "(II)I"⟩

abbrev cX6_draw : ByteArray := prog_8_method_5_code
def yX6_draw : MethodName := ⟨RX6, "draw", "()I"⟩

abbrev cX6_pick : ByteArray := prog_8_method_6_code
def yX6_pick : MethodName := ⟨RX6, "pick", "(II)I"⟩

abbrev cX7_init : ByteArray := prog_9_method_1_code
def yX7_init : MethodName := ⟨RX7, "<init>", "()V"⟩

abbrev cX7_begin : ByteArray := prog_9_method_2_code
def yX7_begin : MethodName := ⟨RX7, "begin", "(LLostMuseum$Plan;)V"⟩

abbrev cX7_copyFrom : ByteArray := prog_9_method_3_code
def yX7_copyFrom : MethodName := ⟨RX7, "copyFrom", "(LLostMuseum$State;)V"⟩

abbrev cX7_setsBar : ByteArray := prog_9_method_4_code
def yX7_setsBar : MethodName := ⟨RX7, "setsBar", "(IZ)Z"⟩

abbrev cX7_waits : ByteArray := prog_9_method_5_code
def yX7_waits : MethodName := ⟨RX7, "waits", "()Z"⟩

abbrev cX7_usedInAll : ByteArray := prog_9_method_6_code
def yX7_usedInAll : MethodName := ⟨RX7, "usedInAll", "()I"⟩

abbrev cX7_toursIn : ByteArray := prog_9_method_7_code
def yX7_toursIn : MethodName := ⟨RX7, "toursIn", "(II)I"⟩

abbrev cX8_init : ByteArray := prog_10_method_1_code
def yX8_init : MethodName := ⟨RX8, "<init>", "()V"⟩

abbrev cX8_begin : ByteArray := prog_10_method_2_code
def yX8_begin : MethodName := ⟨RX8, "begin", "(LLostMuseum$Plan;)V"⟩

abbrev cX8_keep : ByteArray := prog_10_method_3_code
def yX8_keep : MethodName := ⟨RX8, "keep", "()V"⟩

abbrev cX8_takeBack : ByteArray := prog_10_method_4_code
def yX8_takeBack : MethodName := ⟨RX8, "takeBack", "()V"⟩

abbrev cX8_copyFrom : ByteArray := prog_10_method_5_code
def yX8_copyFrom : MethodName := ⟨RX8, "copyFrom", "(LLostMuseum$Timeline;)V"⟩

abbrev cX9_init : ByteArray := prog_11_method_1_code
def yX9_init : MethodName := ⟨RX9, "<init>", "(LLostMuseum$Plan;LLostMuseum$Graph;)V"⟩

abbrev cX9_clear : ByteArray := prog_11_method_2_code
def yX9_clear : MethodName := ⟨RX9, "clear", "()V"⟩

abbrev cX9_read : ByteArray := prog_11_method_3_code
def yX9_read : MethodName := ⟨RX9, "read", "(LLostMuseum$Reader;)Z"⟩

abbrev cX9_standing : ByteArray := prog_11_method_4_code
def yX9_standing : MethodName := ⟨RX9, "standing", "()I"⟩

abbrev cX9_roomsToKnow : ByteArray := prog_11_method_5_code
def yX9_roomsToKnow : MethodName := ⟨RX9, "roomsToKnow", "()I"⟩

abbrev cX9_allKnow : ByteArray := prog_11_method_6_code
def yX9_allKnow : MethodName := ⟨RX9, "allKnow", "(I)Z"⟩

abbrev cX9_lookOnce : ByteArray := prog_11_method_7_code
def yX9_lookOnce : MethodName := ⟨RX9, "lookOnce", "(I)V"⟩

abbrev cX9_fewestWrong : ByteArray := prog_11_method_8_code
def yX9_fewestWrong : MethodName := ⟨RX9, "fewestWrong", "()I"⟩

abbrev cX9_slip : ByteArray := prog_11_method_9_code
def yX9_slip : MethodName := ⟨RX9, "slip", "(II)I"⟩

abbrev cX9_fewestBehind : ByteArray := prog_11_method_10_code
def yX9_fewestBehind : MethodName := ⟨RX9, "fewestBehind", "(II)I"⟩

abbrev cX9_firstWrong : ByteArray := prog_11_method_11_code
def yX9_firstWrong : MethodName := ⟨RX9, "firstWrong", "(I)I"⟩

abbrev cX10_init : ByteArray := prog_12_method_1_code
def yX10_init : MethodName := ⟨RX10, "<init>", "()V"⟩

abbrev cX10_read : ByteArray := prog_12_method_2_code
def yX10_read : MethodName := ⟨RX10, "read", "(LLostMuseum$Reader;LLostMuseum$Plan;)Z"⟩

abbrev cX10_put : ByteArray := prog_12_method_3_code
def yX10_put : MethodName := ⟨RX10, "put", "(III)V"⟩

abbrev cX10_readSteps : ByteArray := prog_12_method_4_code
def yX10_readSteps : MethodName := ⟨RX10, "readSteps", "(LLostMuseum$Reader;LLostMuseum$Plan;I)Z"⟩

abbrev cX10_readStep : ByteArray := prog_12_method_5_code
def yX10_readStep : MethodName := ⟨RX10, "readStep", "(LLostMuseum$Reader;LLostMuseum$Plan;I)Z"⟩

abbrev cX10_readGo : ByteArray := prog_12_method_6_code
def yX10_readGo : MethodName := ⟨RX10, "readGo", "(LLostMuseum$Reader;LLostMuseum$Plan;)Z"⟩

abbrev cX10_readDoorStep : ByteArray := prog_12_method_7_code
def yX10_readDoorStep : MethodName := ⟨RX10, "readDoorStep", "(LLostMuseum$Reader;LLostMuseum$Plan;I)Z"⟩

abbrev cX10_readAgain : ByteArray := prog_12_method_8_code
def yX10_readAgain : MethodName := ⟨RX10, "readAgain", "(LLostMuseum$Reader;LLostMuseum$Plan;I)Z"⟩

abbrev cX10_run : ByteArray := prog_12_method_9_code
def yX10_run : MethodName := ⟨RX10, "run", "(LLostMuseum$Plan;LLostMuseum$State;LLostMuseum$Hours;)V"⟩

abbrev cX10_turnBack : ByteArray := prog_12_method_10_code
def yX10_turnBack : MethodName := ⟨RX10, "turnBack", "(I)I"⟩

abbrev cX10_isDone : ByteArray := prog_12_method_11_code
def yX10_isDone : MethodName := ⟨RX10, "isDone", "(ILLostMuseum$Plan;LLostMuseum$State;LLostMuseum$Hours;)Z"⟩

abbrev cX10_goes : ByteArray := prog_12_method_12_code
def yX10_goes : MethodName := ⟨RX10, "goes", "(IILLostMuseum$Plan;LLostMuseum$State;LLostMuseum$Hours;)Z"⟩

abbrev cX11_init : ByteArray := prog_1_method_1_code
def yX11_init : MethodName := ⟨RX11, "<init>", "()V"⟩

abbrev cX11_feed : ByteArray := prog_1_method_2_code
def yX11_feed : MethodName := ⟨RX11, "feed", "(IIIII)I"⟩

abbrev cX11_museum : ByteArray := prog_1_method_3_code
def yX11_museum : MethodName := ⟨RX11, "museum", "(I)I"⟩

abbrev cX11_law : ByteArray := prog_1_method_4_code
def yX11_law : MethodName := ⟨RX11, "law", "(I)I"⟩

abbrev cX11_work : ByteArray := prog_1_method_5_code
def yX11_work : MethodName := ⟨RX11, "work", "(I)I"⟩

abbrev cX11_walk : ByteArray := prog_1_method_6_code
def yX11_walk : MethodName := ⟨RX11, "walk", "(I)I"⟩

abbrev cX11_fault : ByteArray := prog_1_method_7_code
def yX11_fault : MethodName := ⟨RX11, "fault", "()I"⟩

abbrev cX11_undo : ByteArray := prog_1_method_8_code
def yX11_undo : MethodName := ⟨RX11, "undo", "()I"⟩

abbrev cX11_told : ByteArray := prog_1_method_9_code
def yX11_told : MethodName := ⟨RX11, "told", "(I)I"⟩

abbrev cX11_room : ByteArray := prog_1_method_10_code
def yX11_room : MethodName := ⟨RX11, "room", "(II)I"⟩

abbrev cX11_door : ByteArray := prog_1_method_11_code
def yX11_door : MethodName := ⟨RX11, "door", "(II)I"⟩

abbrev cX11_tour : ByteArray := prog_1_method_12_code
def yX11_tour : MethodName := ⟨RX11, "tour", "(I)I"⟩

abbrev cX11_open : ByteArray := prog_1_method_13_code
def yX11_open : MethodName := ⟨RX11, "open", "(III)Z"⟩

abbrev cX11_fits : ByteArray := prog_1_method_14_code
def yX11_fits : MethodName := ⟨RX11, "fits", "()I"⟩

abbrev cX11_knows : ByteArray := prog_1_method_15_code
def yX11_knows : MethodName := ⟨RX11, "knows", "()I"⟩

abbrev cX11_slips : ByteArray := prog_1_method_16_code
def yX11_slips : MethodName := ⟨RX11, "slips", "(I)I"⟩

abbrev cX11_ends : ByteArray := prog_1_method_17_code
def yX11_ends : MethodName := ⟨RX11, "ends", "(I)Z"⟩

abbrev cX11_soon : ByteArray := prog_1_method_18_code
def yX11_soon : MethodName := ⟨RX11, "soon", "(II)I"⟩

abbrev cX11_within : ByteArray := prog_1_method_19_code
def yX11_within : MethodName := ⟨RX11, "within", "(II)I"⟩

abbrev cX11_out : ByteArray := prog_1_method_20_code
def yX11_out : MethodName := ⟨RX11, "out", "(I)I"⟩

abbrev cX11_string : ByteArray := prog_1_method_21_code
def yX11_string : MethodName := ⟨RX11, "string", "(I)I"⟩

abbrev cX11_longest : ByteArray := prog_1_method_22_code
def yX11_longest : MethodName := ⟨RX11, "longest", "(I)I"⟩

abbrev cX11_lost : ByteArray := prog_1_method_23_code
def yX11_lost : MethodName := ⟨RX11, "lost", "(I)I"⟩

abbrev cX11_cuts : ByteArray := prog_1_method_24_code
def yX11_cuts : MethodName := ⟨RX11, "cuts", "()I"⟩

abbrev cX11_wing : ByteArray := prog_1_method_25_code
def yX11_wing : MethodName := ⟨RX11, "wing", "(I)I"⟩

abbrev cX11_round : ByteArray := prog_1_method_26_code
def yX11_round : MethodName := ⟨RX11, "round", "(I)I"⟩

abbrev cX11_last : ByteArray := prog_1_method_27_code
def yX11_last : MethodName := ⟨RX11, "last", "(I)I"⟩

abbrev cX11_meet : ByteArray := prog_1_method_28_code
def yX11_meet : MethodName := ⟨RX11, "meet", "(III)I"⟩

abbrev cX11_parted : ByteArray := prog_1_method_29_code
def yX11_parted : MethodName := ⟨RX11, "parted", "(III)I"⟩

abbrev cX11_quiet : ByteArray := prog_1_method_30_code
def yX11_quiet : MethodName := ⟨RX11, "quiet", "(III)J"⟩

abbrev cX11_way : ByteArray := prog_1_method_31_code
def yX11_way : MethodName := ⟨RX11, "way", "(II)I"⟩

abbrev cX11_next : ByteArray := prog_1_method_32_code
def yX11_next : MethodName := ⟨RX11, "next", "(II)I"⟩

abbrev cX11_loop : ByteArray := prog_1_method_33_code
def yX11_loop : MethodName := ⟨RX11, "loop", "(I)I"⟩

abbrev cX11_closed : ByteArray := prog_1_method_34_code
def yX11_closed : MethodName := ⟨RX11, "closed", "(II)I"⟩

abbrev cX11_crowded : ByteArray := prog_1_method_35_code
def yX11_crowded : MethodName := ⟨RX11, "crowded", "(I)I"⟩

abbrev cX11_worn : ByteArray := prog_1_method_36_code
def yX11_worn : MethodName := ⟨RX11, "worn", "(I)I"⟩

abbrev cX11_sleepwalk : ByteArray := prog_1_method_37_code
def yX11_sleepwalk : MethodName := ⟨RX11, "sleepwalk", "(IIII)I"⟩

abbrev cX11_span : ByteArray := prog_1_method_38_code
def yX11_span : MethodName := ⟨RX11, "span", "(IIIIII)I"⟩

abbrev cX11_image : ByteArray := prog_1_method_39_code
def yX11_image : MethodName := ⟨RX11, "image", "()I"⟩

abbrev cX11_restore : ByteArray := prog_1_method_40_code
def yX11_restore : MethodName := ⟨RX11, "restore", "()I"⟩

abbrev cX11_status : ByteArray := prog_1_method_41_code
def yX11_status : MethodName := ⟨RX11, "status", "(I)I"⟩

abbrev cX11_count : ByteArray := prog_1_method_42_code
def yX11_count : MethodName := ⟨RX11, "count", "(I)I"⟩

abbrev cX11_putNumber : ByteArray := prog_1_method_43_code
def yX11_putNumber : MethodName := ⟨RX11, "putNumber", "(I)V"⟩

abbrev cX11_takeTape : ByteArray := prog_1_method_44_code
def yX11_takeTape : MethodName := ⟨RX11, "takeTape", "(I)V"⟩

abbrev cX11_faultOfText : ByteArray := prog_1_method_45_code
def yX11_faultOfText : MethodName := ⟨RX11, "faultOfText", "()I"⟩

abbrev cX11_needBytes : ByteArray := prog_1_method_46_code
def yX11_needBytes : MethodName := ⟨RX11, "needBytes", "(II)V"⟩

abbrev cX11_needWithin : ByteArray := prog_1_method_47_code
def yX11_needWithin : MethodName := ⟨RX11, "needWithin", "(III)V"⟩

abbrev cX11_needRoom : ByteArray := prog_1_method_48_code
def yX11_needRoom : MethodName := ⟨RX11, "needRoom", "(I)V"⟩

abbrev cX11_needDoor : ByteArray := prog_1_method_49_code
def yX11_needDoor : MethodName := ⟨RX11, "needDoor", "(I)V"⟩

abbrev cX11_lowest : ByteArray := prog_1_method_50_code
def yX11_lowest : MethodName := ⟨RX11, "lowest", "(I)I"⟩

abbrev cX12_init : ByteArray := prog_14_method_1_code
def yX12_init : MethodName := ⟨RX12, "<init>", "()V"⟩

abbrev cX12_tellsNothing : ByteArray := prog_14_method_2_code
def yX12_tellsNothing : MethodName := ⟨RX12, "tellsNothing", "()V"⟩

abbrev cX12_thrown : ByteArray := prog_14_method_3_code
def yX12_thrown : MethodName := ⟨RX12, "thrown", "()I"⟩

abbrev cX12_bad : ByteArray := prog_14_method_4_code
def yX12_bad : MethodName := ⟨RX12, "bad", "(ZII)Z"⟩

abbrev cX12_in : ByteArray := prog_14_method_5_code
def yX12_in : MethodName := ⟨RX12, "in", "(III)Z"⟩

abbrev cX12_less : ByteArray := prog_14_method_6_code
def yX12_less : MethodName := ⟨RX12, "less", "(II)I"⟩

abbrev cX12_more : ByteArray := prog_14_method_7_code
def yX12_more : MethodName := ⟨RX12, "more", "(II)I"⟩

abbrev cX12_has : ByteArray := prog_14_method_8_code
def yX12_has : MethodName := ⟨RX12, "has", "(II)Z"⟩

abbrev cX12_feed : ByteArray := prog_14_method_9_code
def yX12_feed : MethodName := ⟨RX12, "feed", "(IIIII)I"⟩

abbrev cX12_byteAt : ByteArray := prog_14_method_10_code
def yX12_byteAt : MethodName := ⟨RX12, "byteAt", "(I)I"⟩

abbrev cX12_blanks : ByteArray := prog_14_method_11_code
def yX12_blanks : MethodName := ⟨RX12, "blanks", "()V"⟩

abbrev cX12_wrong : ByteArray := prog_14_method_12_code
def yX12_wrong : MethodName := ⟨RX12, "wrong", "(II)V"⟩

abbrev cX12_isDigit : ByteArray := prog_14_method_13_code
def yX12_isDigit : MethodName := ⟨RX12, "isDigit", "(I)Z"⟩

abbrev cX12_isSmall : ByteArray := prog_14_method_14_code
def yX12_isSmall : MethodName := ⟨RX12, "isSmall", "(I)Z"⟩

abbrev cX12_number : ByteArray := prog_14_method_15_code
def yX12_number : MethodName := ⟨RX12, "number", "(II)I"⟩

abbrev cX12_wordHere : ByteArray := prog_14_method_16_code
def yX12_wordHere : MethodName := ⟨RX12, "wordHere", "()I"⟩

abbrev cX12_six : ByteArray := prog_14_method_17_code
def yX12_six : MethodName := ⟨RX12, "six", "(IIIIII)I"⟩

abbrev cX12_isWord : ByteArray := prog_14_method_18_code
def yX12_isWord : MethodName := ⟨RX12, "isWord", "(IIIIII)Z"⟩

abbrev cX12_skipWord : ByteArray := prog_14_method_19_code
def yX12_skipWord : MethodName := ⟨RX12, "skipWord", "()V"⟩

abbrev cX12_takes : ByteArray := prog_14_method_20_code
def yX12_takes : MethodName := ⟨RX12, "takes", "(IIIIII)Z"⟩

abbrev cX12_sign : ByteArray := prog_14_method_21_code
def yX12_sign : MethodName := ⟨RX12, "sign", "(I)V"⟩

abbrev cX12_takesSign : ByteArray := prog_14_method_22_code
def yX12_takesSign : MethodName := ⟨RX12, "takesSign", "(I)Z"⟩

abbrev cX12_starts : ByteArray := prog_14_method_23_code
def yX12_starts : MethodName := ⟨RX12, "starts", "(I)V"⟩

abbrev cX12_ends2 : ByteArray := prog_14_method_24_code
def yX12_ends2 : MethodName := ⟨RX12, "ends2", "()I"⟩

abbrev cX12_kindHere : ByteArray := prog_14_method_25_code
def yX12_kindHere : MethodName := ⟨RX12, "kindHere", "()I"⟩

abbrev cX12_roomHere : ByteArray := prog_14_method_26_code
def yX12_roomHere : MethodName := ⟨RX12, "roomHere", "()I"⟩

abbrev cX12_clause : ByteArray := prog_14_method_27_code
def yX12_clause : MethodName := ⟨RX12, "clause", "()V"⟩

abbrev cX12_museum : ByteArray := prog_14_method_28_code
def yX12_museum : MethodName := ⟨RX12, "museum", "(I)I"⟩

abbrev cX12_lays : ByteArray := prog_14_method_29_code
def yX12_lays : MethodName := ⟨RX12, "lays", "([[I[[II)V"⟩

abbrev cX12_copies : ByteArray := prog_14_method_30_code
def yX12_copies : MethodName := ⟨RX12, "copies", "([I[I)V"⟩

abbrev cX12_beginsAnew : ByteArray := prog_14_method_31_code
def yX12_beginsAnew : MethodName := ⟨RX12, "beginsAnew", "()V"⟩

abbrev cX12_notes : ByteArray := prog_14_method_32_code
def yX12_notes : MethodName := ⟨RX12, "notes", "(II)V"⟩

abbrev cX12_opensOne : ByteArray := prog_14_method_33_code
def yX12_opensOne : MethodName := ⟨RX12, "opensOne", "()Z"⟩

abbrev cX12_sum : ByteArray := prog_14_method_34_code
def yX12_sum : MethodName := ⟨RX12, "sum", "()V"⟩

abbrev cX12_product : ByteArray := prog_14_method_35_code
def yX12_product : MethodName := ⟨RX12, "product", "()V"⟩

abbrev cX12_knownHere : ByteArray := prog_14_method_36_code
def yX12_knownHere : MethodName := ⟨RX12, "knownHere", "()I"⟩

abbrev cX12_isTo : ByteArray := prog_14_method_37_code
def yX12_isTo : MethodName := ⟨RX12, "isTo", "()Z"⟩

abbrev cX12_one : ByteArray := prog_14_method_38_code
def yX12_one : MethodName := ⟨RX12, "one", "()V"⟩

abbrev cX12_law : ByteArray := prog_14_method_39_code
def yX12_law : MethodName := ⟨RX12, "law", "(I)I"⟩

abbrev cX12_by : ByteArray := prog_14_method_40_code
def yX12_by : MethodName := ⟨RX12, "by", "(III)I"⟩

abbrev cX12_byLaw : ByteArray := prog_14_method_41_code
def yX12_byLaw : MethodName := ⟨RX12, "byLaw", "()I"⟩

abbrev cX12_stepHere : ByteArray := prog_14_method_42_code
def yX12_stepHere : MethodName := ⟨RX12, "stepHere", "()I"⟩

abbrev cX12_readsStep : ByteArray := prog_14_method_43_code
def yX12_readsStep : MethodName := ⟨RX12, "readsStep", "()V"⟩

abbrev cX12_walk : ByteArray := prog_14_method_44_code
def yX12_walk : MethodName := ⟨RX12, "walk", "(I)I"⟩

abbrev cX12_fault : ByteArray := prog_14_method_45_code
def yX12_fault : MethodName := ⟨RX12, "fault", "()I"⟩

abbrev cX12_isBarred : ByteArray := prog_14_method_46_code
def yX12_isBarred : MethodName := ⟨RX12, "isBarred", "([II)Z"⟩

abbrev cX12_isLawful : ByteArray := prog_14_method_47_code
def yX12_isLawful : MethodName := ⟨RX12, "isLawful", "([IIII)Z"⟩

abbrev cX12_isOpenBy : ByteArray := prog_14_method_48_code
def yX12_isOpenBy : MethodName := ⟨RX12, "isOpenBy", "([IIII)Z"⟩

abbrev cX12_isOpenIn : ByteArray := prog_14_method_49_code
def yX12_isOpenIn : MethodName := ⟨RX12, "isOpenIn", "([III)Z"⟩

abbrev cX12_does : ByteArray := prog_14_method_50_code
def yX12_does : MethodName := ⟨RX12, "does", "([I[I)Z"⟩

abbrev cX12_goes : ByteArray := prog_14_method_51_code
def yX12_goes : MethodName := ⟨RX12, "goes", "(II)V"⟩

abbrev cX12_work : ByteArray := prog_14_method_52_code
def yX12_work : MethodName := ⟨RX12, "work", "(I)I"⟩

abbrev cX12_undo : ByteArray := prog_14_method_53_code
def yX12_undo : MethodName := ⟨RX12, "undo", "()I"⟩

abbrev cX12_sumOf : ByteArray := prog_14_method_54_code
def yX12_sumOf : MethodName := ⟨RX12, "sumOf", "(I)I"⟩

abbrev cX12_told : ByteArray := prog_14_method_55_code
def yX12_told : MethodName := ⟨RX12, "told", "(I)I"⟩

abbrev cX12_isRoom : ByteArray := prog_14_method_56_code
def yX12_isRoom : MethodName := ⟨RX12, "isRoom", "(I)Z"⟩

abbrev cX12_isDoor : ByteArray := prog_14_method_57_code
def yX12_isDoor : MethodName := ⟨RX12, "isDoor", "(I)Z"⟩

abbrev cX12_toursIn : ByteArray := prog_14_method_58_code
def yX12_toursIn : MethodName := ⟨RX12, "toursIn", "(I)I"⟩

abbrev cX12_doorsOf : ByteArray := prog_14_method_59_code
def yX12_doorsOf : MethodName := ⟨RX12, "doorsOf", "(III)I"⟩

abbrev cX12_room : ByteArray := prog_14_method_60_code
def yX12_room : MethodName := ⟨RX12, "room", "(II)I"⟩

abbrev cX12_door : ByteArray := prog_14_method_61_code
def yX12_door : MethodName := ⟨RX12, "door", "(II)I"⟩

abbrev cX12_tour : ByteArray := prog_14_method_62_code
def yX12_tour : MethodName := ⟨RX12, "tour", "(I)I"⟩

abbrev cX12_open : ByteArray := prog_14_method_63_code
def yX12_open : MethodName := ⟨RX12, "open", "(III)Z"⟩

abbrev cX12_isExit : ByteArray := prog_14_method_64_code
def yX12_isExit : MethodName := ⟨RX12, "isExit", "(I)Z"⟩

abbrev cX12_allRooms : ByteArray := prog_14_method_65_code
def yX12_allRooms : MethodName := ⟨RX12, "allRooms", "()I"⟩

abbrev cX12_behind : ByteArray := prog_14_method_66_code
def yX12_behind : MethodName := ⟨RX12, "behind", "(I)I"⟩

abbrev cX12_seen : ByteArray := prog_14_method_67_code
def yX12_seen : MethodName := ⟨RX12, "seen", "(II)I"⟩

abbrev cX12_fitsNow : ByteArray := prog_14_method_68_code
def yX12_fitsNow : MethodName := ⟨RX12, "fitsNow", "()I"⟩

abbrev cX12_fits : ByteArray := prog_14_method_69_code
def yX12_fits : MethodName := ⟨RX12, "fits", "()I"⟩

abbrev cX12_ends : ByteArray := prog_14_method_70_code
def yX12_ends : MethodName := ⟨RX12, "ends", "(I)Z"⟩

abbrev cX12_isOne : ByteArray := prog_14_method_71_code
def yX12_isOne : MethodName := ⟨RX12, "isOne", "(I)Z"⟩

abbrev cX12_isKnown : ByteArray := prog_14_method_72_code
def yX12_isKnown : MethodName := ⟨RX12, "isKnown", "(II)Z"⟩

abbrev cX12_knows : ByteArray := prog_14_method_73_code
def yX12_knows : MethodName := ⟨RX12, "knows", "()I"⟩

abbrev cX12_laysSlips : ByteArray := prog_14_method_74_code
def yX12_laysSlips : MethodName := ⟨RX12, "laysSlips", "()V"⟩

abbrev cX12_slips : ByteArray := prog_14_method_75_code
def yX12_slips : MethodName := ⟨RX12, "slips", "(I)I"⟩

abbrev cX12_behindIn : ByteArray := prog_14_method_76_code
def yX12_behindIn : MethodName := ⟨RX12, "behindIn", "(II)I"⟩

abbrev cX12_soonTo : ByteArray := prog_14_method_77_code
def yX12_soonTo : MethodName := ⟨RX12, "soonTo", "(II)I"⟩

abbrev cX12_soon : ByteArray := prog_14_method_78_code
def yX12_soon : MethodName := ⟨RX12, "soon", "(II)I"⟩

abbrev cX12_within : ByteArray := prog_14_method_79_code
def yX12_within : MethodName := ⟨RX12, "within", "(II)I"⟩

abbrev cX12_out : ByteArray := prog_14_method_80_code
def yX12_out : MethodName := ⟨RX12, "out", "(I)I"⟩

abbrev cX12_laysWays : ByteArray := prog_14_method_81_code
def yX12_laysWays : MethodName := ⟨RX12, "laysWays", "()V"⟩

abbrev cX12_orNone : ByteArray := prog_14_method_82_code
def yX12_orNone : MethodName := ⟨RX12, "orNone", "(I)I"⟩

abbrev cX12_stringTo : ByteArray := prog_14_method_83_code
def yX12_stringTo : MethodName := ⟨RX12, "stringTo", "(I)I"⟩

abbrev cX12_string : ByteArray := prog_14_method_84_code
def yX12_string : MethodName := ⟨RX12, "string", "(I)I"⟩

abbrev cX12_longest : ByteArray := prog_14_method_85_code
def yX12_longest : MethodName := ⟨RX12, "longest", "(I)I"⟩

abbrev cX12_lost : ByteArray := prog_14_method_86_code
def yX12_lost : MethodName := ⟨RX12, "lost", "(I)I"⟩

abbrev cX12_wingOf : ByteArray := prog_14_method_87_code
def yX12_wingOf : MethodName := ⟨RX12, "wingOf", "(I)I"⟩

abbrev cX12_wing : ByteArray := prog_14_method_88_code
def yX12_wing : MethodName := ⟨RX12, "wing", "(I)I"⟩

abbrev cX12_cuts : ByteArray := prog_14_method_89_code
def yX12_cuts : MethodName := ⟨RX12, "cuts", "()I"⟩

abbrev cX12_laysRounds : ByteArray := prog_14_method_90_code
def yX12_laysRounds : MethodName := ⟨RX12, "laysRounds", "(I)V"⟩

abbrev cX12_roundTo : ByteArray := prog_14_method_91_code
def yX12_roundTo : MethodName := ⟨RX12, "roundTo", "()I"⟩

abbrev cX12_round : ByteArray := prog_14_method_92_code
def yX12_round : MethodName := ⟨RX12, "round", "(I)I"⟩

abbrev cX12_last : ByteArray := prog_14_method_93_code
def yX12_last : MethodName := ⟨RX12, "last", "(I)I"⟩

abbrev cX12_meet : ByteArray := prog_14_method_94_code
def yX12_meet : MethodName := ⟨RX12, "meet", "(III)I"⟩

abbrev cX12_isMore : ByteArray := prog_14_method_95_code
def yX12_isMore : MethodName := ⟨RX12, "isMore", "(III)Z"⟩

abbrev cX12_flowsTo : ByteArray := prog_14_method_96_code
def yX12_flowsTo : MethodName := ⟨RX12, "flowsTo", "(III)I"⟩

abbrev cX12_parted : ByteArray := prog_14_method_97_code
def yX12_parted : MethodName := ⟨RX12, "parted", "(III)I"⟩

abbrev cX12_quiet : ByteArray := prog_14_method_98_code
def yX12_quiet : MethodName := ⟨RX12, "quiet", "(III)J"⟩

abbrev cX12_way : ByteArray := prog_14_method_99_code
def yX12_way : MethodName := ⟨RX12, "way", "(II)I"⟩

abbrev cX12_next : ByteArray := prog_14_method_100_code
def yX12_next : MethodName := ⟨RX12, "next", "(II)I"⟩

abbrev cX12_loop : ByteArray := prog_14_method_101_code
def yX12_loop : MethodName := ⟨RX12, "loop", "(I)I"⟩

abbrev cX12_closed : ByteArray := prog_14_method_102_code
def yX12_closed : MethodName := ⟨RX12, "closed", "(II)I"⟩

abbrev cX12_crowded : ByteArray := prog_14_method_103_code
def yX12_crowded : MethodName := ⟨RX12, "crowded", "(I)I"⟩

abbrev cX12_worn : ByteArray := prog_14_method_104_code
def yX12_worn : MethodName := ⟨RX12, "worn", "(I)I"⟩

abbrev cX12_walksBy : ByteArray := prog_14_method_105_code
def yX12_walksBy : MethodName := ⟨RX12, "walksBy", "(III)I"⟩

abbrev cX12_behindDoor : ByteArray := prog_14_method_106_code
def yX12_behindDoor : MethodName := ⟨RX12, "behindDoor", "(III)I"⟩

abbrev cX12_ones : ByteArray := prog_14_method_107_code
def yX12_ones : MethodName := ⟨RX12, "ones", "(I)I"⟩

abbrev cX12_sleepwalk : ByteArray := prog_14_method_108_code
def yX12_sleepwalk : MethodName := ⟨RX12, "sleepwalk", "(IIII)I"⟩

abbrev cX12_span : ByteArray := prog_14_method_109_code
def yX12_span : MethodName := ⟨RX12, "span", "(IIIIII)I"⟩

abbrev cX12_puts : ByteArray := prog_14_method_110_code
def yX12_puts : MethodName := ⟨RX12, "puts", "([IIZ)I"⟩

abbrev cX12_putsAll : ByteArray := prog_14_method_111_code
def yX12_putsAll : MethodName := ⟨RX12, "putsAll", "([IZ)V"⟩

abbrev cX12_image : ByteArray := prog_14_method_112_code
def yX12_image : MethodName := ⟨RX12, "image", "()I"⟩

abbrev cX12_restore : ByteArray := prog_14_method_113_code
def yX12_restore : MethodName := ⟨RX12, "restore", "()I"⟩

abbrev cX12_status : ByteArray := prog_14_method_114_code
def yX12_status : MethodName := ⟨RX12, "status", "(I)I"⟩

abbrev cX12_count : ByteArray := prog_14_method_115_code
def yX12_count : MethodName := ⟨RX12, "count", "(I)I"⟩

abbrev cJ6_bitCount_0f7a4 : ByteArray := prog_20_method_49_code
def yJ6_bitCount_0f7a4 : MethodName := ⟨"java/lang/Integer", "bitCount", "(I)I"⟩

abbrev cJ0_length_8abf5 : ByteArray := prog_23_method_54_code
def yJ0_length_8abf5 : MethodName := ⟨"java/lang/String", "length", "()I"⟩

abbrev cJ0_charAt_5068e : ByteArray := prog_23_method_56_code
def yJ0_charAt_5068e : MethodName := ⟨"java/lang/String", "charAt", "(I)C"⟩

abbrev cJ0_coder_7d493 : ByteArray := prog_23_method_152_code
def yJ0_coder_7d493 : MethodName := ⟨"java/lang/String", "coder", "()B"⟩

abbrev cJ0_isLatin1_aae02 : ByteArray := prog_23_method_154_code
def yJ0_isLatin1_aae02 : MethodName := ⟨"java/lang/String", "isLatin1", "()Z"⟩

abbrev cJ1_charAt_3b067 : ByteArray := prog_24_method_2_code
def yJ1_charAt_3b067 : MethodName := ⟨"java/lang/StringLatin1", "charAt", "([BI)C"⟩

abbrev classes : List vw_C := [(RX0, TX0, 10), (RX1, TX1, 3), (RX2, TX2, 5), (RX3, TX3, 6), (RX4, TX4, 14), (RX5, TX5, 8), (RX6, TX6, 9), (RX7, TX7, 5), (RX8, TX8, 3), (RX9, TX9, 8), (RX10, TX10, 7), (RX11, TX11, 20), (RX12, TX12, 51)]

def WD : List Cond := lw_tbl.filter goodWord

theorem inW {i : Nat} {w : Cond} (h : tables_1[i]? = some w) (g : goodWord w = true) : w ∈ WD := List.mem_filter.mpr ⟨List.mem_append_right _ (List.mem_of_getElem? h), g⟩

theorem inS {i : Nat} {w : Cond} (h : (k2_sels lw_privs)[i]? = some w) (g : goodWord w = true) : w ∈ WD := List.mem_filter.mpr ⟨List.mem_append_left _ (List.mem_of_getElem? h), g⟩

theorem inX0 : ∀ w ∈ u_ws RX0 TX0 10, w ∈ WD := by
  intro w hw
  obtain ⟨k, hk, rfl⟩ := List.mem_map.mp hw
  have hk := List.mem_range.mp hk
  have h : ∀ k, k < 10 → tables_1[([313, 315, 317, 319, 321, 323, 325, 327, 329, 331] : List Nat).getD k 0]? = some (u_lay RX0 TX0 k) ∧ goodWord (u_lay RX0 TX0 k) = true := by decide +kernel
  exact inW (h k hk).1 (h k hk).2

theorem inX1 : ∀ w ∈ u_ws RX1 TX1 3, w ∈ WD := by
  intro w hw
  obtain ⟨k, hk, rfl⟩ := List.mem_map.mp hw
  have hk := List.mem_range.mp hk
  have h : ∀ k, k < 3 → tables_1[([288, 290, 292] : List Nat).getD k 0]? = some (u_lay RX1 TX1 k) ∧ goodWord (u_lay RX1 TX1 k) = true := by decide +kernel
  exact inW (h k hk).1 (h k hk).2

theorem inX2 : ∀ w ∈ u_ws RX2 TX2 5, w ∈ WD := by
  intro w hw
  obtain ⟨k, hk, rfl⟩ := List.mem_map.mp hw
  have hk := List.mem_range.mp hk
  have h : ∀ k, k < 5 → tables_1[([181, 183, 185, 187, 189] : List Nat).getD k 0]? = some (u_lay RX2 TX2 k) ∧ goodWord (u_lay RX2 TX2 k) = true := by decide +kernel
  exact inW (h k hk).1 (h k hk).2

theorem inX3 : ∀ w ∈ u_ws RX3 TX3 6, w ∈ WD := by
  intro w hw
  obtain ⟨k, hk, rfl⟩ := List.mem_map.mp hw
  have hk := List.mem_range.mp hk
  have h : ∀ k, k < 6 → tables_1[([380, 382, 384, 386, 388, 390] : List Nat).getD k 0]? = some (u_lay RX3 TX3 k) ∧ goodWord (u_lay RX3 TX3 k) = true := by decide +kernel
  exact inW (h k hk).1 (h k hk).2

theorem inX4 : ∀ w ∈ u_ws RX4 TX4 14, w ∈ WD := by
  intro w hw
  obtain ⟨k, hk, rfl⟩ := List.mem_map.mp hw
  have hk := List.mem_range.mp hk
  have h : ∀ k, k < 14 → tables_1[([136, 138, 140, 142, 144, 146, 148, 150, 152, 154, 156, 158, 160, 162] : List Nat).getD k 0]? = some (u_lay RX4 TX4 k) ∧ goodWord (u_lay RX4 TX4 k) = true := by decide +kernel
  exact inW (h k hk).1 (h k hk).2

theorem inX5 : ∀ w ∈ u_ws RX5 TX5 8, w ∈ WD := by
  intro w hw
  obtain ⟨k, hk, rfl⟩ := List.mem_map.mp hw
  have hk := List.mem_range.mp hk
  have h : ∀ k, k < 8 → tables_1[([58, 60, 62, 64, 66, 68, 70, 72] : List Nat).getD k 0]? = some (u_lay RX5 TX5 k) ∧ goodWord (u_lay RX5 TX5 k) = true := by decide +kernel
  exact inW (h k hk).1 (h k hk).2

theorem inX6 : ∀ w ∈ u_ws RX6 TX6 9, w ∈ WD := by
  intro w hw
  obtain ⟨k, hk, rfl⟩ := List.mem_map.mp hw
  have hk := List.mem_range.mp hk
  have h : ∀ k, k < 9 → tables_1[([411, 413, 415, 417, 419, 421, 423, 425, 427] : List Nat).getD k 0]? = some (u_lay RX6 TX6 k) ∧ goodWord (u_lay RX6 TX6 k) = true := by decide +kernel
  exact inW (h k hk).1 (h k hk).2

theorem inX7 : ∀ w ∈ u_ws RX7 TX7 5, w ∈ WD := by
  intro w hw
  obtain ⟨k, hk, rfl⟩ := List.mem_map.mp hw
  have hk := List.mem_range.mp hk
  have h : ∀ k, k < 5 → tables_1[([254, 256, 258, 260, 262] : List Nat).getD k 0]? = some (u_lay RX7 TX7 k) ∧ goodWord (u_lay RX7 TX7 k) = true := by decide +kernel
  exact inW (h k hk).1 (h k hk).2

theorem inX8 : ∀ w ∈ u_ws RX8 TX8 3, w ∈ WD := by
  intro w hw
  obtain ⟨k, hk, rfl⟩ := List.mem_map.mp hw
  have hk := List.mem_range.mp hk
  have h : ∀ k, k < 3 → tables_1[([271, 273, 275] : List Nat).getD k 0]? = some (u_lay RX8 TX8 k) ∧ goodWord (u_lay RX8 TX8 k) = true := by decide +kernel
  exact inW (h k hk).1 (h k hk).2

theorem inX9 : ∀ w ∈ u_ws RX9 TX9 8, w ∈ WD := by
  intro w hw
  obtain ⟨k, hk, rfl⟩ := List.mem_map.mp hw
  have hk := List.mem_range.mp hk
  have h : ∀ k, k < 8 → tables_1[([350, 352, 354, 356, 358, 360, 362, 364] : List Nat).getD k 0]? = some (u_lay RX9 TX9 k) ∧ goodWord (u_lay RX9 TX9 k) = true := by decide +kernel
  exact inW (h k hk).1 (h k hk).2

theorem inX10 : ∀ w ∈ u_ws RX10 TX10 7, w ∈ WD := by
  intro w hw
  obtain ⟨k, hk, rfl⟩ := List.mem_map.mp hw
  have hk := List.mem_range.mp hk
  have h : ∀ k, k < 7 → tables_1[([207, 209, 211, 213, 215, 217, 219] : List Nat).getD k 0]? = some (u_lay RX10 TX10 k) ∧ goodWord (u_lay RX10 TX10 k) = true := by decide +kernel
  exact inW (h k hk).1 (h k hk).2

theorem inX11 : ∀ w ∈ u_ws RX11 TX11 20, w ∈ WD := by
  intro w hw
  obtain ⟨k, hk, rfl⟩ := List.mem_map.mp hw
  have hk := List.mem_range.mp hk
  have h : ∀ k, k < 20 → tables_1[([450, 452, 454, 456, 458, 460, 462, 464, 466, 468, 470, 472, 474, 476, 478, 480, 482, 484, 486, 488] : List Nat).getD k 0]? = some (u_lay RX11 TX11 k) ∧ goodWord (u_lay RX11 TX11 k) = true := by decide +kernel
  exact inW (h k hk).1 (h k hk).2

theorem inX12 : ∀ w ∈ u_ws RX12 TX12 51, w ∈ WD := by
  intro w hw
  obtain ⟨k, hk, rfl⟩ := List.mem_map.mp hw
  have hk := List.mem_range.mp hk
  have h : ∀ k, k < 51 → tables_1[([1468, 1470, 1472, 1474, 1476, 1478, 1480, 1482, 1484, 1486, 1488, 1490, 1492, 1494, 1496, 1498, 1500, 1502, 1504, 1506, 1508, 1510, 1512, 1514, 1516, 1518, 1520, 1522, 1524, 1526, 1528, 1530, 1532, 1534, 1536, 1538, 1540, 1542, 1544, 1546, 1548, 1550, 1552, 1554, 1556, 1558, 1560, 1562, 1564, 1566, 1568] : List Nat).getD k 0]? = some (u_lay RX12 TX12 k) ∧ goodWord (u_lay RX12 TX12 k) = true := by decide +kernel
  exact inW (h k hk).1 (h k hk).2

def ownN : Nat → String := fun o => match o with
  | 0 => RX0
  | 1 => RX1
  | 2 => RX2
  | 3 => RX3
  | 4 => RX4
  | 5 => RX5
  | 6 => RX6
  | 7 => RX7
  | 8 => RX8
  | 9 => RX9
  | 10 => RX10
  | 11 => RX11
  | 12 => RX12
  | 13 => "java/lang/Integer"
  | 14 => "java/lang/String"
  | 15 => "java/lang/StringLatin1"
  | _ => "LostMuseumLaw"

def fl_0 : List (Nat × Nat × Nat × Nat) := [(66, 4, 0, 84), (46, 4, 1, 87), (119, 4, 5, 104), (86, 4, 6, 108), (56, 4, 9, 114), (59, 4, 10, 121), (51, 7, 2, 245), (38, 0, 0, 301), (42, 0, 1, 302), (9, 0, 2, 303), (15, 0, 3, 304), (18, 0, 4, 305), (22, 0, 5, 306), (25, 0, 6, 307), (28, 0, 7, 308), (31, 0, 8, 309), (35, 0, 9, 311)]

def fl_1 : List (Nat × Nat × Nat × Nat) := [(35, 4, 1, 88), (51, 4, 9, 115), (55, 4, 10, 124), (44, 7, 0, 235), (23, 7, 2, 243), (9, 1, 0, 285), (15, 1, 1, 286), (19, 1, 2, 287)]

def fl_2 : List (Nat × Nat × Nat × Nat) := [(84, 5, 4, 48), (71, 5, 5, 52), (142, 4, 4, 101), (138, 4, 9, 119), (140, 4, 10, 127), (130, 4, 11, 130), (135, 4, 12, 133), (9, 2, 0, 176), (15, 2, 1, 177), (18, 2, 2, 178), (21, 2, 3, 179), (25, 2, 4, 180), (144, 7, 3, 250)]

def fl_3 : List (Nat × Nat × Nat × Nat) := [(48, 4, 1, 89), (66, 4, 9, 116), (63, 4, 10, 123), (39, 7, 2, 244), (25, 3, 0, 374), (29, 3, 1, 375), (9, 3, 2, 376), (15, 3, 3, 377), (18, 3, 4, 378), (21, 3, 5, 379)]

def fl_4 : List (Nat × Nat × Nat × Nat) := [(78, 5, 4, 46), (121, 5, 5, 53), (9, 4, 0, 82), (15, 4, 1, 86), (18, 4, 2, 93), (21, 4, 3, 96), (24, 4, 4, 98), (28, 4, 5, 102), (31, 4, 6, 105), (34, 4, 7, 109), (37, 4, 8, 111), (40, 4, 9, 113), (43, 4, 10, 120), (46, 4, 11, 128), (49, 4, 12, 131), (52, 4, 13, 134)]

def fl_5 : List (Nat × Nat × Nat × Nat) := [(33, 5, 0, 40), (9, 5, 1, 41), (15, 5, 2, 42), (18, 5, 3, 43), (21, 5, 4, 44), (24, 5, 5, 49), (27, 5, 6, 54), (30, 5, 7, 56)]

def fl_6 : List (Nat × Nat × Nat × Nat) := [(68, 4, 1, 90), (65, 4, 6, 106), (53, 4, 10, 122), (71, 7, 0, 236), (31, 6, 0, 399), (35, 6, 1, 400), (39, 6, 2, 401), (9, 6, 3, 402), (15, 6, 4, 403), (18, 6, 5, 404), (22, 6, 6, 405), (25, 6, 7, 407), (28, 6, 8, 409)]

def fl_7 : List (Nat × Nat × Nat × Nat) := [(28, 4, 13, 135), (9, 7, 0, 234), (15, 7, 1, 239), (18, 7, 2, 242), (21, 7, 3, 247), (25, 7, 4, 251)]

def fl_8 : List (Nat × Nat × Nat × Nat) := [(12, 8, 0, 266), (18, 8, 1, 268), (22, 8, 2, 269)]

def fl_9 : List (Nat × Nat × Nat × Nat) := [(50, 5, 4, 45), (57, 5, 5, 50), (102, 4, 0, 85), (117, 4, 4, 99), (84, 4, 8, 112), (32, 9, 0, 341), (36, 9, 1, 342), (9, 9, 2, 343), (15, 9, 3, 344), (18, 9, 4, 345), (21, 9, 5, 346), (25, 9, 6, 347), (28, 9, 7, 348)]

def fl_10 : List (Nat × Nat × Nat × Nat) := [(85, 5, 4, 47), (103, 5, 5, 51), (106, 4, 1, 91), (95, 4, 2, 94), (133, 4, 9, 118), (146, 4, 10, 126), (11, 10, 0, 198), (15, 10, 1, 199), (18, 10, 2, 200), (21, 10, 3, 201), (24, 10, 4, 202), (28, 10, 5, 203), (31, 10, 6, 205), (136, 7, 0, 238), (143, 7, 1, 241), (153, 7, 3, 249), (130, 7, 4, 252)]

def fl_11 : List (Nat × Nat × Nat × Nat) := [(368, 5, 6, 55), (367, 5, 7, 57), (154, 4, 0, 83), (187, 4, 1, 92), (190, 4, 2, 95), (223, 4, 3, 97), (219, 4, 4, 100), (226, 4, 5, 103), (233, 4, 6, 107), (236, 4, 7, 110), (242, 4, 9, 117), (245, 4, 10, 125), (248, 4, 11, 129), (251, 4, 12, 132), (173, 10, 5, 204), (170, 10, 6, 206), (193, 7, 0, 237), (213, 7, 1, 240), (207, 7, 2, 246), (258, 7, 3, 248), (268, 7, 4, 253), (72, 8, 0, 267), (158, 8, 2, 270), (298, 0, 8, 310), (301, 0, 9, 312), (177, 9, 7, 349), (354, 6, 6, 406), (356, 6, 7, 408), (359, 6, 8, 410), (9, 11, 0, 430), (13, 11, 1, 431), (17, 11, 2, 432), (20, 11, 3, 433), (23, 11, 4, 434), (26, 11, 5, 435), (37, 11, 6, 436), (44, 11, 7, 437), (48, 11, 8, 438), (54, 11, 9, 439), (61, 11, 10, 440), (104, 11, 11, 441), (68, 11, 12, 442), (77, 11, 13, 443), (29, 11, 14, 444), (76, 11, 15, 445), (86, 11, 16, 446), (95, 11, 17, 447), (111, 11, 18, 448), (120, 11, 19, 449)]

def fl_12 : List (Nat × Nat × Nat × Nat) := [(110, 12, 0, 1417), (113, 12, 1, 1418), (116, 12, 2, 1419), (9, 12, 3, 1420), (119, 12, 4, 1421), (126, 12, 5, 1422), (129, 12, 6, 1423), (166, 12, 7, 1424), (169, 12, 8, 1425), (13, 12, 9, 1426), (17, 12, 10, 1427), (20, 12, 11, 1428), (23, 12, 12, 1429), (26, 12, 13, 1430), (29, 12, 14, 1431), (32, 12, 15, 1432), (35, 12, 16, 1433), (38, 12, 17, 1434), (41, 12, 18, 1435), (46, 12, 19, 1436), (49, 12, 20, 1437), (203, 12, 21, 1438), (218, 12, 22, 1439), (52, 12, 23, 1440), (55, 12, 24, 1441), (58, 12, 25, 1442), (61, 12, 26, 1443), (64, 12, 27, 1444), (67, 12, 28, 1445), (70, 12, 29, 1446), (262, 12, 30, 1447), (73, 12, 31, 1448), (76, 12, 32, 1449), (79, 12, 33, 1450), (82, 12, 34, 1451), (206, 12, 35, 1452), (209, 12, 36, 1453), (212, 12, 37, 1454), (215, 12, 38, 1455), (399, 12, 39, 1456), (286, 12, 40, 1457), (296, 12, 41, 1458), (85, 12, 42, 1459), (88, 12, 43, 1460), (91, 12, 44, 1461), (94, 12, 45, 1462), (370, 12, 46, 1463), (97, 12, 47, 1464), (101, 12, 48, 1465), (383, 12, 49, 1466), (386, 12, 50, 1467)]

def flT : Nat → List (Nat × Nat × Nat × Nat) := fun o => match o with
  | 0 => fl_0
  | 1 => fl_1
  | 2 => fl_2
  | 3 => fl_3
  | 4 => fl_4
  | 5 => fl_5
  | 6 => fl_6
  | 7 => fl_7
  | 8 => fl_8
  | 9 => fl_9
  | 10 => fl_10
  | 11 => fl_11
  | 12 => fl_12
  | _ => []

def lk {α : Type} : List (Nat × α) → Nat → Option α
  | [], _ => none
  | q :: r, i => bif Nat.beq q.1 i then some q.2 else lk r i
theorem lk_mem {α : Type} {l : List (Nat × α)} {i : Nat} {a : α} (h : lk l i = some a) : (i, a) ∈ l := by
  induction l with
  | nil => cases h
  | cons q r ih =>
    unfold lk at h
    cases hb : Nat.beq q.1 i with
    | true =>
      rw [hb] at h
      have h1 : q.1 = i := Nat.eq_of_beq_eq_true hb
      have h2 : q.2 = a := Option.some.inj h
      rw [← h1, ← h2]
      exact List.mem_cons_self
    | false =>
      rw [hb] at h
      exact List.mem_cons_of_mem _ (ih h)
def chF (o : Nat) (q : Nat × Nat × Nat × Nat) : Bool := match classes[q.2.1]? with
  | some (_, T, N) => decide (q.2.2.1 < N) && decide (tables_1[q.2.2.2]? = some (Cond.fieldLink (ownN o) q.1 (T q.2.2.1).1 (T q.2.2.1).2.1 (T q.2.2.1).2.2.1)) && goodWord (Cond.fieldLink (ownN o) q.1 (T q.2.2.1).1 (T q.2.2.1).2.1 (T q.2.2.1).2.2.1)
  | none => false

theorem chF_0 : (fl_0).all (chF 0) = true := by decide +kernel

theorem chF_1 : (fl_1).all (chF 1) = true := by decide +kernel

theorem chF_2 : (fl_2).all (chF 2) = true := by decide +kernel

theorem chF_3 : (fl_3).all (chF 3) = true := by decide +kernel

theorem chF_4 : (fl_4).all (chF 4) = true := by decide +kernel

theorem chF_5 : (fl_5).all (chF 5) = true := by decide +kernel

theorem chF_6 : (fl_6).all (chF 6) = true := by decide +kernel

theorem chF_7 : (fl_7).all (chF 7) = true := by decide +kernel

theorem chF_8 : (fl_8).all (chF 8) = true := by decide +kernel

theorem chF_9 : (fl_9).all (chF 9) = true := by decide +kernel

theorem chF_10 : (fl_10).all (chF 10) = true := by decide +kernel

theorem chF_11 : (fl_11).all (chF 11) = true := by decide +kernel

theorem chF_12 : (fl_12).all (chF 12) = true := by decide +kernel

theorem chF_all : ∀ o, o < 17 → (flT o).all (chF o) = true := by
  intro o h
  match o, h with
  | 0, _ => exact chF_0
  | 1, _ => exact chF_1
  | 2, _ => exact chF_2
  | 3, _ => exact chF_3
  | 4, _ => exact chF_4
  | 5, _ => exact chF_5
  | 6, _ => exact chF_6
  | 7, _ => exact chF_7
  | 8, _ => exact chF_8
  | 9, _ => exact chF_9
  | 10, _ => exact chF_10
  | 11, _ => exact chF_11
  | 12, _ => exact chF_12
  | 13, _ => rfl
  | 14, _ => rfl
  | 15, _ => rfl
  | 16, _ => rfl
  | k + 17, h => exact absurd h (by omega)

def icT : Nat → List (Nat × Int32 × Nat) := fun o => match o with
  | 0 => []
  | 1 => []
  | 2 => []
  | 3 => []
  | 4 => []
  | 5 => [(59, 100000, 808)]
  | 6 => [(82, 1103515245, 1386)]
  | 7 => []
  | 8 => []
  | 9 => []
  | 10 => []
  | 11 => []
  | 12 => [(143, 100000, 1639), (389, 1103515245, 1970)]
  | 13 => [(265, 1431655765, 558), (266, 858993459, 559), (267, 252645135, 560)]
  | _ => []

def lcT : Nat → List (Nat × Int64 × Nat) := fun o => match o with
  | 0 => [(115, 68719476736, 1300), (117, 16, 1301)]
  | 1 => []
  | 2 => []
  | 3 => []
  | 4 => []
  | 5 => []
  | 6 => []
  | 7 => []
  | 8 => []
  | 9 => []
  | 10 => []
  | 11 => []
  | 12 => [(379, 68719476736, 1936), (381, 16, 1937)]
  | _ => []

theorem icT_ok : ∀ o, o < 17 → (icT o).all (fun q => decide (tables_1[q.2.2]? = some (Cond.constant (ownN o) q.1 q.2.1)) && goodWord (Cond.constant (ownN o) q.1 q.2.1)) = true := by decide +kernel

theorem lcT_ok : ∀ o, o < 17 → (lcT o).all (fun q => decide (tables_1[q.2.2]? = some (Cond.constantLong (ownN o) q.1 q.2.1)) && goodWord (Cond.constantLong (ownN o) q.1 q.2.1)) = true := by decide +kernel

def strT : List (String × Nat × String × Nat) := [("LostMuseum", 373, "out of its range", 0), ("LostMuseum$Plan", 88, "room", 1), ("LostMuseum$Plan", 98, "door", 2), ("LostMuseum$Plan", 103, "exit", 3), ("LostMuseum$Plan", 108, "tour", 4), ("LostMuseum$Plan", 113, "warder", 5), ("LostMuseum$Law", 98, "plan", 6), ("LostMuseum$Law", 104, "hour", 7), ("LostMuseum$Law", 106, "day", 8), ("LostMuseum$Law", 108, "door", 2), ("LostMuseum$Law", 110, "from", 9), ("LostMuseum$Law", 112, "to", 10), ("LostMuseum$Law", 114, "sees", 11), ("LostMuseum$Law", 116, "used", 12), ("LostMuseum$Law", 118, "least", 13), ("LostMuseum$Law", 120, "most", 14), ("LostMuseum$Work", 60, "go", 15), ("LostMuseum$Work", 70, "bar", 16), ("LostMuseum$Work", 75, "unbar", 17), ("LostMuseum$Work", 77, "hour", 7), ("LostMuseum$Work", 83, "again", 18), ("LostMuseum", 376, "no such room", 19), ("LostMuseum", 378, "no such door", 20), ("LostMuseum", 263, "no such tour", 21)]

def lenT : List Nat := [16, 4, 4, 4, 4, 6, 4, 4, 3, 4, 2, 4, 4, 5, 4, 2, 3, 5, 5, 12, 12, 12]

def bytT : List (List Int32) := [[111, 117, 116, 32, 111, 102, 32, 105, 116, 115, 32, 114, 97, 110, 103, 101], [114, 111, 111, 109], [100, 111, 111, 114], [101, 120, 105, 116], [116, 111, 117, 114], [119, 97, 114, 100, 101, 114], [112, 108, 97, 110], [104, 111, 117, 114], [100, 97, 121], [102, 114, 111, 109], [116, 111], [115, 101, 101, 115], [117, 115, 101, 100], [108, 101, 97, 115, 116], [109, 111, 115, 116], [103, 111], [98, 97, 114], [117, 110, 98, 97, 114], [97, 103, 97, 105, 110], [110, 111, 32, 115, 117, 99, 104, 32, 114, 111, 111, 109], [110, 111, 32, 115, 117, 99, 104, 32, 100, 111, 111, 114], [110, 111, 32, 115, 117, 99, 104, 32, 116, 111, 117, 114]]

abbrev nTX : Nat := 22

def nestT : List (String × Nat × MethodName × String) := [("LostMuseum", 43, ⟨"LostMuseum$Plan", "<init>", "()V"⟩, "LostMuseum"), ("LostMuseum", 60, ⟨"LostMuseum$Work", "<init>", "()V"⟩, "LostMuseum"), ("LostMuseum$Timeline", 11, ⟨"LostMuseum$State", "<init>", "()V"⟩, "LostMuseum"), ("LostMuseum$Graph", 89, ⟨"LostMuseum", "lowest", "(I)I"⟩, "LostMuseum"), ("LostMuseum$Sleeper", 83, ⟨"LostMuseum", "lowest", "(I)I"⟩, "LostMuseum")]

def declT : List MethodName := [⟨"java/lang/RuntimeException", "<init>", "()V"⟩, ⟨"java/lang/RuntimeException", "<init>", "(Ljava/lang/String;)V"⟩, ⟨"java/lang/Exception", "<init>", "()V"⟩, ⟨"java/lang/Exception", "<init>", "(Ljava/lang/String;)V"⟩, ⟨"java/lang/Throwable", "<init>", "()V"⟩, ⟨"java/lang/Throwable", "<init>", "(Ljava/lang/String;)V"⟩]

def castT : List (String × String) := [("java/lang/IllegalArgumentException", "java/lang/IllegalArgumentException"), ("java/util/NoSuchElementException", "java/util/NoSuchElementException"), ("LostMuseum", "java/lang/Object"), ("LostMuseum$Reader", "java/lang/Object"), ("LostMuseum$Plan", "java/lang/Object"), ("LostMuseum$Law", "java/lang/Object"), ("LostMuseum$Work", "java/lang/Object"), ("LostMuseum$Timeline", "java/lang/Object"), ("LostMuseum$State", "java/lang/Object"), ("LostMuseum$Hours", "java/lang/Object"), ("LostMuseum$Graph", "java/lang/Object"), ("LostMuseum$Walk", "java/lang/Object"), ("LostMuseum$Parting", "java/lang/Object"), ("LostMuseum$Sleeper", "java/lang/Object"), ("LostMuseumModel", "java/lang/Object"), ("java/lang/IllegalArgumentException", "java/lang/Object"), ("java/util/NoSuchElementException", "java/lang/Object"), ("java/lang/Throwable", "java/lang/Object"), ("java/lang/String", "java/lang/Object")]

def kd (c : Nat) : Nat × Nat := if c < 1566 then (if c < 24 then (if c < 15 then (if c < 5 then (if c < 2 then (if c < 1 then ((0, 12)) else ((1, 600))) else (if c < 3 then ((1, 2)) else ((1, 4)))) else (if c < 11 then (if c < 9 then ((1, 10)) else ((1, 6))) else (if c < 13 then ((5, 24)) else ((5, 160))))) else (if c < 20 then (if c < 17 then (if c < 16 then ((1, 160)) else ((1, 8))) else (if c < 19 then ((1, 12)) else ((5, 80)))) else (if c < 22 then (if c < 21 then ((1, 56)) else ((5, 16))) else (if c < 23 then ((5, 3)) else ((5, 10)))))) else (if c < 494 then (if c < 30 then (if c < 27 then (if c < 26 then ((5, 13)) else ((5, 1024))) else (if c < 28 then ((1, 24)) else ((4, 10)))) else (if c < 398 then (if c < 78 then ((1, 4)) else ((1, 2))) else (if c < 478 then ((1, 4)) else ((1, 56))))) else (if c < 1559 then (if c < 1557 then (if c < 497 then ((1, 953)) else ((1, 10))) else (if c < 1558 then ((4, 1)) else ((0, 11)))) else (if c < 1561 then (if c < 1560 then ((2, 600)) else ((0, 5))) else (if c < 1562 then ((0, 4)) else ((1, 10))))))) else (if c < 1596 then (if c < 1583 then (if c < 1573 then (if c < 1571 then (if c < 1567 then ((1, 8)) else ((1, 24))) else (if c < 1572 then ((1, 6)) else ((0, 4)))) else (if c < 1578 then (if c < 1577 then ((1, 10)) else ((1, 8))) else (if c < 1582 then ((1, 24)) else ((1, 6))))) else (if c < 1588 then (if c < 1586 then (if c < 1584 then ((0, 2)) else ((1, 150))) else (if c < 1587 then ((1, 48)) else ((0, 10)))) else (if c < 1593 then (if c < 1592 then ((1, 150)) else ((0, 9))) else (if c < 1595 then ((1, 12)) else ((1, 120)))))) else (if c < 1610 then (if c < 1602 then (if c < 1599 then (if c < 1598 then ((3, 1024)) else ((0, 1))) else (if c < 1600 then ((0, 0)) else ((1, 10)))) else (if c < 1606 then (if c < 1603 then ((4, 10)) else ((1, 1024))) else (if c < 1607 then ((0, 3)) else ((1, 10))))) else (if c < 1615 then (if c < 1613 then (if c < 1611 then ((0, 6)) else ((1, 96))) else (if c < 1614 then ((7, 3)) else ((0, 8)))) else (if c < 1617 then (if c < 1616 then ((0, 8)) else ((0, 8))) else (if c < 1618 then ((0, 8)) else (if c < 1622 then ((6, 16)) else (if (c - 1622) % 3 = 0 then (0, 7) else if (c - 1622) % 3 = 1 then (1, 24) else (1, 6))))))))

def rf (c j : Nat) : Nat := if c < 1583 then (if c < 23 then (if c < 14 then (if c < 11 then (if c < 1 then (([0, 0, 0, 0, 0, 0, 0, 0, 0, 1, 2, 3, 4, 5, 6, 7, 8, 9, 10, 11, 12, 0, 0, 13, 14, 15, 16, 17, 18, 19, 0, 20, 21, 22, 23, 0, 0, 0, 0, 0, 0, 0, 24, 25, 26, 27, 0, 28, 29] : List Nat).getD j 0) else (0)) else (if c < 12 then (30 + j) else (if c < 13 then (54 + j) else (78 + j)))) else (if c < 20 then (if c < 15 then (238 + j) else (if c < 19 then (0) else (398 + j))) else (if c < 21 then (0) else (if c < 22 then (478 + j) else (494 + j))))) else (if c < 1559 then (if c < 26 then (if c < 24 then (497 + j) else (if c < 25 then (507 + j) else (520 + j))) else (if c < 27 then (533 + j) else (if c < 1558 then (0) else (([1559, 0, 0, 0, 0, 0, 1560, 1561, 1572, 1583, 1587, 1592, 1614, 1613, 0, 1622, 1598, 1599, 1606, 1610] : List Nat).getD j 0)))) else (if c < 1562 then (if c < 1560 then (0) else (if c < 1561 then (([1559] : List Nat).getD j 0) else (([0, 0, 0, 0, 1562, 1563, 1564, 1565, 1566, 1567, 1568, 1569, 1570, 1571] : List Nat).getD j 0))) else (if c < 1572 then (0) else (if c < 1573 then (([0, 0, 0, 0, 1573, 1574, 1575, 1576, 1577, 1578, 1579, 1580, 1581, 1582] : List Nat).getD j 0) else (0)))))) else (if c < 1610 then (if c < 1593 then (if c < 1587 then (if c < 1584 then (([1584, 1585, 1586] : List Nat).getD j 0) else (0)) else (if c < 1588 then (([1588, 1589, 1590, 1591] : List Nat).getD j 0) else (if c < 1592 then (0) else (([1561, 1599, 1593, 1594, 1595, 1596, 1597] : List Nat).getD j 0)))) else (if c < 1600 then (if c < 1598 then (0) else (if c < 1599 then (([1561, 1622, 1583] : List Nat).getD j 0) else (([1561, 1622, 1600, 1601, 1602, 1603, 1604, 1605] : List Nat).getD j 0))) else (if c < 1606 then (0) else (if c < 1607 then (([1561, 1622, 1607, 1608, 1609] : List Nat).getD j 0) else (0))))) else (if c < 1617 then (if c < 1614 then (if c < 1611 then (([1561, 1622, 1598, 1611, 1612] : List Nat).getD j 0) else (if c < 1613 then (0) else (1615 + j))) else (if c < 1615 then (([1622, 1618] : List Nat).getD j 0) else (if c < 1616 then (([1673, 1619] : List Nat).getD j 0) else (([1724, 1620] : List Nat).getD j 0)))) else (if c < 1620 then (if c < 1618 then (([1775, 1621] : List Nat).getD j 0) else (if c < 1619 then (1625 + 3 * j) else (1676 + 3 * j))) else (if c < 1621 then (1727 + 3 * j) else (if c < 1622 then (1778 + 3 * j) else (if j = 3 then c + 1 else c + 2))))))

def frT : List (List Bool) := [[true, true, true, true, true, true, true, true, false, false], [true, true, true], [true, true, true, false, false], [true, true, true, true, true, false], [false, false, false, false, true, true, true, true, true, true, true, true, true, true], [true, false, false, false, false, false, false, false], [true, true, true, true, true, false, false, false, false], [false, false, false, true, true], [true, true, false], [true, true, true, true, true, true, true, false], [true, true, true, true, false, false, false], [true, false, false, false, false, false, true, true, true, true, true, true, true, true, false, true, true, true, true, true], [false, false, false, false, false, false, false, false, false, true, true, true, true, true, true, true, true, true, true, true, true, false, false, true, true, true, true, true, true, true, false, true, true, true, true, false, false, false, false, false, false, false, true, true, true, true, false, true, true, false, false]]

def frq (ci j : Nat) : Bool := (frT.getD ci []).getD j false

def nfl (ci : Nat) : Nat := ([10, 3, 5, 6, 14, 8, 9, 5, 3, 8, 7, 20, 51] : List Nat).getD ci 0

abbrev NC : Nat := 1826
end
section
/-! ===== BEGIN exceptions that leave a method, and their catching by the caller (launches without stack traces) ===== -/
section VXA
/-! The laws vx_back, vx_callV, vx_callS, vx_callSW, vx_throw0, vx_throwS follow proofs of the library, with one case more: JvmDerived/Free/Laws.lean (Back.of_free), Shelf42/LK1.lean (callV, callS), Shelf/KitTraced.lean (throwNew0V, throwNewS). -/
/-- where a method has thrown q: the class by its name, the cell, what was written, the world -/
def vx_T (XC : String → State → State → Prop) (st : State) (q : Addr) (t : State) (mc ms : Nat) (free : Addr → Prop) : Prop :=
  ∃ (E : String) (ce : Cell) (L : List Loc), XC E st t ∧ t.heap[q]? = some ce ∧ ce.vm = .none ∧ st.vm.findClass E = some ce.cls ∧ st.WarmedH t.vm ∧ st.sameButNew ({ t with vm := st.vm } : State) L mc ms ∧ ∀ z ∈ L, free z.base
def vx_Q (Qc : Array Value → State → Outcome → State → Prop) (XC : String → State → State → Prop) (mc ms : Nat) (free : Addr → Prop) : Array Value → State → Outcome → State → Prop := fun a st o t =>
  (Qc a st o t ∧ ∃ L, FrameEnd st o t L mc ms ∧ ∀ q ∈ L, free q.base) ∨ ∃ q, o = .threw q ∧ vx_T XC st q t mc ms free
/-- a callee that returns or throws -/
def vx_Met (l : Launch) (y : MethodName) (ws : List Cond) (rm : Room) (Pc : Array Value → State → Prop) (Qc : Array Value → State → Outcome → State → Prop) (XC : String → State → State → Prop) (mc ms : Nat) (free : Addr → Prop) : Prop :=
  MetFree l y (headSpec ws rm) Pc (fun _ _ _ _ _ => True) (vx_Q Qc XC mc ms free)
def vx_Post (XC : String → State → State → Prop) (mc ms : Nat) (free : Addr → Prop) : Pt → Array Value → Addr → Pt → Prop := fun A a q B =>
  ∃ (g : JFrame) (mk : MethodId) (t : State) (L : List Loc) (E : String) (ce : Cell), B.U.heap = t.heap ∧ B.U.vm = t.vm ∧ XC E (A.U.calling g mk a) t ∧ t.heap[q]? = some ce ∧ ce.vm = .none ∧ A.U.vm.findClass E = some ce.cls ∧ B.locs = A.locs ++ L ∧ (∀ z ∈ L, free z.base) ∧ B.cells = A.cells + mc ∧ B.slots = A.slots + ms
def vx_Back (l : Launch) (R : Room) (p : Program) (e : Env) (below : List Frame) (s : State) (sargs : Array Value) (y : MethodName) (len W9 : Nat)
    (Pre : Pt → Array Value → Prop) (Post : Pt → Array Value → Option Value → Pt → Prop) (PostX : Pt → Array Value → Addr → Pt → Prop) : Prop :=
  ∀ (m : MethodId) (meth : Method) (c : Code) (A : Pt) (g : JFrame) (ig : Instr) (mk : MethodId) (a : Array Value),
    Stand p l e R s m sargs below meth c A.U A.locs A.cells A.slots → g.method = m → g.locals.size = c.maxLocals → decode c.code g.pc = .ok (ig, len) →
    2 * g.monitorRoom + (g.stack.map fun v => v.category).sum ≤ W9 → A.U.methodNamed? y = some mk → Pre A a →
    (∃ (v : Option Value) (B : Pt), Stand p l e R s m sargs below meth c B.U B.locs B.cells B.slots ∧ Post A a v B ∧
      Steps p.tables e below (doInvoke e (A.U.setTop g) [] mk a).1 (B.U.setTop { g with pc := g.pc + len, stack := v.toList ++ g.stack })) ∨
    (∃ (q : Addr) (B : Pt), Stand p l e R s m sargs below meth c B.U B.locs B.cells B.slots ∧ PostX A a q B ∧
      Steps p.tables e below (doInvoke e (A.U.setTop g) [] mk a).1 ((B.U.setTop g).pushFrame (.throwing q)))
section Payer
variable {l : Launch} {R : Room} {p : Program} {e : Env} {below : List Frame} {s : State} {sargs : Array Value} {y : MethodName} {len W9 : Nat}
theorem vx_back {ws : List Cond} {rm : Room} {Pc : Array Value → State → Prop} {Qc : Array Value → State → Outcome → State → Prop} {XC : String → State → State → Prop} {mc ms : Nat} {free : Addr → Prop} {bytes : ByteArray} {maxL : Nat} {ret : Option FieldType}
    (hM : vx_Met l y ws rm Pc Qc XC mc ms free) (hblind : FrameBlind Pc) (hrc : rm.cells = mc) (hrs : rm.slots = ms)
    (hframes : rm.frames + 1 ≤ R.frames) (hlocals : W9 + (maxL + 11) + rm.locals ≤ R.locals)
    (hws : ∀ w ∈ ws, ∀ a' U, s.WarmedH U.vm → w.before a' U = true) (hcode : Cond.code y bytes maxL ret ∈ ws) (hinit : ∀ a' U, s.WarmedH U.vm → (Cond.initialized y.cls).before a' U = true) :
    vx_Back l R p e below s sargs y len W9 (PreOf R mc ms Pc) (PostOf Qc mc ms free) (vx_Post XC mc ms free) := by
  intro m meth c A g ig mk a X hg hsize hdg hW hn hp
  have h1 : (headSpec ws rm).pre.before a A.U = true := atoms_intro fun w hw => hws w hw _ _ X.warmed
  have h2 : (Cond.code y bytes maxL ret).before a A.U = true := hws _ hcode _ _ X.warmed
  have h3 : (Cond.initialized y.cls).before a A.U = true := hinit _ _ X.warmed
  have h4 : A.cells + (headSpec ws rm).room.cells ≤ R.cells := by rw [show (headSpec ws rm).room.cells = mc from hrc]; exact hp.1
  have h5 : A.slots + (headSpec ws rm).room.slots ≤ R.slots := by rw [show (headSpec ws rm).room.slots = ms from hrs]; exact hp.2.1
  have hPc : Pc a (A.U.calling g mk a) := hblind _ _ _ _ hp.2.2
  obtain ⟨U, Ls, c0, s0⟩ := A
  dsimp only [Pt.U, Pt.locs, Pt.cells, Pt.slots] at h1 h2 h3 h4 h5 X hn hPc ⊢
  obtain ⟨methY, cY, hmY, hcY, -, hlY, -, -, -, -⟩ := Cond.code_spec hn h2
  obtain ⟨kY, hkY, -⟩ := className_of_methodNamed hn
  have hinitY : kY.init = .initialized := Cond.initialized_spec (findClass_of_methodNamed hn) hkY h3
  have h : At U g.method c below := by rw [hg]; exact X.here
  have hlocals9 : W9 + (maxL + 11) + (headSpec ws rm).room.locals ≤ R.locals := hlocals
  have happ : (headSpec ws rm).appliesLoose y e.platform (U.calling g mk a) = true :=
    Spec.appliesLoose_calling (g := g) h hdg hn hkY hinitY
      (X.room_calling (g := g) (R' := (headSpec ws rm).room) hsize hmY hcY hframes (by rw [hlY]; omega) h4 h5) h1
  obtain ⟨mid, hmid⟩ := h.above
  have hfr : (U.setTop g).frames = (.java g :: mid) ++ below := by rw [State.frames_setTop' g h.top, hmid]; rfl
  obtain ⟨o, s₂, hsteps, -, hend, hq⟩ := Steps.callFree hM p X.admits X.cas X.clock (acts := []) hfr happ hPc trivial
  have hq' : vx_Q Qc XC mc ms free a (U.calling g mk a) o s₂ := hq
  rw [State.frames_setTop' g h.top] at hend
  obtain ⟨g₀, hg0⟩ := Option.isSome_iff_exists.mp h.top
  obtain ⟨r, hr⟩ := State.topJava?_eq_some.mp hg0
  have hr' : (({ U with heap := s₂.heap, slotsUsed := s₂.slotsUsed } : State).setVm s₂.vm).frames = .java g₀ :: r := hr
  rcases hq' with ⟨hqc, L, hfe, hL⟩ | ⟨q, rfl, E, ce, L, hx, hce, hcv, hcl, hW₂, hsm, hL⟩
  · obtain ⟨⟨v, rfl⟩, hW₂, e2, q2, q3, q4, q5, q6⟩ := id hfe
    have e3 : s₂ = ({ (U.calling g mk a).setFrames s₂.frames with heap := s₂.heap, slotsUsed := s₂.slotsUsed } : State).setVm s₂.vm := by
      have : s₂ = ({ s₂ with vm := (U.calling g mk a).vm } : State).setVm s₂.vm := rfl
      rw [e2] at this
      exact this
    obtain ⟨c₂, i₂, len₂, hc₂, hd₂, hf₂⟩ := hend
    have hW' : U.WarmedH s₂.vm := hW₂
    have hcc : c₂ = c := by
      have h1 : s₂.code? g.method = U.code? g.method := by
        rw [State.code?_eq, State.code?_eq, hW'.alike.method?]
      exact Option.some.inj (hc₂.symm.trans (h1.trans h.code))
    subst hcc
    have hlen : len₂ = len := by rw [hdg] at hd₂; cases hd₂; rfl
    subst hlen
    have hs₂ : s₂ = (({ U with heap := s₂.heap, slotsUsed := s₂.slotsUsed } : State).setVm s₂.vm).setTop { g with pc := g.pc + len₂, stack := v.toList ++ g.stack } := by
      refine e3.trans ?_
      rw [hf₂, State.calling_eq h.top, State.setFrames_setFrames, State.setTop_of_frames _ hr', hr]
      rfl
    have hsame : U.sameButNew ({ U with heap := s₂.heap, slotsUsed := s₂.slotsUsed } : State) L mc ms := by
      refine ⟨?_, q2, q3, q4, q5, q6⟩
      obtain ⟨t, ht, -⟩ := State.frames_cons hr
      show ({ U with heap := s₂.heap, slotsUsed := s₂.slotsUsed } : State) = { U.setFrames U.frames with heap := s₂.heap, slotsUsed := s₂.slotsUsed }
      rw [State.setFrames_self ht]
    subst hg
    refine Or.inl ⟨v, ⟨(({ U with heap := s₂.heap, slotsUsed := s₂.slotsUsed } : State).setVm s₂.vm), Ls ++ L, c0 + mc, s0 + ms⟩,
      ⟨X.admits, X.cas, X.clock, X.frames, X.room, X.hears, X.method, X.code, (X.here.setHeapUsed s₂.heap s₂.slotsUsed).setVm hW'.alike, X.tail, State.WarmedH.trans X.warmed hW', X.limits, X.bytes, X.same.trans (hsame.setVm s.vm)⟩,
      ⟨g, mk, s₂, L, rfl, rfl, hqc, rfl, hL, rfl, rfl⟩, ?_⟩
    show Steps p.tables e below _ ((({ U with heap := s₂.heap, slotsUsed := s₂.slotsUsed } : State).setVm s₂.vm).setTop { g with pc := g.pc + len₂, stack := v.toList ++ g.stack })
    rw [← hs₂]
    exact hsteps
  · obtain ⟨e2, q2, q3, q4, q5, q6⟩ := id hsm
    have e3 : s₂ = ({ (U.calling g mk a).setFrames s₂.frames with heap := s₂.heap, slotsUsed := s₂.slotsUsed } : State).setVm s₂.vm := by
      have : s₂ = ({ s₂ with vm := (U.calling g mk a).vm } : State).setVm s₂.vm := rfl
      rw [e2] at this
      exact this
    have hf₂ : s₂.frames = .throwing q :: .java g :: U.frames.tail := hend
    have hW' : U.WarmedH s₂.vm := hW₂
    have hs₂ : s₂ = ((({ U with heap := s₂.heap, slotsUsed := s₂.slotsUsed } : State).setVm s₂.vm).setTop g).pushFrame (.throwing q) := by
      refine e3.trans ?_
      rw [hf₂, State.calling_eq h.top, State.setFrames_setFrames, State.pushFrame, State.frames_setTop _ hr', State.setTop_of_frames _ hr', State.setFrames_setFrames, hr]
      rfl
    have hsame : U.sameButNew ({ U with heap := s₂.heap, slotsUsed := s₂.slotsUsed } : State) L mc ms := by
      refine ⟨?_, q2, q3, q4, q5, q6⟩
      obtain ⟨t, ht, -⟩ := State.frames_cons hr
      show ({ U with heap := s₂.heap, slotsUsed := s₂.slotsUsed } : State) = { U.setFrames U.frames with heap := s₂.heap, slotsUsed := s₂.slotsUsed }
      rw [State.setFrames_self ht]
    subst hg
    refine Or.inr ⟨q, ⟨(({ U with heap := s₂.heap, slotsUsed := s₂.slotsUsed } : State).setVm s₂.vm), Ls ++ L, c0 + mc, s0 + ms⟩,
      ⟨X.admits, X.cas, X.clock, X.frames, X.room, X.hears, X.method, X.code, (X.here.setHeapUsed s₂.heap s₂.slotsUsed).setVm hW'.alike, X.tail, State.WarmedH.trans X.warmed hW', X.limits, X.bytes, X.same.trans (hsame.setVm s.vm)⟩,
      ⟨g, mk, s₂, L, E, ce, rfl, rfl, hx, hce, hcv, hcl, rfl, hL, rfl, rfl⟩, ?_⟩
    show Steps p.tables e below _ (((({ U with heap := s₂.heap, slotsUsed := s₂.slotsUsed } : State).setVm s₂.vm).setTop g).pushFrame (.throwing q))
    rw [← hs₂]
    exact hsteps
end Payer
section Calls
variable {p : Program} {l : Launch} {e : Env} {R : Room} {s : State} {m : MethodId} {args : Array Value} {below : List Frame} {meth : Method} {c : Code} {T : State} {locs : List Loc} {cells slots : Nat}
theorem vx_callV (X : Stand p l e R s m args below meth c T locs cells slots) (hexec : p.tables.exec = Jvm.exec) {own C : String} {index : Nat} {y : MethodName} {bytes : ByteArray} {maxL : Nat} {ret : Option FieldType}
    (hown : s.vm.findClass own = some m.cls) (hlink : (Cond.methodLink own index y).before args s = true) (hinst : (Cond.instanceMethod y).before args s = true) (hsel : (Cond.selects C y y).before args s = true)
    (hcode : (Cond.code y bytes maxL ret).before args s = true) (hy : y.cls ≠ "java/lang/invoke/MethodHandle" ∧ y.cls ≠ "java/lang/invoke/VarHandle")
    {W9 : Nat} {Pre : Pt → Array Value → Prop} {Post : Pt → Array Value → Option Value → Pt → Prop} {PostX : Pt → Array Value → Addr → Pt → Prop} (hK : vx_Back l R p e below s args y 3 W9 Pre Post PostX)
    {b : Addr} {cellB : Cell} (hcell : T.heap[b]? = some cellB) (hobj : cellB.vm.isStatics = false) (hcls : s.vm.findClass C = some cellB.cls)
    {g : JFrame} (hg : g.method = m) (hsize : g.locals.size = c.maxLocals) {argsL rest : List Value} (hlen : ∀ sig, parseMethodDescriptor y.desc = some sig → argsL.length = sig.parameters.length)
    (hstack : g.stack = argsL.reverse ++ .ref b :: rest) (hW : 2 * g.monitorRoom + (rest.map fun v => v.category).sum ≤ W9) (hdg : decode c.code g.pc = .ok (.invokevirtual index, 3))
    (hpre : ∀ vm₁, s.WarmedH vm₁ → Pre ⟨T.setVm vm₁, locs, cells, slots⟩ (Value.ref b :: argsL).toArray) :
    (∃ (v : Option Value) (vm₁ : Vm) (B : Pt), s.WarmedH vm₁ ∧ Stand p l e R s m args below meth c B.U B.locs B.cells B.slots ∧ Post ⟨T.setVm vm₁, locs, cells, slots⟩ (Value.ref b :: argsL).toArray v B ∧
      ∀ target, Steps p.tables e below (B.U.setTop { g with pc := g.pc + 3, stack := v.toList ++ rest }) target → Steps p.tables e below (T.setTop g) target) ∨
    (∃ (q : Addr) (vm₁ : Vm) (B : Pt), s.WarmedH vm₁ ∧ Stand p l e R s m args below meth c B.U B.locs B.cells B.slots ∧ PostX ⟨T.setVm vm₁, locs, cells, slots⟩ (Value.ref b :: argsL).toArray q B ∧
      Steps p.tables e below (T.setTop g) ((B.U.setTop { g with stack := rest }).pushFrame (.throwing q))) := by
  obtain ⟨mk, methM, hnamed, hmethM, hstM, habM⟩ := Cond.instanceMethod_spec hinst
  obtain ⟨methM', cM, hmethM', -, -, -, -, -, -, hsigM⟩ := Cond.code_spec hnamed hcode
  cases hmethM.symm.trans hmethM'
  obtain ⟨c2, r2, m2, q1, q2, q3, q4, kP, hkP, hkPi⟩ := Cond.selects_spec hsel
  cases hcls.symm.trans q1
  cases (State.methodFound?_of_named hnamed hy).symm.trans q2
  cases hnamed.symm.trans q3
  have hselP : selectMethod e.platform s.vm cellB.cls mk = .method mk := by rw [Launch.admits_selectMethod X.admits]; exact q4
  obtain ⟨vm₁, X₁, hstep₁⟩ := X.invokevirtual hexec hown hlink hnamed hmethM hstM hkP hkPi hy (a := b) (cell := cellB) hcell
    (fun z h => by rw [h] at hobj; cases hobj) hselP hmethM habM hkP hkPi (g := g) hg (argsL := argsL) (rest := rest) (hlen _ hsigM) hstack hdg
  rcases hK m meth c ⟨T.setVm vm₁, locs, cells, slots⟩ { g with stack := rest } (.invokevirtual index) mk (Value.ref b :: argsL).toArray X₁ hg hsize hdg hW (X₁.named hnamed) (hpre vm₁ X₁.warmed) with ⟨v, B, X', hpost, hsteps⟩ | ⟨q, B, X', hpost, hsteps⟩
  · exact Or.inl ⟨v, vm₁, B, X₁.warmed, X', hpost, fun target h => hstep₁ _ fun acts => by rw [doInvoke_state]; exact hsteps.trans h⟩
  · exact Or.inr ⟨q, vm₁, B, X₁.warmed, X', hpost, hstep₁ _ fun acts => by rw [doInvoke_state]; exact hsteps⟩
theorem vx_callS (X : Stand p l e R s m args below meth c T locs cells slots) (hexec : p.tables.exec = Jvm.exec) {own : String} {index : Nat} {y : MethodName} {bytes : ByteArray} {maxL : Nat} {ret : Option FieldType}
    (hown : s.vm.findClass own = some m.cls) (hlink : (Cond.methodLink own index y).before args s = true) (hstat : (Cond.static y).before args s = true) (hinit : (Cond.initialized y.cls).before args s = true)
    (hcode : (Cond.code y bytes maxL ret).before args s = true) (hy : y.cls ≠ "java/lang/invoke/MethodHandle" ∧ y.cls ≠ "java/lang/invoke/VarHandle")
    {W9 : Nat} {Pre : Pt → Array Value → Prop} {Post : Pt → Array Value → Option Value → Pt → Prop} {PostX : Pt → Array Value → Addr → Pt → Prop} (hK : vx_Back l R p e below s args y 3 W9 Pre Post PostX)
    {g : JFrame} (hg : g.method = m) (hsize : g.locals.size = c.maxLocals) {argsL rest : List Value} (hlen : ∀ sig, parseMethodDescriptor y.desc = some sig → argsL.length = sig.parameters.length)
    (hstack : g.stack = argsL.reverse ++ rest) (hW : 2 * g.monitorRoom + (rest.map fun v => v.category).sum ≤ W9) (hdg : decode c.code g.pc = .ok (.invokestatic index, 3))
    (hpre : ∀ vm₁, s.WarmedH vm₁ → Pre ⟨T.setVm vm₁, locs, cells, slots⟩ argsL.toArray) :
    (∃ (v : Option Value) (vm₁ : Vm) (B : Pt), s.WarmedH vm₁ ∧ Stand p l e R s m args below meth c B.U B.locs B.cells B.slots ∧ Post ⟨T.setVm vm₁, locs, cells, slots⟩ argsL.toArray v B ∧
      ∀ target, Steps p.tables e below (B.U.setTop { g with pc := g.pc + 3, stack := v.toList ++ rest }) target → Steps p.tables e below (T.setTop g) target) ∨
    (∃ (q : Addr) (vm₁ : Vm) (B : Pt), s.WarmedH vm₁ ∧ Stand p l e R s m args below meth c B.U B.locs B.cells B.slots ∧ PostX ⟨T.setVm vm₁, locs, cells, slots⟩ argsL.toArray q B ∧
      Steps p.tables e below (T.setTop g) ((B.U.setTop { g with stack := rest }).pushFrame (.throwing q))) := by
  obtain ⟨mk, hnamed⟩ := Cond.code_named hcode
  obtain ⟨methM, cM, hmethM, -, -, -, -, -, -, hsigM⟩ := Cond.code_spec hnamed hcode
  have hstatic : methM.isStatic = true := Cond.static_spec hnamed hmethM hstat
  obtain ⟨kP, hkP, -⟩ := className_of_methodNamed hnamed
  have hinitP : kP.init = .initialized := Cond.initialized_spec (findClass_of_methodNamed hnamed) hkP hinit
  obtain ⟨vm₁, X₁, hstep₁⟩ := X.invokestatic hexec hown hlink hnamed hmethM hstatic hkP hinitP hy (g := g) hg (argsL := argsL) (rest := rest) (hlen _ hsigM) hstack hdg
  rcases hK m meth c ⟨T.setVm vm₁, locs, cells, slots⟩ { g with stack := rest } (.invokestatic index) mk argsL.toArray X₁ hg hsize hdg hW (X₁.named hnamed) (hpre vm₁ X₁.warmed) with ⟨v, B, X', hpost, hsteps⟩ | ⟨q, B, X', hpost, hsteps⟩
  · exact Or.inl ⟨v, vm₁, B, X₁.warmed, X', hpost, fun target h => hstep₁ _ fun acts => by rw [doInvoke_state]; exact hsteps.trans h⟩
  · exact Or.inr ⟨q, vm₁, B, X₁.warmed, X', hpost, hstep₁ _ fun acts => by rw [doInvoke_state]; exact hsteps⟩
end Calls
theorem vx_cls {s : State} {T : State} {vm₁ : Vm} {E : String} {k : ClassId} (hW : s.WarmedH vm₁) (h : (T.setVm vm₁).vm.findClass E = some k) : s.vm.findClass E = some k := by
  have h1 : vm₁.findClass E = some k := h
  rw [hW.alike.findClass] at h1
  exact h1
/-- the method's frame g, with q thrown over it -/
def vx_W (p : Program) (l : Launch) (e : Env) (R : Room) (s : State) (m : MethodId) (args : Array Value) (below : List Frame) (meth : Method) (c : Code) (H : Heap) (locs : List Loc) (cells slots : Nat) (Q : State → Prop) (g : JFrame) (q : Addr) : Prop :=
  ∀ T : State, T.heap = H → Stand p l e R s m args below meth c T locs cells slots → ∃ t, Steps p.tables e below ((T.setTop g).pushFrame (.throwing q)) t ∧ Q t
def vx_Run (p : Program) (l : Launch) (e : Env) (R : Room) (s : State) (m : MethodId) (args : Array Value) (below : List Frame) (meth : Method) (c : Code) (H : Heap) (locs : List Loc) (cells slots mc ms : Nat) (g : JFrame) (rest : List Value) (Qa : State → Outcome → State → Prop) (XC : String → State → State → Prop) (free : Addr → Prop) : Prop :=
  ∀ T : State, T.heap = H → Stand p l e R s m args below meth c T locs cells slots →
    (∃ (v : Option Value) (st₀ t T' : State) (L : List Loc), st₀.heap = H ∧ Stand p l e R s m args below meth c T' (locs ++ L) (cells + mc) (slots + ms) ∧ (∀ q ∈ L, free q.base) ∧ T'.heap = t.heap ∧ T'.vm = t.vm ∧ Qa st₀ (.returned v) t ∧
      Goes p e below T g T' { g with pc := g.pc + 3, stack := v.toList ++ rest }) ∨
    (∃ (q : Addr) (st₀ t T' : State) (L : List Loc) (E : String) (ce : Cell), st₀.heap = H ∧ Stand p l e R s m args below meth c T' (locs ++ L) (cells + mc) (slots + ms) ∧ (∀ z ∈ L, free z.base) ∧ T'.heap = t.heap ∧ T'.vm = t.vm ∧ XC E st₀ t ∧ t.heap[q]? = some ce ∧ ce.vm = .none ∧ s.vm.findClass E = some ce.cls ∧
      Steps p.tables e below (T.setTop g) ((T'.setTop { g with stack := rest }).pushFrame (.throwing q)))
def vx_X {S : Type} (px : S → Prop) (B : String → S → State → Prop) (A : Nat → Prop) : String → State → State → Prop := fun E st t => ∃ u : S, px u ∧ B E u t ∧ va_F A st t
section Runs
variable {p : Program} {l : Launch} {e : Env} {R : Room} {s : State} {m : MethodId} {args : Array Value} {below : List Frame} {meth : Method} {c : Code} {H : Heap} {locs : List Loc} {cells slots : Nat}
variable {y : MethodName} {bytes cc : ByteArray} {maxL nL mc ms n index : Nat} {ret : Option FieldType} {ws : List Cond} {rm : Room} {Pc : Array Value → State → Prop} {Qc : Array Value → State → Outcome → State → Prop} {XC : String → State → State → Prop} {free : Addr → Prop} {Ts : List Cond} {own C : String} {b : Addr} {As rest : List Value} {g : JFrame}
theorem vx_callBack (cb : CallB R s args own index y bytes maxL ret ws rm mc ms n) (hM : vx_Met l y ws rm Pc Qc XC mc ms free) (hbl : FrameBlind Pc) : vx_Back l R p e below s args y 3 8 (PreOf R mc ms Pc) (PostOf Qc mc ms free) (vx_Post XC mc ms free) := by
  obtain ⟨hrc, hrs, hfr, hlo, hws, hcw, -, hini, -⟩ := cb
  exact vx_back (bytes := bytes) (maxL := maxL) (ret := ret) hM hbl hrc hrs hfr hlo hws hcw (fun a' U hW => word_at hW (Or.inl (by first | rfl | simp [Cond.onTables, Cond.keeps, Cond.steady])) hini)
theorem vx_runV (S : CallFix p m c cc nL s args Ts own) (hM : vx_Met l y ws rm Pc Qc XC mc ms free) (cw : CallW R s args own C index y bytes maxL ret ws rm mc ms n) (hp : PreV s H C b Pc As)
    (hg : g.method = m) (hn : As.length = n) (hsize : g.locals.size = nL) (hstack : g.stack = As.reverse ++ .ref b :: rest) (hW : 2 * g.monitorRoom + (rest.map fun v => v.category).sum ≤ 8) (hdg : decode cc g.pc = .ok (.invokevirtual index, 3)) (hf : cells + mc ≤ R.cells ∧ slots + ms ≤ R.slots) :
    vx_Run p l e R s m args below meth c H locs cells slots mc ms g rest (Qc (Value.ref b :: As).toArray) XC free := by
  have hK : vx_Back l R p e below s args y 3 8 (PreOf R mc ms Pc) (PostOf Qc mc ms free) (vx_Post XC mc ms free) := vx_callBack cw.1 hM hp.1
  obtain ⟨⟨-, -, -, -, -, -, hcode, -, hy, hlen, hl⟩, hin, hse⟩ := cw
  obtain ⟨hx, hb, hml, ho, -⟩ := S
  obtain ⟨-, ⟨cellB, hcB, hoB, hclB⟩, hPc⟩ := hp
  intro T hT X
  rcases vx_callV X hx (C := C) (bytes := bytes) (maxL := maxL) (ret := ret) ho hl hin hse hcode hy hK (by rw [hT]; exact hcB) hoB hclB hg (hsize.trans hml.symm) (argsL := As) (rest := rest) (fun sig h => hn.trans (hlen sig h)) hstack hW (by rw [hb]; exact hdg)
    (fun vm₁ hW₁ => ⟨hf.1, hf.2, hPc (T.setVm vm₁) hT hW₁⟩) with ⟨v, vm₁, ⟨U', l2, c2, s2⟩, hW₁, X', ⟨g', mk, t, L, e1, e2, hq, h1, hL, h2, h3⟩, st⟩ | ⟨q, vm₁, ⟨U', l2, c2, s2⟩, hW₁, X', ⟨g', mk, t, L, E, ce, e1, e2, hq, hce, hcv, hcl, h1, hL, h2, h3⟩, st⟩
  · dsimp only [Pt.U, Pt.locs, Pt.cells, Pt.slots] at X' e1 e2 h1 h2 h3 st
    subst h1; subst h2; subst h3
    exact Or.inl ⟨v, (T.setVm vm₁).calling g' mk (Value.ref b :: As).toArray, t, U', L, hT, X', hL, e1, e2, hq, st⟩
  · dsimp only [Pt.U, Pt.locs, Pt.cells, Pt.slots] at X' e1 e2 h1 h2 h3 st hcl
    subst h1; subst h2; subst h3
    exact Or.inr ⟨q, (T.setVm vm₁).calling g' mk (Value.ref b :: As).toArray, t, U', L, E, ce, hT, X', hL, e1, e2, hq, hce, hcv, vx_cls hW₁ hcl, st⟩
theorem vx_runS (S : CallFix p m c cc nL s args Ts own) (hM : vx_Met l y ws rm Pc Qc XC mc ms free) (cw : CallB R s args own index y bytes maxL ret ws rm mc ms n ∧ (Cond.static y).before args s = true) (hp : PreS s H Pc As)
    (hg : g.method = m) (hn : As.length = n) (hsize : g.locals.size = nL) (hstack : g.stack = As.reverse ++ rest) (hW : 2 * g.monitorRoom + (rest.map fun v => v.category).sum ≤ 8) (hdg : decode cc g.pc = .ok (.invokestatic index, 3)) (hf : cells + mc ≤ R.cells ∧ slots + ms ≤ R.slots) :
    vx_Run p l e R s m args below meth c H locs cells slots mc ms g rest (Qc As.toArray) XC free := by
  have hK : vx_Back l R p e below s args y 3 8 (PreOf R mc ms Pc) (PostOf Qc mc ms free) (vx_Post XC mc ms free) := vx_callBack cw.1 hM hp.1
  obtain ⟨⟨-, -, -, -, -, -, hcode, hini, hy, hlen, hl⟩, hstt⟩ := cw
  obtain ⟨hx, hb, hml, ho, -⟩ := S
  intro T hT X
  rcases vx_callS X hx (bytes := bytes) (maxL := maxL) (ret := ret) ho hl hstt hini hcode hy hK hg (hsize.trans hml.symm) (argsL := As) (rest := rest) (fun sig h => hn.trans (hlen sig h)) hstack hW (by rw [hb]; exact hdg)
    (fun vm₁ hW₁ => ⟨hf.1, hf.2, hp.2 (T.setVm vm₁) hT hW₁⟩) with ⟨v, vm₁, ⟨U', l2, c2, s2⟩, hW₁, X', ⟨g', mk, t, L, e1, e2, hq, h1, hL, h2, h3⟩, st⟩ | ⟨q, vm₁, ⟨U', l2, c2, s2⟩, hW₁, X', ⟨g', mk, t, L, E, ce, e1, e2, hq, hce, hcv, hcl, h1, hL, h2, h3⟩, st⟩
  · dsimp only [Pt.U, Pt.locs, Pt.cells, Pt.slots] at X' e1 e2 h1 h2 h3 st
    subst h1; subst h2; subst h3
    exact Or.inl ⟨v, (T.setVm vm₁).calling g' mk As.toArray, t, U', L, hT, X', hL, e1, e2, hq, st⟩
  · dsimp only [Pt.U, Pt.locs, Pt.cells, Pt.slots] at X' e1 e2 h1 h2 h3 st hcl
    subst h1; subst h2; subst h3
    exact Or.inr ⟨q, (T.setVm vm₁).calling g' mk As.toArray, t, U', L, E, ce, hT, X', hL, e1, e2, hq, hce, hcv, vx_cls hW₁ hcl, st⟩
end Runs
section Rows
variable {p : Program} {l : Launch} {e : Env} {R : Room} {s : State} {m : MethodId} {args : Array Value} {below : List Frame} {meth : Method} {c : Code} {H : Heap} {locs : List Loc} {cells slots : Nat} {Q : State → Prop}
variable {mc ms : Nat} {free : Addr → Prop} {A0 A1 : Nat → Prop} {H0 : Heap} {a : Array Value} {pc : Nat} {ls : Array Slot} {st0 rest : List Value}
theorem vx_keep {st₀ t T' : State} {L : List Loc} (h0 : st₀.heap = H) (e1 : T'.heap = t.heap) (hS : va_S A0 H0 H locs) (hA : ∀ q, q < H.size → A1 q → A0 q) (hf : ∀ q, free q → A0 q) (hL : ∀ q ∈ L, free q.base) (hF : va_F A1 st₀ t) :
    H.size ≤ T'.heap.size ∧ (∀ q : Nat, q < H.size → ¬ A1 q → T'.heap[q]? = H[q]?) ∧ va_S A0 H0 T'.heap (locs ++ L) := by
  obtain ⟨hz, hk⟩ := hF
  rw [h0] at hz hk
  exact ⟨by rw [e1]; exact hz, fun q h1 h2 => by rw [e1]; exact hk q h1 h2,
    ⟨Nat.le_trans hS.1 (by rw [e1]; exact hz), fun q h1 h2 => by rw [e1, hk q (Nat.lt_of_lt_of_le h1 hS.1) (fun z => h2 (hA q (Nat.lt_of_lt_of_le h1 hS.1) z))]; exact hS.2.1 q h1 h2, fun q hq => by
      rcases List.mem_append.mp hq with h | h
      · exact hS.2.2 q h
      · exact hf _ (hL q h)⟩⟩
theorem vx_calli {S SX : Type} {post : Int32 → S → Prop} {px : SX → Prop} {B : S → State → Prop} {BX : String → SX → State → Prop} {AX : Nat → Prop} (hr : vx_Run p l e R s m args below meth c H locs cells slots mc ms (F0 m pc ls st0) rest (va_Qi post B A1 a) (vx_X px BX AX) free) (hS : va_S A0 H0 H locs) (hA : ∀ q, q < H.size → A1 q → A0 q) (hf : ∀ q, free q → A0 q) (hAX : ∀ q, q < H.size → AX q → A0 q)
    (kx : ∀ (E : String) (ce : Cell) (q9 : Addr) (u : SX) (t : State) (H1 : Heap) (locs1 : List Loc), t.heap = H1 → s.vm.Alike t.vm → px u → BX E u t → H.size ≤ H1.size → (∀ q : Nat, q < H.size → ¬ AX q → H1[q]? = H[q]?) → va_S A0 H0 H1 locs1 → H1[q9]? = some ce → ce.vm = .none → s.vm.findClass E = some ce.cls → vx_W p l e R s m args below meth c H1 locs1 (cells + mc) (slots + ms) Q (F0 m pc ls rest) q9)
    (kk : ∀ (r : Int32) (u : S) (t : State) (H1 : Heap) (locs1 : List Loc), t.heap = H1 → s.vm.Alike t.vm → post r u → B u t → H.size ≤ H1.size → (∀ q : Nat, q < H.size → ¬ A1 q → H1[q]? = H[q]?) → va_S A0 H0 H1 locs1 → W p l e R s m args below meth c H1 locs1 (cells + mc) (slots + ms) Q (F0 m (pc + 3) ls (.int r :: rest))) : W p l e R s m args below meth c H locs cells slots Q (F0 m pc ls st0) := by
  intro T hT X
  rcases hr T hT X with ⟨v, st₀, t, T', L, h0, X', hL, e1, e2, ⟨⟨r, u, hv, hp, hb⟩, hF⟩, st⟩ | ⟨q, st₀, t, T', L, E, ce, h0, X', hL, e1, e2, ⟨u, hp, hb, hF⟩, hce, hcv, hcl, st⟩
  · cases hv
    obtain ⟨k1, k2, k3⟩ := vx_keep h0 e1 hS hA hf hL hF
    obtain ⟨t2, a1, b1⟩ := kk r u t T'.heap (locs ++ L) e1.symm (by rw [← e2]; exact X'.warmed.alike) hp hb k1 k2 k3 T' rfl X'
    exact ⟨t2, st t2 a1, b1⟩
  · obtain ⟨k1, k2, k3⟩ := vx_keep h0 e1 hS hAX hf hL hF
    obtain ⟨t2, a1, b1⟩ := kx E ce q u t T'.heap (locs ++ L) e1.symm (by rw [← e2]; exact X'.warmed.alike) hp hb k1 k2 k3 (by rw [e1]; exact hce) hcv hcl T' rfl X'
    exact ⟨t2, st.trans a1, b1⟩
theorem vx_calll {S SX : Type} {post : Int64 → S → Prop} {px : SX → Prop} {B : S → State → Prop} {BX : String → SX → State → Prop} {AX : Nat → Prop} (hr : vx_Run p l e R s m args below meth c H locs cells slots mc ms (F0 m pc ls st0) rest (va_Ql post B A1 a) (vx_X px BX AX) free) (hS : va_S A0 H0 H locs) (hA : ∀ q, q < H.size → A1 q → A0 q) (hf : ∀ q, free q → A0 q) (hAX : ∀ q, q < H.size → AX q → A0 q)
    (kx : ∀ (E : String) (ce : Cell) (q9 : Addr) (u : SX) (t : State) (H1 : Heap) (locs1 : List Loc), t.heap = H1 → s.vm.Alike t.vm → px u → BX E u t → H.size ≤ H1.size → (∀ q : Nat, q < H.size → ¬ AX q → H1[q]? = H[q]?) → va_S A0 H0 H1 locs1 → H1[q9]? = some ce → ce.vm = .none → s.vm.findClass E = some ce.cls → vx_W p l e R s m args below meth c H1 locs1 (cells + mc) (slots + ms) Q (F0 m pc ls rest) q9)
    (kk : ∀ (r : Int64) (u : S) (t : State) (H1 : Heap) (locs1 : List Loc), t.heap = H1 → s.vm.Alike t.vm → post r u → B u t → H.size ≤ H1.size → (∀ q : Nat, q < H.size → ¬ A1 q → H1[q]? = H[q]?) → va_S A0 H0 H1 locs1 → W p l e R s m args below meth c H1 locs1 (cells + mc) (slots + ms) Q (F0 m (pc + 3) ls (.long r :: rest))) : W p l e R s m args below meth c H locs cells slots Q (F0 m pc ls st0) := by
  intro T hT X
  rcases hr T hT X with ⟨v, st₀, t, T', L, h0, X', hL, e1, e2, ⟨⟨r, u, hv, hp, hb⟩, hF⟩, st⟩ | ⟨q, st₀, t, T', L, E, ce, h0, X', hL, e1, e2, ⟨u, hp, hb, hF⟩, hce, hcv, hcl, st⟩
  · cases hv
    obtain ⟨k1, k2, k3⟩ := vx_keep h0 e1 hS hA hf hL hF
    obtain ⟨t2, a1, b1⟩ := kk r u t T'.heap (locs ++ L) e1.symm (by rw [← e2]; exact X'.warmed.alike) hp hb k1 k2 k3 T' rfl X'
    exact ⟨t2, st t2 a1, b1⟩
  · obtain ⟨k1, k2, k3⟩ := vx_keep h0 e1 hS hAX hf hL hF
    obtain ⟨t2, a1, b1⟩ := kx E ce q u t T'.heap (locs ++ L) e1.symm (by rw [← e2]; exact X'.warmed.alike) hp hb k1 k2 k3 (by rw [e1]; exact hce) hcv hcl T' rfl X'
    exact ⟨t2, st.trans a1, b1⟩
theorem vx_callf {S SX : Type} {post : UInt32 → S → Prop} {px : SX → Prop} {B : S → State → Prop} {BX : String → SX → State → Prop} {AX : Nat → Prop} (hr : vx_Run p l e R s m args below meth c H locs cells slots mc ms (F0 m pc ls st0) rest (va_Qf post B A1 a) (vx_X px BX AX) free) (hS : va_S A0 H0 H locs) (hA : ∀ q, q < H.size → A1 q → A0 q) (hf : ∀ q, free q → A0 q) (hAX : ∀ q, q < H.size → AX q → A0 q)
    (kx : ∀ (E : String) (ce : Cell) (q9 : Addr) (u : SX) (t : State) (H1 : Heap) (locs1 : List Loc), t.heap = H1 → s.vm.Alike t.vm → px u → BX E u t → H.size ≤ H1.size → (∀ q : Nat, q < H.size → ¬ AX q → H1[q]? = H[q]?) → va_S A0 H0 H1 locs1 → H1[q9]? = some ce → ce.vm = .none → s.vm.findClass E = some ce.cls → vx_W p l e R s m args below meth c H1 locs1 (cells + mc) (slots + ms) Q (F0 m pc ls rest) q9)
    (kk : ∀ (r : UInt32) (u : S) (t : State) (H1 : Heap) (locs1 : List Loc), t.heap = H1 → s.vm.Alike t.vm → post r u → B u t → H.size ≤ H1.size → (∀ q : Nat, q < H.size → ¬ A1 q → H1[q]? = H[q]?) → va_S A0 H0 H1 locs1 → W p l e R s m args below meth c H1 locs1 (cells + mc) (slots + ms) Q (F0 m (pc + 3) ls (.float r :: rest))) : W p l e R s m args below meth c H locs cells slots Q (F0 m pc ls st0) := by
  intro T hT X
  rcases hr T hT X with ⟨v, st₀, t, T', L, h0, X', hL, e1, e2, ⟨⟨r, u, hv, hp, hb⟩, hF⟩, st⟩ | ⟨q, st₀, t, T', L, E, ce, h0, X', hL, e1, e2, ⟨u, hp, hb, hF⟩, hce, hcv, hcl, st⟩
  · cases hv
    obtain ⟨k1, k2, k3⟩ := vx_keep h0 e1 hS hA hf hL hF
    obtain ⟨t2, a1, b1⟩ := kk r u t T'.heap (locs ++ L) e1.symm (by rw [← e2]; exact X'.warmed.alike) hp hb k1 k2 k3 T' rfl X'
    exact ⟨t2, st t2 a1, b1⟩
  · obtain ⟨k1, k2, k3⟩ := vx_keep h0 e1 hS hAX hf hL hF
    obtain ⟨t2, a1, b1⟩ := kx E ce q u t T'.heap (locs ++ L) e1.symm (by rw [← e2]; exact X'.warmed.alike) hp hb k1 k2 k3 (by rw [e1]; exact hce) hcv hcl T' rfl X'
    exact ⟨t2, st.trans a1, b1⟩
theorem vx_calld {S SX : Type} {post : UInt64 → S → Prop} {px : SX → Prop} {B : S → State → Prop} {BX : String → SX → State → Prop} {AX : Nat → Prop} (hr : vx_Run p l e R s m args below meth c H locs cells slots mc ms (F0 m pc ls st0) rest (va_Qd post B A1 a) (vx_X px BX AX) free) (hS : va_S A0 H0 H locs) (hA : ∀ q, q < H.size → A1 q → A0 q) (hf : ∀ q, free q → A0 q) (hAX : ∀ q, q < H.size → AX q → A0 q)
    (kx : ∀ (E : String) (ce : Cell) (q9 : Addr) (u : SX) (t : State) (H1 : Heap) (locs1 : List Loc), t.heap = H1 → s.vm.Alike t.vm → px u → BX E u t → H.size ≤ H1.size → (∀ q : Nat, q < H.size → ¬ AX q → H1[q]? = H[q]?) → va_S A0 H0 H1 locs1 → H1[q9]? = some ce → ce.vm = .none → s.vm.findClass E = some ce.cls → vx_W p l e R s m args below meth c H1 locs1 (cells + mc) (slots + ms) Q (F0 m pc ls rest) q9)
    (kk : ∀ (r : UInt64) (u : S) (t : State) (H1 : Heap) (locs1 : List Loc), t.heap = H1 → s.vm.Alike t.vm → post r u → B u t → H.size ≤ H1.size → (∀ q : Nat, q < H.size → ¬ A1 q → H1[q]? = H[q]?) → va_S A0 H0 H1 locs1 → W p l e R s m args below meth c H1 locs1 (cells + mc) (slots + ms) Q (F0 m (pc + 3) ls (.double r :: rest))) : W p l e R s m args below meth c H locs cells slots Q (F0 m pc ls st0) := by
  intro T hT X
  rcases hr T hT X with ⟨v, st₀, t, T', L, h0, X', hL, e1, e2, ⟨⟨r, u, hv, hp, hb⟩, hF⟩, st⟩ | ⟨q, st₀, t, T', L, E, ce, h0, X', hL, e1, e2, ⟨u, hp, hb, hF⟩, hce, hcv, hcl, st⟩
  · cases hv
    obtain ⟨k1, k2, k3⟩ := vx_keep h0 e1 hS hA hf hL hF
    obtain ⟨t2, a1, b1⟩ := kk r u t T'.heap (locs ++ L) e1.symm (by rw [← e2]; exact X'.warmed.alike) hp hb k1 k2 k3 T' rfl X'
    exact ⟨t2, st t2 a1, b1⟩
  · obtain ⟨k1, k2, k3⟩ := vx_keep h0 e1 hS hAX hf hL hF
    obtain ⟨t2, a1, b1⟩ := kx E ce q u t T'.heap (locs ++ L) e1.symm (by rw [← e2]; exact X'.warmed.alike) hp hb k1 k2 k3 (by rw [e1]; exact hce) hcv hcl T' rfl X'
    exact ⟨t2, st.trans a1, b1⟩
theorem vx_callv {S SX : Type} {post : S → Prop} {px : SX → Prop} {B : S → State → Prop} {BX : String → SX → State → Prop} {AX : Nat → Prop} (hr : vx_Run p l e R s m args below meth c H locs cells slots mc ms (F0 m pc ls st0) rest (va_Qv post B A1 a) (vx_X px BX AX) free) (hS : va_S A0 H0 H locs) (hA : ∀ q, q < H.size → A1 q → A0 q) (hf : ∀ q, free q → A0 q) (hAX : ∀ q, q < H.size → AX q → A0 q)
    (kx : ∀ (E : String) (ce : Cell) (q9 : Addr) (u : SX) (t : State) (H1 : Heap) (locs1 : List Loc), t.heap = H1 → s.vm.Alike t.vm → px u → BX E u t → H.size ≤ H1.size → (∀ q : Nat, q < H.size → ¬ AX q → H1[q]? = H[q]?) → va_S A0 H0 H1 locs1 → H1[q9]? = some ce → ce.vm = .none → s.vm.findClass E = some ce.cls → vx_W p l e R s m args below meth c H1 locs1 (cells + mc) (slots + ms) Q (F0 m pc ls rest) q9)
    (kk : ∀ (u : S) (t : State) (H1 : Heap) (locs1 : List Loc), t.heap = H1 → s.vm.Alike t.vm → post u → B u t → H.size ≤ H1.size → (∀ q : Nat, q < H.size → ¬ A1 q → H1[q]? = H[q]?) → va_S A0 H0 H1 locs1 → W p l e R s m args below meth c H1 locs1 (cells + mc) (slots + ms) Q (F0 m (pc + 3) ls (rest))) : W p l e R s m args below meth c H locs cells slots Q (F0 m pc ls st0) := by
  intro T hT X
  rcases hr T hT X with ⟨v, st₀, t, T', L, h0, X', hL, e1, e2, ⟨⟨u, hv, hp, hb⟩, hF⟩, st⟩ | ⟨q, st₀, t, T', L, E, ce, h0, X', hL, e1, e2, ⟨u, hp, hb, hF⟩, hce, hcv, hcl, st⟩
  · cases hv
    obtain ⟨k1, k2, k3⟩ := vx_keep h0 e1 hS hA hf hL hF
    obtain ⟨t2, a1, b1⟩ := kk u t T'.heap (locs ++ L) e1.symm (by rw [← e2]; exact X'.warmed.alike) hp hb k1 k2 k3 T' rfl X'
    exact ⟨t2, st t2 a1, b1⟩
  · obtain ⟨k1, k2, k3⟩ := vx_keep h0 e1 hS hAX hf hL hF
    obtain ⟨t2, a1, b1⟩ := kx E ce q u t T'.heap (locs ++ L) e1.symm (by rw [← e2]; exact X'.warmed.alike) hp hb k1 k2 k3 (by rw [e1]; exact hce) hcv hcl T' rfl X'
    exact ⟨t2, st.trans a1, b1⟩
/-- caught by the row x of this method's table; the rows ahead don't take it -/
theorem vx_catch {own name : String} {E : String} {ce : Cell} {q : Addr} (hown : s.vm.findClass own = some m.cls) (pre : List ExceptionTableEntry) (x : ExceptionTableEntry) (suf : List ExceptionTableEntry) (hsplit : c.exceptionTable.toList = pre ++ x :: suf)
    (hpass : ∀ z ∈ pre, covers z pc = false ∨ (z.catchType ≠ 0 ∧ ∃ nm : String, (Cond.classLink own z.catchType nm).before args s = true ∧ va_Nc E nm s)) (hx : covers x pc = true) (h0 : x.catchType ≠ 0)
    (hlink : (Cond.classLink own x.catchType name).before args s = true) (hcast : (Cond.castable E name).before args s = true) (hcell : H[q]? = some ce) (hv : ce.vm = .none) (hcl : s.vm.findClass E = some ce.cls)
    (kk : W p l e R s m args below meth c H locs cells slots Q (F0 m x.handlerPc ls [.ref q])) : vx_W p l e R s m args below meth c H locs cells slots Q (F0 m pc ls rest) q := by
  intro T hT X
  have hpl : e.platform.magicAccessors = ({} : Platform).magicAccessors := by rw [X.admits.platform]
  obtain ⟨c3, c4, hc3, hc4, hasg⟩ := Cond.castable_spec hcast
  cases Option.some.inj (hc3.symm.trans hcl)
  obtain ⟨c5, hc5, hcl5⟩ := Cond.classLink_spec hown hlink e.platform hpl
  cases Option.some.inj (hc4.symm.trans hc5)
  obtain ⟨vm', X', st⟩ := Stand.thenCaughtThrough X q (g := F0 m pc ls rest) rfl (Steps.refl _) (by rw [hT]; exact hcell) (by rw [hv]; rfl) (by obtain ⟨k9, h9, -⟩ := Vm.findClass_spec hcl; exact ⟨k9, h9⟩) pre x suf hsplit
    (fun z hz => by
      rcases hpass z hz with h | ⟨hz0, nm, hl1, hn1⟩
      · exact Or.inl h
      · obtain ⟨c6, hc6, hcl6⟩ := Cond.classLink_spec hown hl1 e.platform hpl
        obtain ⟨a8, b8, h1, h2, h3⟩ := hn1
        cases Option.some.inj (h1.symm.trans hcl)
        cases Option.some.inj (h2.symm.trans hc6)
        exact Or.inr ⟨hz0, _, hcl6, h3⟩) hx (Or.inr ⟨h0, c4, hcl5, hasg⟩)
  obtain ⟨t, a1, b1⟩ := kk (T.setVm vm') hT X'
  exact ⟨t, st.trans a1, b1⟩
end Rows
section Ends
variable {p : Program} {l : Launch} {e : Env} {R : Room} {s : State} {m : MethodId} {args : Array Value} {below : List Frame} {meth : Method} {c : Code} {H : Heap} {locs : List Loc} {cells slots : Nat} {Q : State → Prop}
variable {mc ms : Nat} {free : Addr → Prop} {A0 A1 : Nat → Prop} {H0 : Heap} {a : Array Value} {ls : Array Slot} {st0 rest : List Value}
variable {Qc : Array Value → State → Outcome → State → Prop} {XC : String → State → State → Prop}
/-- what a body that may throw owes at its end -/
def vx_MQ (below : List Frame) (Qc : Array Value → State → Outcome → State → Prop) (XC : String → State → State → Prop) (a : Array Value) (s : State) (mc ms : Nat) (free : Addr → Prop) : State → Prop := fun t =>
  ∃ o, t.status = .running ∧ Ended t below o ∧ vx_Q Qc XC mc ms free a s o t
theorem vx_ret {g : JFrame} {mc ms : Nat} (k : W p l e R s m args below meth c H locs cells slots (MQ below Qc args s mc ms free) g) : W p l e R s m args below meth c H locs cells slots (vx_MQ below Qc XC args s mc ms free) g := by
  intro T hT X
  obtain ⟨t, a1, o, b1, b2, b3, b4⟩ := k T hT X
  exact ⟨t, a1, o, b1, b2, Or.inl ⟨b3, b4⟩⟩
/-- not caught here: it goes on to the caller -/
theorem vx_widen {g : JFrame} {q : Addr} {k n : Nat} (h1 : cells ≤ k) (h2 : slots ≤ n) (kk : vx_W p l e R s m args below meth c H locs k n Q g q) : vx_W p l e R s m args below meth c H locs cells slots Q g q := fun T hT X => kk T hT (stand_widen X h1 h2)
theorem vx_out {pc : Nat} {E : String} {ce : Cell} {q : Addr} {mc ms : Nat} (hout : ∀ x ∈ c.exceptionTable.toList, covers x pc = false) (hlocks : meth.locks = false) (hcell : H[q]? = some ce) (hv : ce.vm = .none) (hcl : s.vm.findClass E = some ce.cls)
    (hx : ∀ t : State, t.heap = H → s.vm.Alike t.vm → XC E s t) (hf : ∀ z ∈ locs, free z.base) (hc : cells ≤ mc) (hs : slots ≤ ms) :
    vx_W p l e R s m args below meth c H locs cells slots (vx_MQ below Qc XC args s mc ms free) (F0 m pc ls rest) q := by
  intro T hT X
  obtain ⟨st1, hrun, hend, hW, hsm⟩ := X.leaveThrown q (g := F0 m pc ls rest) rfl rfl rfl hout hlocks
  have hcell9 : (T.setFrames (.throwing q :: below)).heap[q]? = some ce := by
    show T.heap[q]? = some ce
    rw [hT]; exact hcell
  exact ⟨_, st1, .threw q, hrun, hend, Or.inr ⟨q, rfl, E, ce, locs, hx _ hT hW.alike, hcell9, hv, hcl, hW, hsm.mono hc hs, hf⟩⟩
theorem vx_frame {U : State} {k n : Nat} (h : s.sameButNew ({ U with vm := s.vm } : State) locs k n) : s.heap.size ≤ U.heap.size ∧ ∀ q : Nat, q < s.heap.size → (∀ z ∈ locs, z.base ≠ q) → U.heap[q]? = s.heap[q]? := by
  obtain ⟨-, h2, -, -, -, h6⟩ := h
  refine ⟨h2, fun q hq hz => ?_⟩
  obtain ⟨c9, e1, e2, e3, e4⟩ := h6 q _ (Array.getElem?_eq_getElem hq)
  have hs : c9.slots = (s.heap[q]).slots := Array.ext_getElem? fun i => e4 i fun hm => hz _ hm rfl
  have h9 : c9 = s.heap[q] := by
    rw [hs] at e2
    exact e2
  have e5 : U.heap[q]? = some c9 := e1
  rw [e5, h9, Array.getElem?_eq_getElem hq]
/-- the words of a throw but the four that speak of the heap -/
def vx_no (w : Cond) : Bool := decide (w ≠ .isRef (.static Bundle.tN "UNASSIGNED_STACK" Bundle.steD)) && decide (w ≠ .isRef (.static Bundle.tN "SUPPRESSED_SENTINEL" Bundle.listD)) && decide (w ≠ .laysStatic Bundle.tN "UNASSIGNED_STACK" Bundle.steD) && decide (w ≠ .laysStatic Bundle.tN "SUPPRESSED_SENTINEL" Bundle.listD)
def vx_at0 (own : String) (ic : Nat) (X : String) (names : List String) : List Cond := (Bundle.ownAtoms0 own ic X names).filter vx_no
def vx_atS (own : String) (ic : Nat) (X : String) (names : List String) : List Cond := (Bundle.ownAtoms own ic X names).filter vx_no
/-- a word that the tables alone decide, or a good one -/
def vx_ot (w : Cond) : Bool := w.onTables || goodWord w
theorem vx_ot_at {args a' : Array Value} {s U : State} {w : Cond} (hW : s.WarmedH U.vm) (hvm : s.vm = U.vm) (hg : vx_ot w = true) (h : w.before args s = true) : w.before a' U = true := by
  simp only [vx_ot, Bool.or_eq_true] at hg
  rcases hg with hg | hg
  · exact va_tabs hg hvm h
  · exact word_at hW (good_of_word hg) h
/-- a list's words: the good ones out of the method's own list, the others by premises of their own -/
theorem vx_hat {args : Array Value} {s : State} {L B : List Cond} (h1 : ∀ w ∈ L.filter goodWord, w.before args s = true) (h2 : ∀ w ∈ L.filter (fun w => !goodWord w), w ∈ B) (h3 : ∀ w ∈ B, w.before args s = true) : ∀ w ∈ L, w.before args s = true := by
  intro w hw
  by_cases g : goodWord w = true
  · exact h1 w (List.mem_filter.mpr ⟨hw, g⟩)
  · refine h3 w (h2 w (List.mem_filter.mpr ⟨hw, ?_⟩))
    show (!goodWord w) = true
    cases hgw : goodWord w
    · rfl
    · exact absurd hgw g
theorem vx_c {args : Array Value} {s : State} {w : Cond} {B : List Cond} (h : w.before args s = true) (t : ∀ w ∈ B, w.before args s = true) : ∀ w' ∈ w :: B, w'.before args s = true := fun w' h' => (List.mem_cons.mp h').elim (fun e => by rw [e]; exact h) (t w')
theorem vx_n {args : Array Value} {s : State} : ∀ w ∈ ([] : List Cond), w.before args s = true := fun _ h => nomatch h
theorem vx_own {args : Array Value} {s : State} {L : List Cond} (h1 : ∀ w ∈ L.filter vx_no, w.before args s = true)
    (hU : (Cond.isRef (.static Bundle.tN "UNASSIGNED_STACK" Bundle.steD)).before args s = true) (hN : (Cond.isRef (.static Bundle.tN "SUPPRESSED_SENTINEL" Bundle.listD)).before args s = true)
    (lU : (Cond.laysStatic Bundle.tN "UNASSIGNED_STACK" Bundle.steD).before args s = true) (lN : (Cond.laysStatic Bundle.tN "SUPPRESSED_SENTINEL" Bundle.listD).before args s = true) : ∀ w ∈ L, w.before args s = true := by
  intro w hw
  by_cases e1 : w = .isRef (.static Bundle.tN "UNASSIGNED_STACK" Bundle.steD)
  · rw [e1]; exact hU
  · by_cases e2 : w = .isRef (.static Bundle.tN "SUPPRESSED_SENTINEL" Bundle.listD)
    · rw [e2]; exact hN
    · by_cases e3 : w = .laysStatic Bundle.tN "UNASSIGNED_STACK" Bundle.steD
      · rw [e3]; exact lU
      · by_cases e4 : w = .laysStatic Bundle.tN "SUPPRESSED_SENTINEL" Bundle.listD
        · rw [e4]; exact lN
        · exact h1 w (List.mem_filter.mpr ⟨hw, by unfold vx_no; rw [decide_eq_true e1, decide_eq_true e2, decide_eq_true e3, decide_eq_true e4]; rfl⟩)
/-- where a static field lies, its class's statics cell in H -/
def vx_L (C n d : String) (A : Nat → Prop) (U : State) (H : Heap) : Prop := ∃ (c : ClassId) (k : Class) (i : Nat) (f : Field) (a : Nat) (cell : Cell), U.vm.findClass C = some c ∧ U.fieldFound? C n d = some (c, k, i, f) ∧ f.isStatic = true ∧ k.statics = some a ∧ H[a]? = some cell ∧ cell.vm.isStatics = true ∧ cell.cls = c ∧ f.slot < cell.slots.size ∧ k.staticTypes[f.slot]? = some f.type ∧ ¬ A a
theorem vx_L.moved {C n d : String} {A : Nat → Prop} {u U : State} {H : Heap} (hvm : u.vm.Alike U.vm) (h : vx_L C n d A u H) : vx_L C n d A U H := by
  obtain ⟨c, k, i, f, a, cell, h1, h2, h3, h4, h5, h6, h7, h8, h9, h10⟩ := h
  obtain ⟨k', hi', he⟩ := State.fieldFound?_setVm hvm h2
  exact ⟨c, k', i, f, a, cell, by rw [hvm.findClass]; exact h1, hi', h3, by rw [he]; exact h4, h5, h6, h7, h8, by rw [he]; exact h9, h10⟩
theorem vx_L.kept {C n d : String} {A : Nat → Prop} {U : State} {H H1 : Heap} (h : vx_L C n d A U H) (hq : ∀ a : Nat, a < H.size → ¬ A a → H1[a]? = H[a]?) : vx_L C n d A U H1 := by
  obtain ⟨c, k, i, f, a, cell, h1, h2, h3, h4, h5, h6, h7, h8, h9, h10⟩ := h
  exact ⟨c, k, i, f, a, cell, h1, h2, h3, h4, by rw [hq a (Array.getElem?_eq_some_iff.mp h5).1 h10]; exact h5, h6, h7, h8, h9, h10⟩
theorem vx_L.narrow {C n d : String} {A B : Nat → Prop} {U : State} {H : Heap} (h : vx_L C n d A U H) (hAB : ∀ q, B q → A q) : vx_L C n d B U H := by
  obtain ⟨c, k, i, f, a, cell, h1, h2, h3, h4, h5, h6, h7, h8, h9, h10⟩ := h
  exact ⟨c, k, i, f, a, cell, h1, h2, h3, h4, h5, h6, h7, h8, h9, fun z => h10 (hAB _ z)⟩
theorem vx_L.word {C n d : String} {A : Nat → Prop} {s : State} {args : Array Value} (h : vx_L C n d A s s.heap) : (Cond.laysStatic C n d).before args s = true := by
  obtain ⟨c, k, i, f, a, cell, h1, h2, h3, h4, h5, h6, h7, h8, h9, -⟩ := h
  show (Cond.laysStatic C n d).holds args s none s [] = true
  exact Cond.laysStatic_of h1 h2 h3 h4 h5 h6 h7 h8 h9
/-- .. and what it holds: null or some reference -/
def vx_Zq (C n d : String) (A : Nat → Prop) (U : State) (H : Heap) : Prop := va_Zq C n d A U H ∧ vx_L C n d A U H
theorem vx_Zq.moved {C n d : String} {A : Nat → Prop} {u U : State} {H : Heap} (hvm : u.vm.Alike U.vm) (h : vx_Zq C n d A u H) : vx_Zq C n d A U H := ⟨va_Zq.moved hvm h.1, vx_L.moved hvm h.2⟩
theorem vx_Zq.kept {C n d : String} {A : Nat → Prop} {U : State} {H H1 : Heap} (h : vx_Zq C n d A U H) (hq : ∀ a : Nat, a < H.size → ¬ A a → H1[a]? = H[a]?) : vx_Zq C n d A U H1 := ⟨va_Zq.kept h.1 hq, vx_L.kept h.2 hq⟩
theorem vx_Zq.narrow {C n d : String} {A B : Nat → Prop} {U : State} {H : Heap} (h : vx_Zq C n d A U H) (hAB : ∀ q, B q → A q) : vx_Zq C n d B U H := ⟨va_Zq.narrow h.1 hAB, vx_L.narrow h.2 hAB⟩
theorem vx_Zqof {args : Array Value} {s : State} {C n d : String} {A : Nat → Prop} (hl : (Cond.laysStatic C n d).before args s = true) (hini : (Cond.initialized C).before args s = true) (h : (Cond.isRef (.static C n d)).before args s = true) (hA : ∀ a : Nat, a < s.heap.size → ¬ A a) : vx_Zq C n d A s s.heap := by
  refine ⟨va_Zqof hl hini h hA, ?_⟩
  obtain ⟨c, k, i, f, a, cell, h1, h2, h3, h4, h5, h6, h7, h8, h9⟩ := Cond.laysStatic_spec hl
  exact ⟨c, k, i, f, a, cell, h1, h2, h3, h4, h5, h6, h7, h8, h9, hA a (Array.getElem?_eq_some_iff.mp h5).1⟩
theorem vx_isRef {C n d : String} {v : Value} {A : Nat → Prop} {s : State} {args : Array Value} (h : va_Z C n d v A s s.heap) (hv : v.isRef = true) : (Cond.isRef (.static C n d)).before args s = true := by
  obtain ⟨cf, kf, fi, f, a, cell, h1, h2, h3, h4, h5, h6, h7, -⟩ := h
  have he : (Term.static C n d).eval args s none [] s = some v := by
    simp [Term.eval, State.fieldNamed?, h1, h2, h4, h5, h6, h7]
  simp only [Cond.before, Cond.holds, Cond.value, he]
  cases v <;> simp_all [Value.isRef]
theorem vx_isRefq {C n d : String} {A : Nat → Prop} {s : State} {args : Array Value} (h : va_Zq C n d A s s.heap) : (Cond.isRef (.static C n d)).before args s = true := by
  rcases h with h | ⟨t, h⟩
  · exact vx_isRef h rfl
  · exact vx_isRef h rfl
/-- the same frame, seen from here: as if the method were called anew in this heap -/
theorem vx_rebase {T : State} (X : Stand p l e R s m args below meth c T locs cells slots) {R' : Room} (hf : R'.frames ≤ R.frames) (hl : R'.locals ≤ R.locals) (hc : cells + R'.cells ≤ R.cells) (hs : slots + R'.slots ≤ R.slots) :
    Stand p l e R' ((T.setVm s.vm).setFrames (.invoking m args :: below)) m args below meth c T [] 0 0 := by
  have htop : (T.setVm s.vm).topJava?.isSome := X.here.top
  have hF : ((T.setVm s.vm).setFrames (.invoking m args :: below)).frames = .invoking m args :: below := State.frames_setFrames _ (State.cur_lt_of_top htop)
  obtain ⟨g₀, hg0⟩ := Option.isSome_iff_exists.mp htop
  obtain ⟨r, hr⟩ := State.topJava?_eq_some.mp hg0
  have hl9 : e.platform.stackLimits (T.setVm s.vm).me = e.platform.stackLimits s.me := X.limits
  have hb9 : (T.setVm s.vm).me.stackBytes = s.me.stackBytes := X.bytes
  refine ⟨X.admits, X.cas, X.clock, hF, ?_, X.hears, X.method, X.code, X.here, X.tail, X.warmed, ?_, ?_, ?_⟩
  · have h := X.room
    have hU : ((T.setVm s.vm).setFrames (.invoking m args :: below)).localsInUse = s.localsInUse := by
      rw [State.localsInUse_invoking hF (meth := meth) (c := c) X.method X.code, State.localsInUse_invoking X.frames X.method X.code]
    simp only [State.hasRoom, Bool.and_eq_true, decide_eq_true_eq] at h ⊢
    obtain ⟨⟨⟨⟨h1, h2, h3, h4, h5, h6⟩, h7⟩, h8⟩, h9⟩ := h
    rw [X.frames, List.length_cons] at h2 h3
    have q1 := X.heapSize
    have q2 := X.used
    simp only [hF, hU, List.length_cons, State.stackLimits_setFrames, State.stackBytes_setFrames, hl9, hb9]
    refine ⟨⟨⟨⟨by omega, by omega, by omega, by omega, by omega, h6⟩, ?_⟩, ?_⟩, X.book⟩
    · show T.heap.size + R'.cells ≤ e.platform.maxCells
      omega
    · show T.slotsUsed + R'.slots ≤ e.platform.maxSlots
      omega
  · rw [State.stackLimits_setFrames]; rfl
  · rw [State.stackBytes_setFrames]; rfl
  · refine ⟨?_, Nat.le_refl _, Nat.le_refl _, ?_, ?_, fun a c9 h9 => ⟨c9, h9, rfl, rfl, fun _ _ => rfl⟩⟩
    · obtain ⟨t, ht, -⟩ := State.frames_cons hr
      show T.setVm s.vm = { ((T.setVm s.vm).setFrames (.invoking m args :: below)).setFrames (T.setVm s.vm).frames with heap := T.heap, slotsUsed := T.slotsUsed }
      rw [State.setFrames_setFrames, State.setFrames_self ht]
      rfl
    · show T.slotsUsed = T.slotsUsed + ((T.heap.toList.drop T.heap.size).map (·.slots.size)).sum
      rw [List.drop_eq_nil_of_le (Nat.le_of_eq Array.length_toList)]
      rfl
    · show ((T.heap.toList.drop T.heap.size).map (·.slots.size)).sum ≤ 0
      rw [List.drop_eq_nil_of_le (Nat.le_of_eq Array.length_toList)]
      exact Nat.le_refl _
/-- 'throw new E()': new; dup; invokespecial; athrow -/
theorem vx_throw0 {cc : ByteArray} {pc : Nat} (hexec : p.tables.exec = Jvm.exec) (hb : c.code = cc) (hl : l.stackTraces = false) {own cls : String} {names : List String} {ik ic mc ms : Nat} {A : Nat → Prop}
    (hown : s.vm.findClass own = some m.cls) (hcls : Bundle.fit cls = true) (hnames : ∀ n ∈ names, Bundle.fit n = true)
    (hk : (Cond.classLink own ik cls).before args s = true) (hini : (Cond.initialized cls).before args s = true) (hat : ∀ w ∈ vx_at0 own ic cls names, w.before args s = true)
    (hgood : ∀ w ∈ Cond.classLink own ik cls :: Cond.initialized cls :: vx_at0 own ic cls names, vx_ot w = true)
    (hU : vx_Zq Bundle.tN "UNASSIGNED_STACK" Bundle.steD A s s.heap) (hN : vx_Zq Bundle.tN "SUPPRESSED_SENTINEL" Bundle.listD A s s.heap) (hS : va_S A s.heap H locs) (hsize : ls.size = c.maxLocals)
    (d0 : decode cc pc = .ok (.new ik, 3)) (d3 : decode cc (pc + 3) = .ok (.dup, 1)) (d4 : decode cc (pc + 4) = .ok (.invokespecial ic, 3)) (d7 : decode cc (pc + 7) = .ok (.athrow, 1))
    (hout : ∀ x ∈ c.exceptionTable.toList, covers x (pc + 7) = false)
    (hRframes : names.length + 3 < R.frames) (hRlocals : (rest.map fun v => v.category).sum + (13 * (names.length + 1) + 42) ≤ R.locals) (hRcells : cells + 1 ≤ R.cells) (hRslots : slots + 6 ≤ R.slots) (hlocks : meth.locks = false)
    (hx : ∀ t : State, s.vm.Alike t.vm → H.size ≤ t.heap.size → (∀ q : Nat, q < H.size → t.heap[q]? = H[q]?) → XC cls s t)
    (hf : ∀ z ∈ locs, free z.base) (hc : cells + 1 ≤ mc) (hs : slots + 6 ≤ ms) :
    W p l e R s m args below meth c H locs cells slots (vx_MQ below Qc XC args s mc ms free) (F0 m pc ls rest) := by
  intro T hT X
  have htr : e.platform.stackTraces = false := (show e.platform.stackTraces = l.stackTraces by rw [X.admits.platform]).trans hl
  have Y := vx_rebase X (R' := { frames := R.frames, locals := R.locals, cells := 1, slots := 6 }) (Nat.le_refl _) (Nat.le_refl _) hRcells hRslots
  obtain ⟨s', hA⟩ : ∃ z, z = (T.setVm s.vm).setFrames (.invoking m args :: below) := ⟨_, rfl⟩
  rw [← hA] at Y
  have hvm : s'.vm = s.vm := by rw [hA]; rfl
  have hhp : s'.heap = H := by rw [hA]; exact hT
  have hW0 : s.WarmedH s'.vm := by rw [hvm]; exact State.WarmedH.refl s
  have hat' : ∀ w ∈ vx_at0 own ic cls names, w.before args s' = true := fun w hw => vx_ot_at hW0 hvm.symm (hgood w (List.mem_cons_of_mem _ (List.mem_cons_of_mem _ hw))) (hat w hw)
  have hk' : (Cond.classLink own ik cls).before args s' = true := vx_ot_at hW0 hvm.symm (hgood _ List.mem_cons_self) hk
  have hini' : (Cond.initialized cls).before args s' = true := vx_ot_at hW0 hvm.symm (hgood _ (List.mem_cons_of_mem _ List.mem_cons_self)) hini
  have hU' : vx_Zq Bundle.tN "UNASSIGNED_STACK" Bundle.steD A s' s'.heap := by rw [hhp]; exact vx_Zq.moved hW0.alike (hU.kept hS.2.1)
  have hN' : vx_Zq Bundle.tN "SUPPRESSED_SENTINEL" Bundle.listD A s' s'.heap := by rw [hhp]; exact vx_Zq.moved hW0.alike (hN.kept hS.2.1)
  have h : ∀ w ∈ Bundle.ownAtoms0 own ic cls names, w.before args s' = true := vx_own hat' (vx_isRefq hU'.1) (vx_isRefq hN'.1) hU'.2.word hN'.2.word
  have hown' : s'.vm.findClass own = some m.cls := by rw [hvm]; exact hown
  have hins : (Cond.instantiable cls 6).before args s' = true := h _ (by simp [Bundle.ownAtoms0])
  obtain ⟨vm₁, cX, kX, hfX, hkX, -, -, X₁, st1⟩ := Y.newCold hexec (own := own) (C := cls) (index := ik) (n := 6) hown' hk' hins hini'
    (g := F0 m pc ls rest) rfl (by rw [hb]; exact d0) (Nat.le_refl _) (Nat.le_refl _)
  generalize hT1 : (T.setVm vm₁).pushCell { cls := cX, slots := kX.instanceTypes.map defaultValue, vm := .none } = T1 at X₁ st1
  have hcat : (Value.ref T.heap.size).category = 1 := rfl
  have hcellA : T1.heap[T.heap.size]? = some (freshCell cX kX) := by rw [← hT1]; exact State.heap_pushCell_size _ _
  have d3' : decode c.code (pc + 3) = .ok (.dup, 1) := by rw [hb]; exact d3
  obtain ⟨U, hsteps, hrun, hend, hW, hsame, ce, hce, hO⟩ := X₁.ctorThrow0 hexec htr (own := own) (cls := cls) (names := names) (ic := ic) hown' hcls hnames h (fun x hx => nomatch hx) hfX hkX hcellA (by rw [hhp, hT]; exact Nat.le_refl _)
    (g := { method := m, pc := pc + 4, locals := ls, stack := .ref T.heap.size :: .ref T.heap.size :: rest, locked := none }) rfl hsize rfl rfl (rest := rest) rfl
    (by rw [hb]; exact d4) (by rw [hb]; exact d7) hout hRframes (by simp only [List.map_cons, List.sum_cons, hcat]; omega) hlocks
  obtain ⟨f1, f2⟩ := vx_frame hsame
  rw [hhp] at f1 f2
  have hWs : s.WarmedH U.vm := State.WarmedH.trans hW0 hW
  have hcl : s.vm.findClass cls = some ce.cls := by
    have h9 := hO.cls
    rw [hvm] at h9
    exact h9
  have hall : s.sameButNew ({ U with vm := s.vm } : State) locs mc ms := by
    subst hA
    obtain ⟨e1, e2⟩ := hsame
    rw [State.setFrames_setFrames] at e1
    have h2 : (T.setVm s.vm).sameButNew ({ U with vm := s.vm } : State) [] (0 + 1) (0 + 6) := ⟨e1, e2⟩
    have h3 := X.same.trans h2
    rw [List.append_nil] at h3
    exact h3.mono hc hs
  refine ⟨U, ?_, .threw T.heap.size, hrun, hend, Or.inr ⟨T.heap.size, rfl, cls, ce, locs, hx U hWs.alike f1 (fun q hq => f2 q hq (fun z hz => nomatch hz)), hce, hO.vm, hcl, hWs, hall, hf⟩⟩
  refine st1 _ ?_
  show Steps p.tables e below (T1.setTop { method := m, pc := pc + 3, locals := ls, stack := .ref T.heap.size :: rest, locked := none }) _
  jvm_step X₁.here [X₁.here.top, hexec, d3', Value.category]
  exact hsteps
/-- 'throw new E("text")': new; dup; ldc; invokespecial; athrow -/
theorem vx_throwS {cc : ByteArray} {pc : Nat} (hexec : p.tables.exec = Jvm.exec) (hb : c.code = cc) (hl : l.stackTraces = false) {own cls text : String} {names : List String} {ik is ic mc ms sa : Nat} {A : Nat → Prop}
    (hown : s.vm.findClass own = some m.cls) (hcls : Bundle.fit cls = true) (hnames : ∀ n ∈ names, Bundle.fit n = true)
    (hk : (Cond.classLink own ik cls).before args s = true) (hini : (Cond.initialized cls).before args s = true) (hstr : vk_R own is text sa s) (hat : ∀ w ∈ vx_atS own ic cls names, w.before args s = true)
    (hgood : ∀ w ∈ Cond.classLink own ik cls :: Cond.initialized cls :: vx_atS own ic cls names, vx_ot w = true)
    (hU : vx_Zq Bundle.tN "UNASSIGNED_STACK" Bundle.steD A s s.heap) (hN : vx_Zq Bundle.tN "SUPPRESSED_SENTINEL" Bundle.listD A s s.heap) (hS : va_S A s.heap H locs) (hsize : ls.size = c.maxLocals)
    (d0 : decode cc pc = .ok (.new ik, 3)) (d3 : decode cc (pc + 3) = .ok (.dup, 1)) (d4 : decode cc (pc + 4) = .ok (.ldc is, 2)) (d6 : decode cc (pc + 6) = .ok (.invokespecial ic, 3)) (d9 : decode cc (pc + 9) = .ok (.athrow, 1))
    (hout : ∀ x ∈ c.exceptionTable.toList, covers x (pc + 9) = false)
    (hRframes : names.length + 3 < R.frames) (hRlocals : (rest.map fun v => v.category).sum + (13 * (names.length + 1) + 43) ≤ R.locals) (hRcells : cells + 1 ≤ R.cells) (hRslots : slots + 6 ≤ R.slots) (hlocks : meth.locks = false)
    (hx : ∀ t : State, s.vm.Alike t.vm → H.size ≤ t.heap.size → (∀ q : Nat, q < H.size → t.heap[q]? = H[q]?) → XC cls s t)
    (hf : ∀ z ∈ locs, free z.base) (hc : cells + 1 ≤ mc) (hs : slots + 6 ≤ ms) :
    W p l e R s m args below meth c H locs cells slots (vx_MQ below Qc XC args s mc ms free) (F0 m pc ls rest) := by
  intro T hT X
  have htr : e.platform.stackTraces = false := (show e.platform.stackTraces = l.stackTraces by rw [X.admits.platform]).trans hl
  have Y := vx_rebase X (R' := { frames := R.frames, locals := R.locals, cells := 1, slots := 6 }) (Nat.le_refl _) (Nat.le_refl _) hRcells hRslots
  obtain ⟨s', hA⟩ : ∃ z, z = (T.setVm s.vm).setFrames (.invoking m args :: below) := ⟨_, rfl⟩
  rw [← hA] at Y
  have hvm : s'.vm = s.vm := by rw [hA]; rfl
  have hhp : s'.heap = H := by rw [hA]; exact hT
  have hW0 : s.WarmedH s'.vm := by rw [hvm]; exact State.WarmedH.refl s
  have hat' : ∀ w ∈ vx_atS own ic cls names, w.before args s' = true := fun w hw => vx_ot_at hW0 hvm.symm (hgood w (List.mem_cons_of_mem _ (List.mem_cons_of_mem _ hw))) (hat w hw)
  have hk' : (Cond.classLink own ik cls).before args s' = true := vx_ot_at hW0 hvm.symm (hgood _ List.mem_cons_self) hk
  have hini' : (Cond.initialized cls).before args s' = true := vx_ot_at hW0 hvm.symm (hgood _ (List.mem_cons_of_mem _ List.mem_cons_self)) hini
  have hU' : vx_Zq Bundle.tN "UNASSIGNED_STACK" Bundle.steD A s' s'.heap := by rw [hhp]; exact vx_Zq.moved hW0.alike (hU.kept hS.2.1)
  have hN' : vx_Zq Bundle.tN "SUPPRESSED_SENTINEL" Bundle.listD A s' s'.heap := by rw [hhp]; exact vx_Zq.moved hW0.alike (hN.kept hS.2.1)
  have h : ∀ w ∈ Bundle.ownAtoms own ic cls names, w.before args s' = true := vx_own hat' (vx_isRefq hU'.1) (vx_isRefq hN'.1) hU'.2.word hN'.2.word
  have hown' : s'.vm.findClass own = some m.cls := by rw [hvm]; exact hown
  have hins : (Cond.instantiable cls 6).before args s' = true := h _ (by simp [Bundle.ownAtoms])
  obtain ⟨vm₁, cX, kX, hfX, hkX, -, -, X₁, st1⟩ := Y.newCold hexec (own := own) (C := cls) (index := ik) (n := 6) hown' hk' hins hini'
    (g := F0 m pc ls rest) rfl (by rw [hb]; exact d0) (Nat.le_refl _) (Nat.le_refl _)
  generalize hT1 : (T.setVm vm₁).pushCell { cls := cX, slots := kX.instanceTypes.map defaultValue, vm := .none } = T1 at X₁ st1
  have hcat : (Value.ref T.heap.size).category = 1 := rfl
  have hcellA : T1.heap[T.heap.size]? = some (freshCell cX kX) := by rw [← hT1]; exact State.heap_pushCell_size _ _
  have d3' : decode c.code (pc + 3) = .ok (.dup, 1) := by rw [hb]; exact d3
  have d4' : decode c.code (pc + 4) = .ok (.ldc is, 2) := by rw [hb]; exact d4
  have hstr' : vk_R own is text sa s' := vk_R.warm hW0 hstr
  obtain ⟨U, hsteps, hrun, hend, hW, hsame, ce, hce, hO⟩ := X₁.ctorThrowS hexec htr (own := own) (cls := cls) (names := names) (ic := ic) hown' hcls hnames h (fun x hx => nomatch hx) hfX hkX hcellA (by rw [hhp, hT]; exact Nat.le_refl _) (msg := .ref sa) rfl
    (g := { method := m, pc := pc + 6, locals := ls, stack := .ref sa :: .ref T.heap.size :: .ref T.heap.size :: rest, locked := none }) rfl hsize rfl rfl (rest := rest) rfl
    (by rw [hb]; exact d6) (by rw [hb]; exact d9) hout hRframes (by simp only [List.map_cons, List.sum_cons, hcat]; omega) hlocks
  obtain ⟨f1, f2⟩ := vx_frame hsame
  rw [hhp] at f1 f2
  have hWs : s.WarmedH U.vm := State.WarmedH.trans hW0 hW
  have hcl : s.vm.findClass cls = some ce.cls := by
    have h9 := hO.cls
    rw [hvm] at h9
    exact h9
  have hall : s.sameButNew ({ U with vm := s.vm } : State) locs mc ms := by
    subst hA
    obtain ⟨e1, e2⟩ := hsame
    rw [State.setFrames_setFrames] at e1
    have h2 : (T.setVm s.vm).sameButNew ({ U with vm := s.vm } : State) [] (0 + 1) (0 + 6) := ⟨e1, e2⟩
    have h3 := X.same.trans h2
    rw [List.append_nil] at h3
    exact h3.mono hc hs
  refine ⟨U, ?_, .threw T.heap.size, hrun, hend, Or.inr ⟨T.heap.size, rfl, cls, ce, locs, hx U hWs.alike f1 (fun q hq => f2 q hq (fun z hz => nomatch hz)), hce, hO.vm, hcl, hWs, hall, hf⟩⟩
  refine st1 _ ?_
  show Steps p.tables e below (T1.setTop { method := m, pc := pc + 3, locals := ls, stack := .ref T.heap.size :: rest, locked := none }) _
  jvm_step X₁.here [X₁.here.top, hexec, d3', Value.category]
  exact X₁.ldcString hexec (own := own) (text := text) (index := is) (a := sa) hown' hstr'.1 hstr'.2
    (g := { method := m, pc := pc + 4, locals := ls, stack := .ref T.heap.size :: .ref T.heap.size :: rest, locked := none }) rfl d4' _ hsteps
/-- 'throw new E("text")', the text by a wide index -/
theorem vx_throwSW {cc : ByteArray} {pc : Nat} (hexec : p.tables.exec = Jvm.exec) (hb : c.code = cc) (hl : l.stackTraces = false) {own cls text : String} {names : List String} {ik is ic mc ms sa : Nat} {A : Nat → Prop}
    (hown : s.vm.findClass own = some m.cls) (hcls : Bundle.fit cls = true) (hnames : ∀ n ∈ names, Bundle.fit n = true)
    (hk : (Cond.classLink own ik cls).before args s = true) (hini : (Cond.initialized cls).before args s = true) (hstr : vk_R own is text sa s) (hat : ∀ w ∈ vx_atS own ic cls names, w.before args s = true)
    (hgood : ∀ w ∈ Cond.classLink own ik cls :: Cond.initialized cls :: vx_atS own ic cls names, vx_ot w = true)
    (hU : vx_Zq Bundle.tN "UNASSIGNED_STACK" Bundle.steD A s s.heap) (hN : vx_Zq Bundle.tN "SUPPRESSED_SENTINEL" Bundle.listD A s s.heap) (hS : va_S A s.heap H locs) (hsize : ls.size = c.maxLocals)
    (d0 : decode cc pc = .ok (.new ik, 3)) (d3 : decode cc (pc + 3) = .ok (.dup, 1)) (d4 : decode cc (pc + 4) = .ok (.ldc_w is, 3)) (d7 : decode cc (pc + 7) = .ok (.invokespecial ic, 3)) (d10 : decode cc (pc + 10) = .ok (.athrow, 1))
    (hout : ∀ x ∈ c.exceptionTable.toList, covers x (pc + 10) = false)
    (hRframes : names.length + 3 < R.frames) (hRlocals : (rest.map fun v => v.category).sum + (13 * (names.length + 1) + 43) ≤ R.locals) (hRcells : cells + 1 ≤ R.cells) (hRslots : slots + 6 ≤ R.slots) (hlocks : meth.locks = false)
    (hx : ∀ t : State, s.vm.Alike t.vm → H.size ≤ t.heap.size → (∀ q : Nat, q < H.size → t.heap[q]? = H[q]?) → XC cls s t)
    (hf : ∀ z ∈ locs, free z.base) (hc : cells + 1 ≤ mc) (hs : slots + 6 ≤ ms) :
    W p l e R s m args below meth c H locs cells slots (vx_MQ below Qc XC args s mc ms free) (F0 m pc ls rest) := by
  intro T hT X
  have htr : e.platform.stackTraces = false := (show e.platform.stackTraces = l.stackTraces by rw [X.admits.platform]).trans hl
  have Y := vx_rebase X (R' := { frames := R.frames, locals := R.locals, cells := 1, slots := 6 }) (Nat.le_refl _) (Nat.le_refl _) hRcells hRslots
  obtain ⟨s', hA⟩ : ∃ z, z = (T.setVm s.vm).setFrames (.invoking m args :: below) := ⟨_, rfl⟩
  rw [← hA] at Y
  have hvm : s'.vm = s.vm := by rw [hA]; rfl
  have hhp : s'.heap = H := by rw [hA]; exact hT
  have hW0 : s.WarmedH s'.vm := by rw [hvm]; exact State.WarmedH.refl s
  have hat' : ∀ w ∈ vx_atS own ic cls names, w.before args s' = true := fun w hw => vx_ot_at hW0 hvm.symm (hgood w (List.mem_cons_of_mem _ (List.mem_cons_of_mem _ hw))) (hat w hw)
  have hk' : (Cond.classLink own ik cls).before args s' = true := vx_ot_at hW0 hvm.symm (hgood _ List.mem_cons_self) hk
  have hini' : (Cond.initialized cls).before args s' = true := vx_ot_at hW0 hvm.symm (hgood _ (List.mem_cons_of_mem _ List.mem_cons_self)) hini
  have hU' : vx_Zq Bundle.tN "UNASSIGNED_STACK" Bundle.steD A s' s'.heap := by rw [hhp]; exact vx_Zq.moved hW0.alike (hU.kept hS.2.1)
  have hN' : vx_Zq Bundle.tN "SUPPRESSED_SENTINEL" Bundle.listD A s' s'.heap := by rw [hhp]; exact vx_Zq.moved hW0.alike (hN.kept hS.2.1)
  have h : ∀ w ∈ Bundle.ownAtoms own ic cls names, w.before args s' = true := vx_own hat' (vx_isRefq hU'.1) (vx_isRefq hN'.1) hU'.2.word hN'.2.word
  have hown' : s'.vm.findClass own = some m.cls := by rw [hvm]; exact hown
  have hins : (Cond.instantiable cls 6).before args s' = true := h _ (by simp [Bundle.ownAtoms])
  obtain ⟨vm₁, cX, kX, hfX, hkX, -, -, X₁, st1⟩ := Y.newCold hexec (own := own) (C := cls) (index := ik) (n := 6) hown' hk' hins hini'
    (g := F0 m pc ls rest) rfl (by rw [hb]; exact d0) (Nat.le_refl _) (Nat.le_refl _)
  generalize hT1 : (T.setVm vm₁).pushCell { cls := cX, slots := kX.instanceTypes.map defaultValue, vm := .none } = T1 at X₁ st1
  have hcat : (Value.ref T.heap.size).category = 1 := rfl
  have hcellA : T1.heap[T.heap.size]? = some (freshCell cX kX) := by rw [← hT1]; exact State.heap_pushCell_size _ _
  have d3' : decode c.code (pc + 3) = .ok (.dup, 1) := by rw [hb]; exact d3
  have d4' : decode c.code (pc + 4) = .ok (.ldc_w is, 3) := by rw [hb]; exact d4
  have hstr' : vk_R own is text sa s' := vk_R.warm hW0 hstr
  obtain ⟨U, hsteps, hrun, hend, hW, hsame, ce, hce, hO⟩ := X₁.ctorThrowS hexec htr (own := own) (cls := cls) (names := names) (ic := ic) hown' hcls hnames h (fun x hx => nomatch hx) hfX hkX hcellA (by rw [hhp, hT]; exact Nat.le_refl _) (msg := .ref sa) rfl
    (g := { method := m, pc := pc + 7, locals := ls, stack := .ref sa :: .ref T.heap.size :: .ref T.heap.size :: rest, locked := none }) rfl hsize rfl rfl (rest := rest) rfl
    (by rw [hb]; exact d7) (by rw [hb]; exact d10) hout hRframes (by simp only [List.map_cons, List.sum_cons, hcat]; omega) hlocks
  obtain ⟨f1, f2⟩ := vx_frame hsame
  rw [hhp] at f1 f2
  have hWs : s.WarmedH U.vm := State.WarmedH.trans hW0 hW
  have hcl : s.vm.findClass cls = some ce.cls := by
    have h9 := hO.cls
    rw [hvm] at h9
    exact h9
  have hall : s.sameButNew ({ U with vm := s.vm } : State) locs mc ms := by
    subst hA
    obtain ⟨e1, e2⟩ := hsame
    rw [State.setFrames_setFrames] at e1
    have h2 : (T.setVm s.vm).sameButNew ({ U with vm := s.vm } : State) [] (0 + 1) (0 + 6) := ⟨e1, e2⟩
    have h3 := X.same.trans h2
    rw [List.append_nil] at h3
    exact h3.mono hc hs
  refine ⟨U, ?_, .threw T.heap.size, hrun, hend, Or.inr ⟨T.heap.size, rfl, cls, ce, locs, hx U hWs.alike f1 (fun q hq => f2 q hq (fun z hz => nomatch hz)), hce, hO.vm, hcl, hWs, hall, hf⟩⟩
  refine st1 _ ?_
  show Steps p.tables e below (T1.setTop { method := m, pc := pc + 3, locals := ls, stack := .ref T.heap.size :: rest, locked := none }) _
  jvm_step X₁.here [X₁.here.top, hexec, d3', Value.category]
  exact X₁.ldcStringW hexec (own := own) (text := text) (index := is) (a := sa) hown' hstr'.1 hstr'.2
    (g := { method := m, pc := pc + 4, locals := ls, stack := .ref T.heap.size :: .ref T.heap.size :: rest, locked := none }) rfl d4' _ hsteps
end Ends
section Bodies
variable {l : Launch}
theorem vx_ofW {y : MethodName} {ws ws' : List Cond} {rm : Room} {Pc : Array Value → State → Prop} {Qc : Array Value → State → Outcome → State → Prop} {XC : String → State → State → Prop} {mc ms : Nat} {free : Addr → Prop} {cc : ByteArray} {maxL : Nat} {ret : Option FieldType}
    (hy : plainName y.cls = true) (hw : ws = Cond.code y cc maxL ret :: ws')
    (body : ∀ p e s m args below meth c s₁, BodyLoose p l y (headSpec ws rm) cc maxL ret e s m args below meth c s₁ → c.maxLocals = maxL → (∀ x ∈ c.exceptionTable.toList, False) → Pc args s →
      W p l e (headSpec ws rm).room s m args below meth c s.heap [] 0 0 (vx_MQ below Qc XC args s mc ms free) (entryFrame m args maxL)) : vx_Met l y ws rm Pc Qc XC mc ms free := by
  refine MetFree.of_bodyS (code := cc) (maxLocals := maxL) (ret := ret) hy ?_ ?_
  · intro args s m h hn
    obtain ⟨meth, c, h1, h2, h3, h4, h5, h6, -, -⟩ := Cond.code_spec hn (atoms_spec (ws := ws) h _ (by rw [hw]; exact List.mem_cons_self))
    exact ⟨meth, c, h1, h2, h3, h4, h5, h6⟩
  · intro p e s m args below meth c s₁ B hml hP _
    have hh0 : s₁.heap = s.heap := by rw [B.state]; rfl
    have ht : ∀ x ∈ c.exceptionTable.toList, False := by
      obtain ⟨meth9, c9, h1, h2, -, -, -, -, h7, -⟩ := Cond.code_spec B.named (atoms_spec (ws := ws) B.pre _ (by rw [hw]; exact List.mem_cons_self))
      cases Option.some.inj (h1.symm.trans B.method)
      cases Option.some.inj (h2.symm.trans (Stand.of_body B).code)
      intro x hx
      rw [Array.isEmpty_iff.mp h7] at hx
      cases hx
    obtain ⟨t, a1, o, b1, b2, b3⟩ := body p e s m args below meth c s₁ B hml ht hP s₁ hh0 (Stand.of_body B)
    exact ⟨t, o, a1, b1, b2, b3⟩
/-- the table of a body with handlers -/
theorem vx_table {p : Program} {x y : MethodName} {S : Spec} {cc bytes : ByteArray} {maxL maxL' : Nat} {ret ret' : Option FieldType} {e : Env} {s s₁ : State} {m : MethodId} {args : Array Value} {below : List Frame} {meth : Method} {c : Code} {hh : List (Nat × Nat × Nat × Nat)}
    (B : BodyLoose p l y S cc maxL ret e s m args below meth c s₁) (h : (Cond.codeWith y bytes maxL' ret' hh).before args s = true) : c.exceptionTable.toList = tableOf hh := by
  obtain ⟨m9, meth9, c9, hn9, h1, h2, -, -, h6, -⟩ := Cond.codeWith_spec h
  cases Option.some.inj (hn9.symm.trans B.named)
  cases Option.some.inj (h1.symm.trans B.method)
  cases Option.some.inj (h2.symm.trans (Stand.of_body B).code)
  rw [← h6, table_eq]
end Bodies
end VXA
/-! ===== END ===== -/
/-! ===== BEGIN a static call of a method with an exception table ===== -/
section VXS
variable {p : Program} {l : Launch} {e : Env} {R : Room} {s : State} {m : MethodId} {args : Array Value} {below : List Frame} {meth : Method} {c : Code} {T : State} {H : Heap} {locs : List Loc} {cells slots : Nat}
abbrev vx_CSW (R : Room) (s : State) (args : Array Value) (own : String) (index : Nat) (y : MethodName) (bytes : ByteArray) (maxL : Nat) (ret : Option FieldType) (hh : List (Nat × Nat × Nat × Nat)) (ws : List Cond) (rm : Room) (mc ms n : Nat) : Prop :=
  (rm.cells = mc ∧ rm.slots = ms ∧ rm.frames + 1 ≤ R.frames ∧ 8 + (maxL + 11) + rm.locals ≤ R.locals ∧ (∀ w ∈ ws, ∀ (a' : Array Value) (U : State), s.WarmedH U.vm → w.before a' U = true) ∧ Cond.codeWith y bytes maxL ret hh ∈ ws) ∧
  (Cond.codeWith y bytes maxL ret hh).before args s = true ∧ (Cond.initialized y.cls).before args s = true ∧ (y.cls ≠ "java/lang/invoke/MethodHandle" ∧ y.cls ≠ "java/lang/invoke/VarHandle") ∧
  (∀ sig, parseMethodDescriptor y.desc = some sig → n = sig.parameters.length) ∧ (Cond.methodLink own index y).before args s = true ∧ (Cond.static y).before args s = true
theorem vx_cwSW {own : String} {index maxL mc ms : Nat} {y : MethodName} {bytes : ByteArray} {ret : Option FieldType} {hh : List (Nat × Nat × Nat × Nat)} {Ts ws ws' : List Cond} {rm : Room} (n : Nat) (ht : ∀ w ∈ Ts, w.before args s = true) (hT : GoodIn Ts (va_wsS own index y ws)) (hw : ws = Cond.codeWith y bytes maxL ret hh :: ws') (hrc : rm.cells = mc) (hrs : rm.slots = ms)
    (hd : y.cls ≠ "java/lang/invoke/MethodHandle" ∧ y.cls ≠ "java/lang/invoke/VarHandle" ∧ (parseMethodDescriptor y.desc).map (fun d => d.parameters.length) = some n) (hR : rm.frames + 1 ≤ R.frames ∧ 8 + (maxL + 11) + rm.locals ≤ R.locals) :
    vx_CSW R s args own index y bytes maxL ret hh ws rm mc ms n := by
  have ok : ∀ w ∈ va_wsS own index y ws, w.before args s = true := fun w h => ht w (hT w h).1
  have hG : GoodIn Ts ws := fun w h => hT w (by unfold va_wsS; exact List.mem_append_right _ h)
  have hc : Cond.codeWith y bytes maxL ret hh ∈ ws := by rw [hw]; exact List.mem_cons_self
  refine ⟨⟨hrc, hrs, hR.1, hR.2, pay_in ht hG, hc⟩, ht _ (hG _ hc).1, ok _ (by simp [va_wsS]), ⟨hd.1, hd.2.1⟩, fun sig h => ?_, ok _ (by simp [va_wsS]), ok _ (by simp [va_wsS])⟩
  have h2 := hd.2.2
  rw [h] at h2
  exact (Option.some.inj h2).symm
theorem vx_callSW (X : Stand p l e R s m args below meth c T locs cells slots) (hexec : p.tables.exec = Jvm.exec) {own : String} {index : Nat} {y : MethodName} {bytes : ByteArray} {maxL : Nat} {ret : Option FieldType} {hh : List (Nat × Nat × Nat × Nat)}
    (hown : s.vm.findClass own = some m.cls) (hlink : (Cond.methodLink own index y).before args s = true) (hstat : (Cond.static y).before args s = true) (hinit : (Cond.initialized y.cls).before args s = true)
    (hcode : (Cond.codeWith y bytes maxL ret hh).before args s = true) (hy : y.cls ≠ "java/lang/invoke/MethodHandle" ∧ y.cls ≠ "java/lang/invoke/VarHandle")
    {W9 : Nat} {Pre : Pt → Array Value → Prop} {Post : Pt → Array Value → Option Value → Pt → Prop} (hK : Back l R p e below s args y 3 W9 Pre Post)
    {g : JFrame} (hg : g.method = m) (hsize : g.locals.size = c.maxLocals) {argsL rest : List Value} (hlen : ∀ sig, parseMethodDescriptor y.desc = some sig → argsL.length = sig.parameters.length)
    (hstack : g.stack = argsL.reverse ++ rest) (hW : 2 * g.monitorRoom + (rest.map fun v => v.category).sum ≤ W9) (hdg : decode c.code g.pc = .ok (.invokestatic index, 3))
    (hpre : ∀ vm₁, s.WarmedH vm₁ → Pre ⟨T.setVm vm₁, locs, cells, slots⟩ argsL.toArray) :
    ∃ (v : Option Value) (vm₁ : Vm) (B : Pt), s.WarmedH vm₁ ∧ Stand p l e R s m args below meth c B.U B.locs B.cells B.slots ∧ Post ⟨T.setVm vm₁, locs, cells, slots⟩ argsL.toArray v B ∧
      ∀ target, Steps p.tables e below (B.U.setTop { g with pc := g.pc + 3, stack := v.toList ++ rest }) target → Steps p.tables e below (T.setTop g) target := by
  obtain ⟨mk, methM, cM, hnamed, hmethM, -, -, -, -, -, -, hsigM⟩ := Cond.codeWith_spec hcode
  have hstatic : methM.isStatic = true := Cond.static_spec hnamed hmethM hstat
  obtain ⟨kP, hkP, -⟩ := className_of_methodNamed hnamed
  have hinitP : kP.init = .initialized := Cond.initialized_spec (findClass_of_methodNamed hnamed) hkP hinit
  obtain ⟨vm₁, X₁, hstep₁⟩ := X.invokestatic hexec hown hlink hnamed hmethM hstatic hkP hinitP hy (g := g) hg (argsL := argsL) (rest := rest) (hlen _ hsigM) hstack hdg
  obtain ⟨v, B, X', hpost, hsteps⟩ := hK m meth c ⟨T.setVm vm₁, locs, cells, slots⟩ { g with stack := rest } (.invokestatic index) mk argsL.toArray X₁ hg hsize hdg hW (X₁.named hnamed) (hpre vm₁ X₁.warmed)
  exact ⟨v, vm₁, B, X₁.warmed, X', hpost, fun target h => hstep₁ _ fun acts => by rw [doInvoke_state]; exact hsteps.trans h⟩
theorem vx_runSW {y : MethodName} {bytes cc : ByteArray} {maxL nL mc ms n index : Nat} {ret : Option FieldType} {hh : List (Nat × Nat × Nat × Nat)} {ws : List Cond} {rm : Room} {Pc : Array Value → State → Prop} {Qc : Array Value → State → Outcome → State → Prop} {free : Addr → Prop} {Ts : List Cond} {own : String} {As rest : List Value} {g : JFrame}
    (S : CallFix p m c cc nL s args Ts own) (hM : Met l y ws rm Pc Qc mc ms free) (cw : vx_CSW R s args own index y bytes maxL ret hh ws rm mc ms n) (hp : PreS s H Pc As)
    (hg : g.method = m) (hn : As.length = n) (hsize : g.locals.size = nL) (hstack : g.stack = As.reverse ++ rest) (hW : 2 * g.monitorRoom + (rest.map fun v => v.category).sum ≤ 8) (hdg : decode cc g.pc = .ok (.invokestatic index, 3)) (hf : cells + mc ≤ R.cells ∧ slots + ms ≤ R.slots) :
    va_Run p l e R s m args below meth c H locs cells slots mc ms g rest (Qc As.toArray) (free) := by
  obtain ⟨⟨hrc, hrs, hfr, hlo, hws, hcw⟩, hcode, hini, hy, hlen, hl, hstt⟩ := cw
  have hK : Back l R p e below s args y 3 8 (PreOf R mc ms Pc) (PostOf Qc mc ms free) := va_backW (hh := hh) (bytes := bytes) (maxL := maxL) (ret := ret) hM hp.1 hrc hrs hfr hlo hws hcw (fun a' U hW => word_at hW (Or.inl (by first | rfl | simp [Cond.onTables, Cond.keeps, Cond.steady])) hini)
  obtain ⟨hx, hb, hml, ho, -⟩ := S
  intro T hT X
  obtain ⟨v, vm₁, ⟨U', l2, c2, s2⟩, hW₁, X', ⟨g', mk, t, L, e1, e2, hq, h1, hL, h2, h3⟩, st⟩ := vx_callSW X hx (hh := hh) (bytes := bytes) (maxL := maxL) (ret := ret) ho hl hstt hini hcode hy hK hg (hsize.trans hml.symm) (argsL := As) (rest := rest) (fun sig h => hn.trans (hlen sig h)) hstack hW (by rw [hb]; exact hdg)
    (fun vm₁ hW₁ => ⟨hf.1, hf.2, hp.2 (T.setVm vm₁) hT hW₁⟩)
  dsimp only [Pt.U, Pt.locs, Pt.cells, Pt.slots] at X' e1 e2 h1 h2 h3 st
  subst h1; subst h2; subst h3
  exact ⟨v, (T.setVm vm₁).calling g' mk As.toArray, t, U', L, hT, X', hL, e1, e2, hq, st⟩
/-- not caught here, past rows that name other classes: it goes on to the caller -/
theorem vx_outP {p : Program} {l : Launch} {e : Env} {R : Room} {s : State} {m : MethodId} {args : Array Value} {below : List Frame} {meth : Method} {c : Code} {H : Heap} {locs : List Loc} {cells slots : Nat} {free : Addr → Prop} {ls : Array Slot} {rest : List Value} {Qc : Array Value → State → Outcome → State → Prop} {XC : String → State → State → Prop}
    {pc : Nat} {own E : String} {ce : Cell} {q : Addr} {mc ms : Nat} (hown : s.vm.findClass own = some m.cls) (hlocks : meth.locks = false)
    (hpass : ∀ z ∈ c.exceptionTable.toList, covers z pc = false ∨ (z.catchType ≠ 0 ∧ ∃ nm : String, (Cond.classLink own z.catchType nm).before args s = true ∧ va_Nc E nm s)) (hcell : H[q]? = some ce) (hv : ce.vm = .none) (hcl : s.vm.findClass E = some ce.cls)
    (hx : ∀ t : State, t.heap = H → s.vm.Alike t.vm → XC E s t) (hf : ∀ z ∈ locs, free z.base) (hc : cells ≤ mc) (hs : slots ≤ ms) :
    vx_W p l e R s m args below meth c H locs cells slots (vx_MQ below Qc XC args s mc ms free) (F0 m pc ls rest) q := by
  intro T hT X
  have hpl : e.platform.magicAccessors = ({} : Platform).magicAccessors := by rw [X.admits.platform]
  obtain ⟨vm', hW', X', st⟩ := Stand.outThrough X hlocks q (g := F0 m pc ls rest) rfl rfl rfl (cell := ce) (by rw [hT]; exact hcell) (by rw [hv]; rfl)
    (by obtain ⟨k9, h9, -⟩ := Vm.findClass_spec hcl; exact ⟨k9, h9⟩) (fun z hz => by
      rcases hpass z hz with h | ⟨hz0, nm, hl1, hn1⟩
      · exact Or.inl h
      · obtain ⟨c6, hc6, hcl6⟩ := Cond.classLink_spec hown hl1 e.platform hpl
        obtain ⟨a8, b8, h1, h2, h3⟩ := hn1
        cases Option.some.inj (h1.symm.trans hcl)
        cases Option.some.inj (h2.symm.trans hc6)
        exact Or.inr ⟨hz0, _, hcl6, h3⟩)
  obtain ⟨g₀, hfr⟩ := X'.frames_eq
  have hcell9 : ((T.setVm vm').setFrames (.throwing q :: below)).heap[q]? = some ce := by
    show T.heap[q]? = some ce
    rw [hT]; exact hcell
  have hend : Ended ((T.setVm vm').setFrames (.throwing q :: below)) below (.threw q) := State.frames_setFrames _ (State.cur_lt_of_frames hfr)
  refine ⟨(T.setVm vm').setFrames (.throwing q :: below), ?_, .threw q, X'.here.running, hend, Or.inr ⟨q, rfl, E, ce, locs, hx _ hT (X'.ends _).1.alike, hcell9, hv, hcl, (X'.ends _).1, (X'.ends _).2.mono hc hs, hf⟩⟩
  rw [X.pushThrowing_eq]
  exact st
/-- a thing of a world lies in the heap -/
theorem vx_lt {D : va_G} {cl : List vw_C} {ws : va_W} {H1 : Heap} (h : va_P D cl ws H1) {k : Nat} {q : Nat × va_E} (hk : ws[k]? = some q) : q.1 < H1.size := (h k q hk).lt
end VXS
/-! ===== END ===== -/
/-! ===== BEGIN methods with a table of their own: called by a name, returning or throwing ===== -/
section VXH
/-! vx_backW, vx_callVX, vx_callSX, vx_callVW, vx_runVW, vx_runVX, vx_runSX, vx_ofWH follow the same proofs as their sisters above (Free/Laws.lean, Shelf42/LK1.lean); vx_outP calls Shelf42/NT130.lean (outThrough). -/
section
variable {l : Launch} {R : Room} {p : Program} {e : Env} {below : List Frame} {s : State} {sargs : Array Value} {y : MethodName} {len W9 : Nat}
theorem vx_backW {ws : List Cond} {rm : Room} {Pc : Array Value → State → Prop} {Qc : Array Value → State → Outcome → State → Prop} {XC : String → State → State → Prop} {mc ms : Nat} {free : Addr → Prop} {bytes : ByteArray} {maxL : Nat} {ret : Option FieldType} {hh : List (Nat × Nat × Nat × Nat)}
    (hM : vx_Met l y ws rm Pc Qc XC mc ms free) (hblind : FrameBlind Pc) (hrc : rm.cells = mc) (hrs : rm.slots = ms)
    (hframes : rm.frames + 1 ≤ R.frames) (hlocals : W9 + (maxL + 11) + rm.locals ≤ R.locals)
    (hws : ∀ w ∈ ws, ∀ a' U, s.WarmedH U.vm → w.before a' U = true) (hcode : Cond.codeWith y bytes maxL ret hh ∈ ws) (hinit : ∀ a' U, s.WarmedH U.vm → (Cond.initialized y.cls).before a' U = true) :
    vx_Back l R p e below s sargs y len W9 (PreOf R mc ms Pc) (PostOf Qc mc ms free) (vx_Post XC mc ms free) := by
  intro m meth c A g ig mk a X hg hsize hdg hW hn hp
  have h1 : (headSpec ws rm).pre.before a A.U = true := atoms_intro fun w hw => hws w hw _ _ X.warmed
  have h2 : (Cond.codeWith y bytes maxL ret hh).before a A.U = true := hws _ hcode _ _ X.warmed
  have h3 : (Cond.initialized y.cls).before a A.U = true := hinit _ _ X.warmed
  have h4 : A.cells + (headSpec ws rm).room.cells ≤ R.cells := by rw [show (headSpec ws rm).room.cells = mc from hrc]; exact hp.1
  have h5 : A.slots + (headSpec ws rm).room.slots ≤ R.slots := by rw [show (headSpec ws rm).room.slots = ms from hrs]; exact hp.2.1
  have hPc : Pc a (A.U.calling g mk a) := hblind _ _ _ _ hp.2.2
  obtain ⟨U, Ls, c0, s0⟩ := A
  dsimp only [Pt.U, Pt.locs, Pt.cells, Pt.slots] at h1 h2 h3 h4 h5 X hn hPc ⊢
  obtain ⟨m9, methY, cY, hn9, hmY, hcY, -, hlY, -⟩ := Cond.codeWith_spec h2
  cases Option.some.inj (hn9.symm.trans hn)
  obtain ⟨kY, hkY, -⟩ := className_of_methodNamed hn
  have hinitY : kY.init = .initialized := Cond.initialized_spec (findClass_of_methodNamed hn) hkY h3
  have h : At U g.method c below := by rw [hg]; exact X.here
  have hlocals9 : W9 + (maxL + 11) + (headSpec ws rm).room.locals ≤ R.locals := hlocals
  have happ : (headSpec ws rm).appliesLoose y e.platform (U.calling g mk a) = true :=
    Spec.appliesLoose_calling (g := g) h hdg hn hkY hinitY
      (X.room_calling (g := g) (R' := (headSpec ws rm).room) hsize hmY hcY hframes (by rw [hlY]; omega) h4 h5) h1
  obtain ⟨mid, hmid⟩ := h.above
  have hfr : (U.setTop g).frames = (.java g :: mid) ++ below := by rw [State.frames_setTop' g h.top, hmid]; rfl
  obtain ⟨o, s₂, hsteps, -, hend, hq⟩ := Steps.callFree hM p X.admits X.cas X.clock (acts := []) hfr happ hPc trivial
  have hq' : vx_Q Qc XC mc ms free a (U.calling g mk a) o s₂ := hq
  rw [State.frames_setTop' g h.top] at hend
  obtain ⟨g₀, hg0⟩ := Option.isSome_iff_exists.mp h.top
  obtain ⟨r, hr⟩ := State.topJava?_eq_some.mp hg0
  have hr' : (({ U with heap := s₂.heap, slotsUsed := s₂.slotsUsed } : State).setVm s₂.vm).frames = .java g₀ :: r := hr
  rcases hq' with ⟨hqc, L, hfe, hL⟩ | ⟨q, rfl, E, ce, L, hx, hce, hcv, hcl, hW₂, hsm, hL⟩
  · obtain ⟨⟨v, rfl⟩, hW₂, e2, q2, q3, q4, q5, q6⟩ := id hfe
    have e3 : s₂ = ({ (U.calling g mk a).setFrames s₂.frames with heap := s₂.heap, slotsUsed := s₂.slotsUsed } : State).setVm s₂.vm := by
      have : s₂ = ({ s₂ with vm := (U.calling g mk a).vm } : State).setVm s₂.vm := rfl
      rw [e2] at this
      exact this
    obtain ⟨c₂, i₂, len₂, hc₂, hd₂, hf₂⟩ := hend
    have hW' : U.WarmedH s₂.vm := hW₂
    have hcc : c₂ = c := by
      have h1 : s₂.code? g.method = U.code? g.method := by
        rw [State.code?_eq, State.code?_eq, hW'.alike.method?]
      exact Option.some.inj (hc₂.symm.trans (h1.trans h.code))
    subst hcc
    have hlen : len₂ = len := by rw [hdg] at hd₂; cases hd₂; rfl
    subst hlen
    have hs₂ : s₂ = (({ U with heap := s₂.heap, slotsUsed := s₂.slotsUsed } : State).setVm s₂.vm).setTop { g with pc := g.pc + len₂, stack := v.toList ++ g.stack } := by
      refine e3.trans ?_
      rw [hf₂, State.calling_eq h.top, State.setFrames_setFrames, State.setTop_of_frames _ hr', hr]
      rfl
    have hsame : U.sameButNew ({ U with heap := s₂.heap, slotsUsed := s₂.slotsUsed } : State) L mc ms := by
      refine ⟨?_, q2, q3, q4, q5, q6⟩
      obtain ⟨t, ht, -⟩ := State.frames_cons hr
      show ({ U with heap := s₂.heap, slotsUsed := s₂.slotsUsed } : State) = { U.setFrames U.frames with heap := s₂.heap, slotsUsed := s₂.slotsUsed }
      rw [State.setFrames_self ht]
    subst hg
    refine Or.inl ⟨v, ⟨(({ U with heap := s₂.heap, slotsUsed := s₂.slotsUsed } : State).setVm s₂.vm), Ls ++ L, c0 + mc, s0 + ms⟩,
      ⟨X.admits, X.cas, X.clock, X.frames, X.room, X.hears, X.method, X.code, (X.here.setHeapUsed s₂.heap s₂.slotsUsed).setVm hW'.alike, X.tail, State.WarmedH.trans X.warmed hW', X.limits, X.bytes, X.same.trans (hsame.setVm s.vm)⟩,
      ⟨g, mk, s₂, L, rfl, rfl, hqc, rfl, hL, rfl, rfl⟩, ?_⟩
    show Steps p.tables e below _ ((({ U with heap := s₂.heap, slotsUsed := s₂.slotsUsed } : State).setVm s₂.vm).setTop { g with pc := g.pc + len₂, stack := v.toList ++ g.stack })
    rw [← hs₂]
    exact hsteps
  · obtain ⟨e2, q2, q3, q4, q5, q6⟩ := id hsm
    have e3 : s₂ = ({ (U.calling g mk a).setFrames s₂.frames with heap := s₂.heap, slotsUsed := s₂.slotsUsed } : State).setVm s₂.vm := by
      have : s₂ = ({ s₂ with vm := (U.calling g mk a).vm } : State).setVm s₂.vm := rfl
      rw [e2] at this
      exact this
    have hf₂ : s₂.frames = .throwing q :: .java g :: U.frames.tail := hend
    have hW' : U.WarmedH s₂.vm := hW₂
    have hs₂ : s₂ = ((({ U with heap := s₂.heap, slotsUsed := s₂.slotsUsed } : State).setVm s₂.vm).setTop g).pushFrame (.throwing q) := by
      refine e3.trans ?_
      rw [hf₂, State.calling_eq h.top, State.setFrames_setFrames, State.pushFrame, State.frames_setTop _ hr', State.setTop_of_frames _ hr', State.setFrames_setFrames, hr]
      rfl
    have hsame : U.sameButNew ({ U with heap := s₂.heap, slotsUsed := s₂.slotsUsed } : State) L mc ms := by
      refine ⟨?_, q2, q3, q4, q5, q6⟩
      obtain ⟨t, ht, -⟩ := State.frames_cons hr
      show ({ U with heap := s₂.heap, slotsUsed := s₂.slotsUsed } : State) = { U.setFrames U.frames with heap := s₂.heap, slotsUsed := s₂.slotsUsed }
      rw [State.setFrames_self ht]
    subst hg
    refine Or.inr ⟨q, ⟨(({ U with heap := s₂.heap, slotsUsed := s₂.slotsUsed } : State).setVm s₂.vm), Ls ++ L, c0 + mc, s0 + ms⟩,
      ⟨X.admits, X.cas, X.clock, X.frames, X.room, X.hears, X.method, X.code, (X.here.setHeapUsed s₂.heap s₂.slotsUsed).setVm hW'.alike, X.tail, State.WarmedH.trans X.warmed hW', X.limits, X.bytes, X.same.trans (hsame.setVm s.vm)⟩,
      ⟨g, mk, s₂, L, E, ce, rfl, rfl, hx, hce, hcv, hcl, rfl, hL, rfl, rfl⟩, ?_⟩
    show Steps p.tables e below _ (((({ U with heap := s₂.heap, slotsUsed := s₂.slotsUsed } : State).setVm s₂.vm).setTop g).pushFrame (.throwing q))
    rw [← hs₂]
    exact hsteps
end
variable {p : Program} {l : Launch} {e : Env} {R : Room} {s : State} {m : MethodId} {args : Array Value} {below : List Frame} {meth : Method} {c : Code} {T : State} {H : Heap} {locs : List Loc} {cells slots : Nat}
theorem vx_callVX (X : Stand p l e R s m args below meth c T locs cells slots) (hexec : p.tables.exec = Jvm.exec) {own C : String} {index : Nat} {y : MethodName} {bytes : ByteArray} {maxL : Nat} {ret : Option FieldType} {hh : List (Nat × Nat × Nat × Nat)}
    (hown : s.vm.findClass own = some m.cls) (hlink : (Cond.methodLink own index y).before args s = true) (hinst : (Cond.instanceMethod y).before args s = true) (hsel : (Cond.selects C y y).before args s = true)
    (hcode : (Cond.codeWith y bytes maxL ret hh).before args s = true) (hy : y.cls ≠ "java/lang/invoke/MethodHandle" ∧ y.cls ≠ "java/lang/invoke/VarHandle")
    {W9 : Nat} {Pre : Pt → Array Value → Prop} {Post : Pt → Array Value → Option Value → Pt → Prop} {PostX : Pt → Array Value → Addr → Pt → Prop} (hK : vx_Back l R p e below s args y 3 W9 Pre Post PostX)
    {b : Addr} {cellB : Cell} (hcell : T.heap[b]? = some cellB) (hobj : cellB.vm.isStatics = false) (hcls : s.vm.findClass C = some cellB.cls)
    {g : JFrame} (hg : g.method = m) (hsize : g.locals.size = c.maxLocals) {argsL rest : List Value} (hlen : ∀ sig, parseMethodDescriptor y.desc = some sig → argsL.length = sig.parameters.length)
    (hstack : g.stack = argsL.reverse ++ .ref b :: rest) (hW : 2 * g.monitorRoom + (rest.map fun v => v.category).sum ≤ W9) (hdg : decode c.code g.pc = .ok (.invokevirtual index, 3))
    (hpre : ∀ vm₁, s.WarmedH vm₁ → Pre ⟨T.setVm vm₁, locs, cells, slots⟩ (Value.ref b :: argsL).toArray) :
    (∃ (v : Option Value) (vm₁ : Vm) (B : Pt), s.WarmedH vm₁ ∧ Stand p l e R s m args below meth c B.U B.locs B.cells B.slots ∧ Post ⟨T.setVm vm₁, locs, cells, slots⟩ (Value.ref b :: argsL).toArray v B ∧
      ∀ target, Steps p.tables e below (B.U.setTop { g with pc := g.pc + 3, stack := v.toList ++ rest }) target → Steps p.tables e below (T.setTop g) target) ∨
    (∃ (q : Addr) (vm₁ : Vm) (B : Pt), s.WarmedH vm₁ ∧ Stand p l e R s m args below meth c B.U B.locs B.cells B.slots ∧ PostX ⟨T.setVm vm₁, locs, cells, slots⟩ (Value.ref b :: argsL).toArray q B ∧
      Steps p.tables e below (T.setTop g) ((B.U.setTop { g with stack := rest }).pushFrame (.throwing q))) := by
  obtain ⟨mk, methM, hnamed, hmethM, hstM, habM⟩ := Cond.instanceMethod_spec hinst
  obtain ⟨m8, methM', cM, hn8, hmethM', -, -, -, -, -, -, hsigM⟩ := Cond.codeWith_spec hcode
  cases Option.some.inj (hn8.symm.trans hnamed)
  cases hmethM.symm.trans hmethM'
  obtain ⟨c2, r2, m2, q1, q2, q3, q4, kP, hkP, hkPi⟩ := Cond.selects_spec hsel
  cases hcls.symm.trans q1
  cases (State.methodFound?_of_named hnamed hy).symm.trans q2
  cases hnamed.symm.trans q3
  have hselP : selectMethod e.platform s.vm cellB.cls mk = .method mk := by rw [Launch.admits_selectMethod X.admits]; exact q4
  obtain ⟨vm₁, X₁, hstep₁⟩ := X.invokevirtual hexec hown hlink hnamed hmethM hstM hkP hkPi hy (a := b) (cell := cellB) hcell
    (fun z h => by rw [h] at hobj; cases hobj) hselP hmethM habM hkP hkPi (g := g) hg (argsL := argsL) (rest := rest) (hlen _ hsigM) hstack hdg
  rcases hK m meth c ⟨T.setVm vm₁, locs, cells, slots⟩ { g with stack := rest } (.invokevirtual index) mk (Value.ref b :: argsL).toArray X₁ hg hsize hdg hW (X₁.named hnamed) (hpre vm₁ X₁.warmed) with ⟨v, B, X', hpost, hsteps⟩ | ⟨q, B, X', hpost, hsteps⟩
  · exact Or.inl ⟨v, vm₁, B, X₁.warmed, X', hpost, fun target h => hstep₁ _ fun acts => by rw [doInvoke_state]; exact hsteps.trans h⟩
  · exact Or.inr ⟨q, vm₁, B, X₁.warmed, X', hpost, hstep₁ _ fun acts => by rw [doInvoke_state]; exact hsteps⟩
theorem vx_callSX (X : Stand p l e R s m args below meth c T locs cells slots) (hexec : p.tables.exec = Jvm.exec) {own : String} {index : Nat} {y : MethodName} {bytes : ByteArray} {maxL : Nat} {ret : Option FieldType} {hh : List (Nat × Nat × Nat × Nat)}
    (hown : s.vm.findClass own = some m.cls) (hlink : (Cond.methodLink own index y).before args s = true) (hstat : (Cond.static y).before args s = true) (hinit : (Cond.initialized y.cls).before args s = true)
    (hcode : (Cond.codeWith y bytes maxL ret hh).before args s = true) (hy : y.cls ≠ "java/lang/invoke/MethodHandle" ∧ y.cls ≠ "java/lang/invoke/VarHandle")
    {W9 : Nat} {Pre : Pt → Array Value → Prop} {Post : Pt → Array Value → Option Value → Pt → Prop} {PostX : Pt → Array Value → Addr → Pt → Prop} (hK : vx_Back l R p e below s args y 3 W9 Pre Post PostX)
    {g : JFrame} (hg : g.method = m) (hsize : g.locals.size = c.maxLocals) {argsL rest : List Value} (hlen : ∀ sig, parseMethodDescriptor y.desc = some sig → argsL.length = sig.parameters.length)
    (hstack : g.stack = argsL.reverse ++ rest) (hW : 2 * g.monitorRoom + (rest.map fun v => v.category).sum ≤ W9) (hdg : decode c.code g.pc = .ok (.invokestatic index, 3))
    (hpre : ∀ vm₁, s.WarmedH vm₁ → Pre ⟨T.setVm vm₁, locs, cells, slots⟩ argsL.toArray) :
    (∃ (v : Option Value) (vm₁ : Vm) (B : Pt), s.WarmedH vm₁ ∧ Stand p l e R s m args below meth c B.U B.locs B.cells B.slots ∧ Post ⟨T.setVm vm₁, locs, cells, slots⟩ argsL.toArray v B ∧
      ∀ target, Steps p.tables e below (B.U.setTop { g with pc := g.pc + 3, stack := v.toList ++ rest }) target → Steps p.tables e below (T.setTop g) target) ∨
    (∃ (q : Addr) (vm₁ : Vm) (B : Pt), s.WarmedH vm₁ ∧ Stand p l e R s m args below meth c B.U B.locs B.cells B.slots ∧ PostX ⟨T.setVm vm₁, locs, cells, slots⟩ argsL.toArray q B ∧
      Steps p.tables e below (T.setTop g) ((B.U.setTop { g with stack := rest }).pushFrame (.throwing q))) := by
  obtain ⟨mk, methM, cM, hnamed, hmethM, -, -, -, -, -, -, hsigM⟩ := Cond.codeWith_spec hcode
  have hstatic : methM.isStatic = true := Cond.static_spec hnamed hmethM hstat
  obtain ⟨kP, hkP, -⟩ := className_of_methodNamed hnamed
  have hinitP : kP.init = .initialized := Cond.initialized_spec (findClass_of_methodNamed hnamed) hkP hinit
  obtain ⟨vm₁, X₁, hstep₁⟩ := X.invokestatic hexec hown hlink hnamed hmethM hstatic hkP hinitP hy (g := g) hg (argsL := argsL) (rest := rest) (hlen _ hsigM) hstack hdg
  rcases hK m meth c ⟨T.setVm vm₁, locs, cells, slots⟩ { g with stack := rest } (.invokestatic index) mk argsL.toArray X₁ hg hsize hdg hW (X₁.named hnamed) (hpre vm₁ X₁.warmed) with ⟨v, B, X', hpost, hsteps⟩ | ⟨q, B, X', hpost, hsteps⟩
  · exact Or.inl ⟨v, vm₁, B, X₁.warmed, X', hpost, fun target h => hstep₁ _ fun acts => by rw [doInvoke_state]; exact hsteps.trans h⟩
  · exact Or.inr ⟨q, vm₁, B, X₁.warmed, X', hpost, hstep₁ _ fun acts => by rw [doInvoke_state]; exact hsteps⟩
theorem vx_callVW (X : Stand p l e R s m args below meth c T locs cells slots) (hexec : p.tables.exec = Jvm.exec) {own C : String} {index : Nat} {y : MethodName} {bytes : ByteArray} {maxL : Nat} {ret : Option FieldType} {hh : List (Nat × Nat × Nat × Nat)}
    (hown : s.vm.findClass own = some m.cls) (hlink : (Cond.methodLink own index y).before args s = true) (hinst : (Cond.instanceMethod y).before args s = true) (hsel : (Cond.selects C y y).before args s = true)
    (hcode : (Cond.codeWith y bytes maxL ret hh).before args s = true) (hy : y.cls ≠ "java/lang/invoke/MethodHandle" ∧ y.cls ≠ "java/lang/invoke/VarHandle")
    {W9 : Nat} {Pre : Pt → Array Value → Prop} {Post : Pt → Array Value → Option Value → Pt → Prop} (hK : Back l R p e below s args y 3 W9 Pre Post)
    {b : Addr} {cellB : Cell} (hcell : T.heap[b]? = some cellB) (hobj : cellB.vm.isStatics = false) (hcls : s.vm.findClass C = some cellB.cls)
    {g : JFrame} (hg : g.method = m) (hsize : g.locals.size = c.maxLocals) {argsL rest : List Value} (hlen : ∀ sig, parseMethodDescriptor y.desc = some sig → argsL.length = sig.parameters.length)
    (hstack : g.stack = argsL.reverse ++ .ref b :: rest) (hW : 2 * g.monitorRoom + (rest.map fun v => v.category).sum ≤ W9) (hdg : decode c.code g.pc = .ok (.invokevirtual index, 3))
    (hpre : ∀ vm₁, s.WarmedH vm₁ → Pre ⟨T.setVm vm₁, locs, cells, slots⟩ (Value.ref b :: argsL).toArray) :
    ∃ (v : Option Value) (vm₁ : Vm) (B : Pt), s.WarmedH vm₁ ∧ Stand p l e R s m args below meth c B.U B.locs B.cells B.slots ∧ Post ⟨T.setVm vm₁, locs, cells, slots⟩ (Value.ref b :: argsL).toArray v B ∧
      ∀ target, Steps p.tables e below (B.U.setTop { g with pc := g.pc + 3, stack := v.toList ++ rest }) target → Steps p.tables e below (T.setTop g) target := by
  obtain ⟨mk, methM, hnamed, hmethM, hstM, habM⟩ := Cond.instanceMethod_spec hinst
  obtain ⟨m8, methM', cM, hn8, hmethM', -, -, -, -, -, -, hsigM⟩ := Cond.codeWith_spec hcode
  cases Option.some.inj (hn8.symm.trans hnamed)
  cases hmethM.symm.trans hmethM'
  obtain ⟨c2, r2, m2, q1, q2, q3, q4, kP, hkP, hkPi⟩ := Cond.selects_spec hsel
  cases hcls.symm.trans q1
  cases (State.methodFound?_of_named hnamed hy).symm.trans q2
  cases hnamed.symm.trans q3
  have hselP : selectMethod e.platform s.vm cellB.cls mk = .method mk := by rw [Launch.admits_selectMethod X.admits]; exact q4
  obtain ⟨vm₁, X₁, hstep₁⟩ := X.invokevirtual hexec hown hlink hnamed hmethM hstM hkP hkPi hy (a := b) (cell := cellB) hcell
    (fun z h => by rw [h] at hobj; cases hobj) hselP hmethM habM hkP hkPi (g := g) hg (argsL := argsL) (rest := rest) (hlen _ hsigM) hstack hdg
  obtain ⟨v, B, X', hpost, hsteps⟩ := hK m meth c ⟨T.setVm vm₁, locs, cells, slots⟩ { g with stack := rest } (.invokevirtual index) mk (Value.ref b :: argsL).toArray X₁ hg hsize hdg hW (X₁.named hnamed) (hpre vm₁ X₁.warmed)
  exact ⟨v, vm₁, B, X₁.warmed, X', hpost, fun target h => hstep₁ _ fun acts => by rw [doInvoke_state]; exact hsteps.trans h⟩
abbrev vx_CVW (R : Room) (s : State) (args : Array Value) (own C : String) (index : Nat) (y : MethodName) (bytes : ByteArray) (maxL : Nat) (ret : Option FieldType) (hh : List (Nat × Nat × Nat × Nat)) (ws : List Cond) (rm : Room) (mc ms n : Nat) : Prop :=
  (rm.cells = mc ∧ rm.slots = ms ∧ rm.frames + 1 ≤ R.frames ∧ 8 + (maxL + 11) + rm.locals ≤ R.locals ∧ (∀ w ∈ ws, ∀ (a' : Array Value) (U : State), s.WarmedH U.vm → w.before a' U = true) ∧ Cond.codeWith y bytes maxL ret hh ∈ ws) ∧
  (Cond.codeWith y bytes maxL ret hh).before args s = true ∧ (Cond.initialized y.cls).before args s = true ∧ (y.cls ≠ "java/lang/invoke/MethodHandle" ∧ y.cls ≠ "java/lang/invoke/VarHandle") ∧
  (∀ sig, parseMethodDescriptor y.desc = some sig → n = sig.parameters.length) ∧ (Cond.methodLink own index y).before args s = true ∧ (Cond.instanceMethod y).before args s = true ∧ (Cond.selects C y y).before args s = true
theorem vx_cwVW {own C : String} {index maxL mc ms : Nat} {y : MethodName} {bytes : ByteArray} {ret : Option FieldType} {hh : List (Nat × Nat × Nat × Nat)} {Ts ws ws' : List Cond} {rm : Room} (n : Nat) (ht : ∀ w ∈ Ts, w.before args s = true) (hT : GoodIn Ts (wsV own index C y ws)) (hw : ws = Cond.codeWith y bytes maxL ret hh :: ws') (hrc : rm.cells = mc) (hrs : rm.slots = ms)
    (hd : y.cls = C ∧ y.cls ≠ "java/lang/invoke/MethodHandle" ∧ y.cls ≠ "java/lang/invoke/VarHandle" ∧ (parseMethodDescriptor y.desc).map (fun d => d.parameters.length) = some n) (hR : rm.frames + 1 ≤ R.frames ∧ 8 + (maxL + 11) + rm.locals ≤ R.locals) :
    vx_CVW R s args own C index y bytes maxL ret hh ws rm mc ms n := by
  obtain ⟨hC, hd⟩ := hd
  subst hC
  have ok : ∀ w ∈ wsV own index y.cls y ws, w.before args s = true := fun w h => ht w (hT w h).1
  have hG : GoodIn Ts ws := fun w h => hT w (by unfold wsV; exact List.mem_append_right _ h)
  have hc : Cond.codeWith y bytes maxL ret hh ∈ ws := by rw [hw]; exact List.mem_cons_self
  refine ⟨⟨hrc, hrs, hR.1, hR.2, pay_in ht hG, hc⟩, ht _ (hG _ hc).1, ok _ (by simp [wsV]), ⟨hd.1, hd.2.1⟩, fun sig h => ?_, ok _ (by simp [wsV]), ok _ (by simp [wsV]), ok _ (by simp [wsV])⟩
  have h2 := hd.2.2
  rw [h] at h2
  exact (Option.some.inj h2).symm
theorem vx_runVW {y : MethodName} {bytes cc : ByteArray} {maxL nL mc ms n index : Nat} {ret : Option FieldType} {hh : List (Nat × Nat × Nat × Nat)} {ws : List Cond} {rm : Room} {Pc : Array Value → State → Prop} {Qc : Array Value → State → Outcome → State → Prop} {free : Addr → Prop} {Ts : List Cond} {own C : String} {b : Addr} {As rest : List Value} {g : JFrame}
    (S : CallFix p m c cc nL s args Ts own) (hM : Met l y ws rm Pc Qc mc ms free) (cw : vx_CVW R s args own C index y bytes maxL ret hh ws rm mc ms n) (hp : PreV s H C b Pc As)
    (hg : g.method = m) (hn : As.length = n) (hsize : g.locals.size = nL) (hstack : g.stack = As.reverse ++ .ref b :: rest) (hW : 2 * g.monitorRoom + (rest.map fun v => v.category).sum ≤ 8) (hdg : decode cc g.pc = .ok (.invokevirtual index, 3)) (hf : cells + mc ≤ R.cells ∧ slots + ms ≤ R.slots) :
    va_Run p l e R s m args below meth c H locs cells slots mc ms g rest (Qc (Value.ref b :: As).toArray) free := by
  obtain ⟨⟨hrc, hrs, hfr, hlo, hws, hcw⟩, hcode, hini, hy, hlen, hl, hin, hse⟩ := cw
  have hK : Back l R p e below s args y 3 8 (PreOf R mc ms Pc) (PostOf Qc mc ms free) := va_backW (hh := hh) (bytes := bytes) (maxL := maxL) (ret := ret) hM hp.1 hrc hrs hfr hlo hws hcw (fun a' U hW => word_at hW (Or.inl (by first | rfl | simp [Cond.onTables, Cond.keeps, Cond.steady])) hini)
  obtain ⟨hx, hb, hml, ho, -⟩ := S
  obtain ⟨-, ⟨cellB, hcB, hoB, hclB⟩, hPc⟩ := hp
  intro T hT X
  obtain ⟨v, vm₁, ⟨U', l2, c2, s2⟩, hW₁, X', ⟨g', mk, t, L, e1, e2, hq, h1, hL, h2, h3⟩, st⟩ := vx_callVW X hx (C := C) (hh := hh) (bytes := bytes) (maxL := maxL) (ret := ret) ho hl hin hse hcode hy hK (by rw [hT]; exact hcB) hoB hclB hg (hsize.trans hml.symm) (argsL := As) (rest := rest) (fun sig h => hn.trans (hlen sig h)) hstack hW (by rw [hb]; exact hdg)
    (fun vm₁ hW₁ => ⟨hf.1, hf.2, hPc (T.setVm vm₁) hT hW₁⟩)
  dsimp only [Pt.U, Pt.locs, Pt.cells, Pt.slots] at X' e1 e2 h1 h2 h3 st
  subst h1; subst h2; subst h3
  exact ⟨v, (T.setVm vm₁).calling g' mk (Value.ref b :: As).toArray, t, U', L, hT, X', hL, e1, e2, hq, st⟩
section
variable {y : MethodName} {bytes cc : ByteArray} {maxL nL mc ms n index : Nat} {ret : Option FieldType} {ws : List Cond} {rm : Room} {Pc : Array Value → State → Prop} {Qc : Array Value → State → Outcome → State → Prop} {XC : String → State → State → Prop} {free : Addr → Prop} {Ts : List Cond} {own C : String} {b : Addr} {As rest : List Value} {g : JFrame}
theorem vx_runVX {hh : List (Nat × Nat × Nat × Nat)} (S : CallFix p m c cc nL s args Ts own) (hM : vx_Met l y ws rm Pc Qc XC mc ms free) (cw : vx_CVW R s args own C index y bytes maxL ret hh ws rm mc ms n) (hp : PreV s H C b Pc As)
    (hg : g.method = m) (hn : As.length = n) (hsize : g.locals.size = nL) (hstack : g.stack = As.reverse ++ .ref b :: rest) (hW : 2 * g.monitorRoom + (rest.map fun v => v.category).sum ≤ 8) (hdg : decode cc g.pc = .ok (.invokevirtual index, 3)) (hf : cells + mc ≤ R.cells ∧ slots + ms ≤ R.slots) :
    vx_Run p l e R s m args below meth c H locs cells slots mc ms g rest (Qc (Value.ref b :: As).toArray) XC free := by
  obtain ⟨⟨hrc, hrs, hfr, hlo, hws, hcw⟩, hcode, hini, hy, hlen, hl, hin, hse⟩ := cw
  have hK : vx_Back l R p e below s args y 3 8 (PreOf R mc ms Pc) (PostOf Qc mc ms free) (vx_Post XC mc ms free) := vx_backW (hh := hh) (bytes := bytes) (maxL := maxL) (ret := ret) hM hp.1 hrc hrs hfr hlo hws hcw (fun a' U hW => word_at hW (Or.inl (by first | rfl | simp [Cond.onTables, Cond.keeps, Cond.steady])) hini)
  obtain ⟨hx, hb, hml, ho, -⟩ := S
  obtain ⟨-, ⟨cellB, hcB, hoB, hclB⟩, hPc⟩ := hp
  intro T hT X
  rcases vx_callVX X hx (C := C) (hh := hh) (bytes := bytes) (maxL := maxL) (ret := ret) ho hl hin hse hcode hy hK (by rw [hT]; exact hcB) hoB hclB hg (hsize.trans hml.symm) (argsL := As) (rest := rest) (fun sig h => hn.trans (hlen sig h)) hstack hW (by rw [hb]; exact hdg)
    (fun vm₁ hW₁ => ⟨hf.1, hf.2, hPc (T.setVm vm₁) hT hW₁⟩) with ⟨v, vm₁, ⟨U', l2, c2, s2⟩, hW₁, X', ⟨g', mk, t, L, e1, e2, hq, h1, hL, h2, h3⟩, st⟩ | ⟨q, vm₁, ⟨U', l2, c2, s2⟩, hW₁, X', ⟨g', mk, t, L, E, ce, e1, e2, hq, hce, hcv, hcl, h1, hL, h2, h3⟩, st⟩
  · dsimp only [Pt.U, Pt.locs, Pt.cells, Pt.slots] at X' e1 e2 h1 h2 h3 st
    subst h1; subst h2; subst h3
    exact Or.inl ⟨v, (T.setVm vm₁).calling g' mk (Value.ref b :: As).toArray, t, U', L, hT, X', hL, e1, e2, hq, st⟩
  · dsimp only [Pt.U, Pt.locs, Pt.cells, Pt.slots] at X' e1 e2 h1 h2 h3 st hcl
    subst h1; subst h2; subst h3
    exact Or.inr ⟨q, (T.setVm vm₁).calling g' mk (Value.ref b :: As).toArray, t, U', L, E, ce, hT, X', hL, e1, e2, hq, hce, hcv, vx_cls hW₁ hcl, st⟩
theorem vx_runSX {hh : List (Nat × Nat × Nat × Nat)} (S : CallFix p m c cc nL s args Ts own) (hM : vx_Met l y ws rm Pc Qc XC mc ms free) (cw : vx_CSW R s args own index y bytes maxL ret hh ws rm mc ms n) (hp : PreS s H Pc As)
    (hg : g.method = m) (hn : As.length = n) (hsize : g.locals.size = nL) (hstack : g.stack = As.reverse ++ rest) (hW : 2 * g.monitorRoom + (rest.map fun v => v.category).sum ≤ 8) (hdg : decode cc g.pc = .ok (.invokestatic index, 3)) (hf : cells + mc ≤ R.cells ∧ slots + ms ≤ R.slots) :
    vx_Run p l e R s m args below meth c H locs cells slots mc ms g rest (Qc As.toArray) XC free := by
  obtain ⟨⟨hrc, hrs, hfr, hlo, hws, hcw⟩, hcode, hini, hy, hlen, hl, hstt⟩ := cw
  have hK : vx_Back l R p e below s args y 3 8 (PreOf R mc ms Pc) (PostOf Qc mc ms free) (vx_Post XC mc ms free) := vx_backW (hh := hh) (bytes := bytes) (maxL := maxL) (ret := ret) hM hp.1 hrc hrs hfr hlo hws hcw (fun a' U hW => word_at hW (Or.inl (by first | rfl | simp [Cond.onTables, Cond.keeps, Cond.steady])) hini)
  obtain ⟨hx, hb, hml, ho, -⟩ := S
  intro T hT X
  rcases vx_callSX X hx (hh := hh) (bytes := bytes) (maxL := maxL) (ret := ret) ho hl hstt hini hcode hy hK hg (hsize.trans hml.symm) (argsL := As) (rest := rest) (fun sig h => hn.trans (hlen sig h)) hstack hW (by rw [hb]; exact hdg)
    (fun vm₁ hW₁ => ⟨hf.1, hf.2, hp.2 (T.setVm vm₁) hT hW₁⟩) with ⟨v, vm₁, ⟨U', l2, c2, s2⟩, hW₁, X', ⟨g', mk, t, L, e1, e2, hq, h1, hL, h2, h3⟩, st⟩ | ⟨q, vm₁, ⟨U', l2, c2, s2⟩, hW₁, X', ⟨g', mk, t, L, E, ce, e1, e2, hq, hce, hcv, hcl, h1, hL, h2, h3⟩, st⟩
  · dsimp only [Pt.U, Pt.locs, Pt.cells, Pt.slots] at X' e1 e2 h1 h2 h3 st
    subst h1; subst h2; subst h3
    exact Or.inl ⟨v, (T.setVm vm₁).calling g' mk As.toArray, t, U', L, hT, X', hL, e1, e2, hq, st⟩
  · dsimp only [Pt.U, Pt.locs, Pt.cells, Pt.slots] at X' e1 e2 h1 h2 h3 st hcl
    subst h1; subst h2; subst h3
    exact Or.inr ⟨q, (T.setVm vm₁).calling g' mk As.toArray, t, U', L, E, ce, hT, X', hL, e1, e2, hq, hce, hcv, vx_cls hW₁ hcl, st⟩
end
end VXH
theorem vx_ofWH {l : Launch} {y : MethodName} {ws ws' : List Cond} {rm : Room} {Pc : Array Value → State → Prop} {Qc : Array Value → State → Outcome → State → Prop} {XC : String → State → State → Prop} {mc ms : Nat} {free : Addr → Prop} {cc : ByteArray} {maxL : Nat} {ret : Option FieldType} {hh : List (Nat × Nat × Nat × Nat)}
    (hy : plainName y.cls = true) (hw : ws = Cond.codeWith y cc maxL ret hh :: ws')
    (body : ∀ p e s m args below meth c s₁, BodyLoose p l y (headSpec ws rm) cc maxL ret e s m args below meth c s₁ → c.maxLocals = maxL → Pc args s →
      W p l e (headSpec ws rm).room s m args below meth c s.heap [] 0 0 (vx_MQ below Qc XC args s mc ms free) (entryFrame m args maxL)) : vx_Met l y ws rm Pc Qc XC mc ms free := by
  refine MetFree.of_bodyS (code := cc) (maxLocals := maxL) (ret := ret) hy ?_ ?_
  · intro args s m h hn
    obtain ⟨m9, meth, c, hn9, h1, h2, h3, h4, -, h5, h6, -⟩ := Cond.codeWith_spec (atoms_spec (ws := ws) h _ (by rw [hw]; exact List.mem_cons_self))
    cases hn.symm.trans hn9
    exact ⟨meth, c, h1, h2, h3, h4, h5, h6⟩
  · intro p e s m args below meth c s₁ B hml hP _
    have hh0 : s₁.heap = s.heap := by rw [B.state]; rfl
    obtain ⟨t, a1, o, b1, b2, b3⟩ := body p e s m args below meth c s₁ B hml hP s₁ hh0 (Stand.of_body B)
    exact ⟨t, o, a1, b1, b2, b3⟩
/-! ===== END ===== -/
end
section
/-! THE CORE. Memory of numbers (rd, rl); the shape of the heap is fixed (kd, rf). Rn: a method's body at pc, with locals lv, stack st, memory M, comes to its end with v and M'. Ms: a method's contract. -/
abbrev Mem : Type := (Nat → Nat → Int32) × (Nat → Nat → Int64)
def rd (M : Mem) (c i : Nat) : Int32 := M.1 c i
def rl (M : Mem) (c i : Nat) : Int64 := M.2 c i
def wr (M : Mem) (c i : Nat) (v : Int32) : Mem := (fun a j => if a = c ∧ j = i then v else M.1 a j, M.2)
def wl (M : Mem) (c i : Nat) (v : Int64) : Mem := (M.1, fun a j => if a = c ∧ j = i then v else M.2 a j)
def z0 : Mem := (fun _ _ => 0, fun _ _ => 0)
/-- launch, classes' numbers, arrays' classes, addresses -/
abbrev Gl : Type := Launch × va_G × (Nat → ClassId) × (Nat → Nat)
def cv (ad : Nat → Nat) : Value → Value
  | .ref a => .ref (ad a)
  | v => v
def fvs (g : Gl) (M : Mem) (ci c : Nat) : List Value := (List.range (nfl ci)).map (fun j => if frq ci j = true then Value.ref (g.2.2.2 (rf c j)) else .int (rd M c j))
def cnc (g : Gl) (M : Mem) (c : Nat) : va_E := match kd c with
  | (0, ci) => .inr (ci, fvs g M ci c)
  | (1, n) => .inl (g.2.2.1 1, n, .inl (rd M c))
  | (2, n) => .inl (g.2.2.1 2, n, .inl (rd M c))
  | (3, n) => .inl (g.2.2.1 3, n, .inl (rd M c))
  | (4, n) => .inl (g.2.2.1 4, n, .inr (.inl (rl M c)))
  | (k, n) => .inl (g.2.2.1 k, n, .inr (.inr (.inr (.inr (fun j => some (g.2.2.2 (rf c j)))))))
def wld (g : Gl) (M : Mem) : va_W := (List.range NC).map (fun c => (g.2.2.2 c, cnc g M c))
def tyG (g : Gl) : List (ClassId × FieldType) := [(g.2.2.1 1, .int), (g.2.2.1 2, .byte), (g.2.2.1 3, .boolean), (g.2.2.1 4, .long), (g.2.2.1 5, .array .int), (g.2.2.1 6, .object "LostMuseum$State"), (g.2.2.1 7, .object "LostMuseum$Timeline")]
theorem wld_get (g : Gl) (M : Mem) {c : Nat} (h : c < NC) : (wld g M)[c]? = some (g.2.2.2 c, cnc g M c) := by
  simp [wld, h]
theorem wld_getI {g : Gl} {M : Mem} {c : Nat} {q : Nat × va_E} (h : (wld g M)[c]? = some q) : c < NC ∧ q = (g.2.2.2 c, cnc g M c) := by
  have h1 : c < NC := by
    have := (List.getElem?_eq_some_iff.mp h).1
    simpa [wld] using this
  exact ⟨h1, Option.some.inj (h.symm.trans (wld_get g M h1))⟩
theorem wld_D {g : Gl} {M M' : Mem} {A : Nat → Prop} (h : va_D A (wld g M)) : va_D A (wld g M') := by
  refine ⟨fun i j p q hi hj e => ?_, fun k q hk => ?_⟩
  · obtain ⟨h1, rfl⟩ := wld_getI hi
    obtain ⟨h2, rfl⟩ := wld_getI hj
    exact h.1 i j _ _ (wld_get g M h1) (wld_get g M h2) e
  · obtain ⟨h1, rfl⟩ := wld_getI hk
    exact h.2 k (_, cnc g M k) (wld_get g M h1)
theorem wld_set {g : Gl} {M M' : Mem} {c : Nat} {e : va_E} (hc : c < NC) (he : cnc g M' c = e) (ho : ∀ a, a ≠ c → cnc g M' a = cnc g M a) : (wld g M).set c (g.2.2.2 c, e) = wld g M' := by
  apply List.ext_getElem?
  intro i
  by_cases hi : i < NC
  · rw [wld_get g M' hi]
    by_cases hic : i = c
    · subst hic
      rw [List.getElem?_set_self (by simpa [wld] using hi), he]
    · rw [List.getElem?_set_ne (Ne.symm hic), wld_get g M hi, ho i hic]
  · rw [List.getElem?_eq_none (by simp [wld]; omega), List.getElem?_eq_none (by simp [wld]; omega)]
theorem cnc_wr_ne (g : Gl) (M : Mem) {c a : Nat} (i : Nat) (v : Int32) (h : a ≠ c) : cnc g (wr M c i v) a = cnc g M a := by
  have e : ∀ j, rd (wr M c i v) a j = rd M a j := fun j => by simp [rd, wr, h]
  have e' : rd (wr M c i v) a = rd M a := funext e
  have e2 : rl (wr M c i v) a = rl M a := rfl
  unfold cnc fvs
  rw [e', e2]
theorem cnc_wl_ne (g : Gl) (M : Mem) {c a : Nat} (i : Nat) (v : Int64) (h : a ≠ c) : cnc g (wl M c i v) a = cnc g M a := by
  have e' : rl (wl M c i v) a = rl M a := funext fun j => by simp [rl, wl, h]
  have e2 : rd (wl M c i v) a = rd M a := rfl
  unfold cnc fvs
  rw [e', e2]
theorem cnc_o {g : Gl} {M : Mem} {c ci : Nat} (h : kd c = (0, ci)) : cnc g M c = .inr (ci, fvs g M ci c) := by unfold cnc; rw [h]; rfl
theorem cnc_1 {g : Gl} {M : Mem} {c n : Nat} (h : kd c = (1, n)) : cnc g M c = .inl (g.2.2.1 1, n, .inl (rd M c)) := by unfold cnc; rw [h]; rfl
theorem cnc_2 {g : Gl} {M : Mem} {c n : Nat} (h : kd c = (2, n)) : cnc g M c = .inl (g.2.2.1 2, n, .inl (rd M c)) := by unfold cnc; rw [h]; rfl
theorem cnc_3 {g : Gl} {M : Mem} {c n : Nat} (h : kd c = (3, n)) : cnc g M c = .inl (g.2.2.1 3, n, .inl (rd M c)) := by unfold cnc; rw [h]; rfl
theorem cnc_4 {g : Gl} {M : Mem} {c n : Nat} (h : kd c = (4, n)) : cnc g M c = .inl (g.2.2.1 4, n, .inr (.inl (rl M c))) := by unfold cnc; rw [h]; rfl
theorem cnc_5 {g : Gl} {M : Mem} {c n : Nat} (h : kd c = (5, n)) : cnc g M c = .inl (g.2.2.1 5, n, .inr (.inr (.inr (.inr (fun j => some (g.2.2.2 (rf c j))))))) := by unfold cnc; rw [h]; rfl
theorem cnc_6 {g : Gl} {M : Mem} {c n : Nat} (h : kd c = (6, n)) : cnc g M c = .inl (g.2.2.1 6, n, .inr (.inr (.inr (.inr (fun j => some (g.2.2.2 (rf c j))))))) := by unfold cnc; rw [h]; rfl
theorem cnc_7 {g : Gl} {M : Mem} {c n : Nat} (h : kd c = (7, n)) : cnc g M c = .inl (g.2.2.1 7, n, .inr (.inr (.inr (.inr (fun j => some (g.2.2.2 (rf c j))))))) := by unfold cnc; rw [h]; rfl
/-- what else must hold of the start: texts and the like, that no method changes -/
def Xtra (g : Gl) (A : Nat → Prop) (U : State) (H : Heap) : Prop :=
  g.1.stackTraces = false ∧ vk_S nTX lenT bytT (fun i => g.2.2.2 (1000000 + i)) (fun i => g.2.2.2 (2000000 + i)) A U H ∧ va_Z "java/lang/String" "COMPACT_STRINGS" "Z" (.int 1) A U H ∧ (∀ q ∈ strT, vk_R q.1 q.2.1 q.2.2.1 (g.2.2.2 (1000000 + q.2.2.2)) U) ∧ vx_Zq Bundle.tN "UNASSIGNED_STACK" Bundle.steD A U H ∧ vx_Zq Bundle.tN "SUPPRESSED_SENTINEL" Bundle.listD A U H ∧ (∀ q ∈ nestT, va_Nw (.methodLinkNest q.1 q.2.1 q.2.2.1 q.2.2.2) U) ∧ (∀ q ∈ castT, va_Nw (.castable q.1 q.2) U) ∧ (∀ q ∈ declT, va_Nw (.declares q) U) ∧ va_Nc "java/lang/IllegalArgumentException" "java/util/NoSuchElementException" U ∧ (va_Z "jdk/internal/util/Preconditions" "SIOOBE_FORMATTER" "Ljava/util/function/BiFunction;" .null A U H ∨ va_Z "jdk/internal/util/Preconditions" "SIOOBE_FORMATTER" "Ljava/util/function/BiFunction;" (.ref (g.2.2.2 3000000)) A U H)
theorem Nc_moved {C T : String} {u U : State} (hvm : u.vm.Alike U.vm) (h : va_Nc C T u) : va_Nc C T U := h.moved hvm
theorem Xtra.warm {g : Gl} {A : Nat → Prop} {s U : State} {H : Heap} (hW : s.WarmedH U.vm) (h : Xtra g A s H) : Xtra g A U H :=
  ⟨h.1, h.2.1.moved hW.alike, h.2.2.1.moved hW.alike, fun q hq => (h.2.2.2.1 q hq).warm hW, h.2.2.2.2.1.moved hW.alike, h.2.2.2.2.2.1.moved hW.alike, fun q hq => (h.2.2.2.2.2.2.1 q hq).warmM hW, fun q hq => (h.2.2.2.2.2.2.2.1 q hq).warmC hW, fun q hq => (h.2.2.2.2.2.2.2.2.1 q hq).warmD hW, Nc_moved hW.alike h.2.2.2.2.2.2.2.2.2.1, h.2.2.2.2.2.2.2.2.2.2.imp (fun z => z.moved hW.alike) (fun z => z.moved hW.alike)⟩
theorem Xtra.same {g : Gl} {A : Nat → Prop} {s U : State} {H : Heap} (hW : U.vm = s.vm) (h : Xtra g A s H) : Xtra g A U H := by
  have ha : s.vm.Alike U.vm := by rw [hW]; exact Vm.Alike.refl _
  exact ⟨h.1, h.2.1.moved ha, h.2.2.1.moved ha, fun q hq => (h.2.2.2.1 q hq).same hW, h.2.2.2.2.1.moved ha, h.2.2.2.2.2.1.moved ha, fun q hq => (h.2.2.2.2.2.2.1 q hq).same rfl hW.symm, fun q hq => (h.2.2.2.2.2.2.2.1 q hq).same rfl hW.symm, fun q hq => (h.2.2.2.2.2.2.2.2.1 q hq).same rfl hW.symm, Nc_moved ha h.2.2.2.2.2.2.2.2.2.1, h.2.2.2.2.2.2.2.2.2.2.imp (fun z => z.moved ha) (fun z => z.moved ha)⟩
theorem Xtra.kept {g : Gl} {A : Nat → Prop} {s : State} {H H1 : Heap} (h : Xtra g A s H) (hq : ∀ a : Nat, a < H.size → ¬ A a → H1[a]? = H[a]?) : Xtra g A s H1 :=
  ⟨h.1, h.2.1.kept hq, h.2.2.1.kept hq, h.2.2.2.1, h.2.2.2.2.1.kept hq, h.2.2.2.2.2.1.kept hq, h.2.2.2.2.2.2.1, h.2.2.2.2.2.2.2.1, h.2.2.2.2.2.2.2.2.1, h.2.2.2.2.2.2.2.2.2.1, h.2.2.2.2.2.2.2.2.2.2.imp (fun z => z.kept hq) (fun z => z.kept hq)⟩
theorem Xtra.narrow {g : Gl} {A B : Nat → Prop} {s : State} {H : Heap} (h : Xtra g A s H) (hAB : ∀ q, B q → A q) : Xtra g B s H :=
  ⟨h.1, h.2.1.narrow hAB, h.2.2.1.narrow hAB, h.2.2.2.1, h.2.2.2.2.1.narrow hAB, h.2.2.2.2.2.1.narrow hAB, h.2.2.2.2.2.2.1, h.2.2.2.2.2.2.2.1, h.2.2.2.2.2.2.2.2.1, h.2.2.2.2.2.2.2.2.2.1, h.2.2.2.2.2.2.2.2.2.2.imp (fun z => z.narrow hAB) (fun z => z.narrow hAB)⟩
/-- own class, name, code, locals, answer -/
abbrev MD : Type := Nat × MethodName × ByteArray × Nat × Option FieldType
def rmk (k : Nat) : Room := { frames := k, cells := 0, slots := 0, locals := 64 * k }
def CxF (g : Gl) (md : MD) (p : Program) (s : State) (m : MethodId) (sa : Array Value) (meth : Method) (c : Code) (A : Nat → Prop) : Prop :=
  p.tables.exec = Jvm.exec ∧ c.code = md.2.2.1 ∧ meth.sig.returnType = md.2.2.2.2 ∧ c.maxLocals = md.2.2.2.1 ∧ s.vm.findClass (ownN md.1) = some m.cls ∧ (∀ w ∈ WD, w.before sa s = true) ∧ va_K g.2.1 classes (tyG g) s ∧ va_D A (wld g z0) ∧ (∀ q, s.heap.size ≤ q → A q) ∧ meth.locks = false ∧ Xtra g A s s.heap
def lvh (g : Gl) (n : Nat) (ls : Array Slot) (lv : List (Option Value)) : Prop := ls.size = n ∧ lv_wf ls ∧ ∀ (i : Nat) (v : Value), lv[i]? = some (some v) → ls[i]? = some (.val (cv g.2.2.2 v))
def QcO (g : Gl) (A : Nat → Prop) (v : Option Value) (M' : Mem) : Array Value → State → Outcome → State → Prop := fun _ st oc t => (oc = .returned (v.map (cv g.2.2.2)) ∧ va_P g.2.1 classes (wld g M') t.heap ∧ va_K g.2.1 classes (tyG g) t) ∧ va_F A st t
/-- how a method ends: returned (what, memory), or threw (the name, memory) -/
abbrev Oc : Type := (Option Value × Mem) ⊕ (String × Mem)
def EndOK (g : Gl) (md : MD) (o : Oc) (p : Program) (e : Env) (s : State) (m : MethodId) (sa : Array Value) (below : List Frame) (meth : Method) (c : Code) (A : Nat → Prop) (R : Room) (b1 b2 : Nat) (Q : State → Prop) : Prop :=
  ∀ (pc : Nat) (ls : Array Slot) (H : Heap) (locs : List Loc) (n1 n2 : Nat), n1 ≤ b1 → n2 ≤ b2 → va_S A s.heap H locs → match o with
    | .inl (v, M') => va_P g.2.1 classes (wld g M') H → (∀ (x : Int32) (ty : FieldType), v = some (.int x) → md.2.2.2.2 = some ty → narrow ty (.int x) = .int x → decode md.2.2.1 pc = .ok (.ireturn, 1) → W p g.1 e R s m sa below meth c H locs n1 n2 Q (F0 m pc ls [.int x])) ∧ (∀ x : Int64, v = some (.long x) → md.2.2.2.2 = some .long → decode md.2.2.1 pc = .ok (.lreturn, 1) → W p g.1 e R s m sa below meth c H locs n1 n2 Q (F0 m pc ls [.long x])) ∧ (v = none → md.2.2.2.2 = none → decode md.2.2.1 pc = .ok (.return_, 1) → W p g.1 e R s m sa below meth c H locs n1 n2 Q (F0 m pc ls []))
    | .inr (E, M') => ∀ (rest : List Value) (ce : Cell) (q9 : Addr), va_P g.2.1 classes (wld g M') H → H[q9]? = some ce → ce.vm = .none → s.vm.findClass E = some ce.cls → vx_W p g.1 e R s m sa below meth c H locs n1 n2 Q (F0 m pc ls rest) q9
def Rc (g : Gl) (k cx : Nat) (md : MD) (pc : Nat) (lv : List (Option Value)) (st : List Value) (M : Mem) (o : Oc) : Prop :=
  ∀ (p : Program) (e : Env) (s : State) (m : MethodId) (sa : Array Value) (below : List Frame) (meth : Method) (c : Code) (H : Heap) (locs : List Loc) (A : Nat → Prop) (ls : Array Slot) (R : Room) (n1 n2 b1 b2 : Nat) (Q : State → Prop),
    CxF g md p s m sa meth c A → va_P g.2.1 classes (wld g M) H → va_S A s.heap H locs → lvh g md.2.2.2.1 ls lv →
    (k ≤ R.frames ∧ 64 * k ≤ R.locals ∧ n1 + cx ≤ R.cells ∧ n2 + 6 * cx ≤ R.slots ∧ n1 + cx ≤ b1 ∧ n2 + 6 * cx ≤ b2) → EndOK g md o p e s m sa below meth c A R b1 b2 Q →
    W p g.1 e R s m sa below meth c H locs n1 n2 Q (F0 m pc ls (st.map (cv g.2.2.2)))
abbrev Rn (g : Gl) (k : Nat) (md : MD) (pc : Nat) (lv : List (Option Value)) (st : List Value) (M : Mem) (v : Option Value) (M' : Mem) : Prop := Rc g k 0 md pc lv st M (.inl (v, M'))
def PcO (g : Gl) (args : List Value) (M : Mem) (sz : Nat) : Array Value → State → Prop := va_Pc (args.map (cv g.2.2.2)) (fun U => U.heap.size = sz ∧ va_P g.2.1 classes (wld g M) U.heap ∧ va_K g.2.1 classes (tyG g) U ∧ va_D (fun _ => True) (wld g z0) ∧ Xtra g (va_A (wld g M) sz) U U.heap)
def wsM (md : MD) : List Cond := .code md.2.1 md.2.2.1 md.2.2.2.1 md.2.2.2.2 :: WD
def Ms (g : Gl) (k : Nat) (md : MD) (args : List Value) (M : Mem) (v : Option Value) (M' : Mem) : Prop :=
  ∀ sz : Nat, Met g.1 md.2.1 (wsM md) (rmk k) (PcO g args M sz) (QcO g (va_A (wld g M) sz) v M') 0 0 (va_A (wld g M) sz)
/-- what the tables say of a method -/
def okM (md : MD) : Prop := plainName md.2.1.cls = true ∧ md.2.1.cls = ownN md.1 ∧ md.2.2.2.1 ≤ 45 ∧ Cond.code md.2.1 md.2.2.1 md.2.2.2.1 md.2.2.2.2 ∈ WD
/-- the locals at the entry -/
def ent (n : Nat) : List Value → List (Option Value)
  | [] => List.replicate n none
  | v :: vs => if v.category = 2 then some v :: none :: ent (n - 2) vs else some v :: ent (n - 1) vs
def wid : List Value → Nat
  | [] => 0
  | v :: vs => (if v.category = 2 then 2 else 1) + wid vs
theorem cv_cat (ad : Nat → Nat) (v : Value) : (cv ad v).category = v.category := by cases v <;> rfl
theorem lg_wid (ad : Nat → Nat) (vs : List Value) : (lg_sl (vs.map (cv ad))).length = wid vs := by
  induction vs with
  | nil => rfl
  | cons v vs ih =>
    simp only [lg_sl, List.map_cons, List.flatMap_cons, List.length_append, cv_cat] at *
    rw [ih]
    show _ = (if v.category = 2 then 2 else 1) + wid vs
    by_cases h : v.category = 2 <;> simp [h]
theorem ent_args (ad : Nat → Nat) (vs : List Value) : ∀ (n i : Nat) (j : Nat) (v : Value), (ent n vs)[j]? = some (some v) → (i + j, cv ad v) ∈ lv_args i (vs.map (cv ad)) := by
  induction vs with
  | nil =>
    intro n i j v h
    simp only [ent] at h
    rw [List.getElem?_replicate] at h
    split at h <;> cases h
  | cons w vs ih =>
    intro n i j v h
    unfold ent at h
    simp only [List.map_cons, lv_args, cv_cat]
    by_cases hc : w.category = 2
    · rw [if_pos hc] at h
      simp only [hc, if_true]
      match j, h with
      | 0, h =>
        have : w = v := by simpa using h
        subst this
        exact List.mem_cons_self
      | 1, h => simp at h
      | j + 2, h =>
        refine List.mem_cons_of_mem _ ?_
        have h' : (ent (n - 2) vs)[j]? = some (some v) := by simpa using h
        have := ih (n - 2) (i + 2) j v h'
        rwa [show i + 2 + j = i + (j + 2) by omega] at this
    · rw [if_neg hc] at h
      simp only [hc, if_false]
      match j, h with
      | 0, h =>
        have : w = v := by simpa using h
        subst this
        exact List.mem_cons_self
      | j + 1, h =>
        refine List.mem_cons_of_mem _ ?_
        have h' : (ent (n - 1) vs)[j]? = some (some v) := by simpa using h
        have := ih (n - 1) (i + 1) j v h'
        rwa [show i + 1 + j = i + (j + 1) by omega] at this
theorem Ms.of {g : Gl} {k : Nat} {md : MD} {args : List Value} {M M' : Mem} {v : Option Value} (hok : okM md) (hw : wid args ≤ md.2.2.2.1) (h : Rn g k md 0 (ent md.2.2.2.1 args) [] M v M') : Ms g k md args M v M' := by
  intro sz
  refine Met.ofW (cc := md.2.2.1) (maxL := md.2.2.2.1) (ret := md.2.2.2.2) hok.1 rfl ?_
  intro p e s m sa below meth c s₁ B hml hv
  obtain ⟨rfl, hsz, hP, hK, hD0, hX⟩ := hv
  subst hsz
  have hts : ∀ w ∈ WD, w.before (args.map (cv g.2.2.2)).toArray s = true := fun w hw => atoms_spec (ws := wsM md) B.pre w (List.mem_cons_of_mem _ hw)
  have hown : s.vm.findClass (ownN md.1) = some m.cls := by rw [← hok.2.1]; exact findClass_of_methodNamed B.named
  have hl := lv_entry (args.map (cv g.2.2.2)) (n := md.2.2.2.1) (by rw [lg_wid]; exact hw)
  rw [lg_entry_eq]
  generalize (lg_sl (args.map (cv g.2.2.2)) ++ List.replicate (md.2.2.2.1 - (lg_sl (args.map (cv g.2.2.2))).length) Slot.unset).toArray = ls at hl ⊢
  have hD : va_D (va_A (wld g M) s.heap.size) (wld g z0) := wld_D (M := M) ((wld_D (M' := M) hD0).self)
  refine h p e s m _ below meth c s.heap [] (va_A (wld g M) s.heap.size) ls (rmk k) 0 0 0 0 _ ⟨B.exec, B.bytes, B.returns, hml, hown, hts, hK, hD, fun q h => Or.inr h, B.notSynchronized, hX⟩ hP va_S.rf
    ⟨hl.1, hl.2.1, fun i v hv => by
      have := ent_args g.2.2.2 args _ 0 i v hv
      rw [Nat.zero_add] at this
      exact hl.2.2 _ this⟩ ⟨Nat.le_refl _, Nat.le_refl _, Nat.le_refl _, Nat.le_refl _, Nat.le_refl _, Nat.le_refl _⟩ ?_
  intro pc ls H locs n1 n2 hn1 hn2 hS
  have e1 : n1 = 0 := Nat.le_zero.mp hn1
  have e2 : n2 = 0 := Nat.le_zero.mp hn2
  subst e1
  subst e2
  intro hP
  refine ⟨fun x ty hv ht hx hd => ?_, fun x hv ht hd => ?_, fun hv ht hd => ?_⟩
  · subst hv
    exact W.zret (v := x) B.exec B.bytes (B.returns.trans ht) hx (fun t ht hW => ⟨⟨rfl, by rw [ht]; exact hP, va_K.moved hW.alike hK⟩, hS.F ht⟩) hS.2.2 hd B.notSynchronized
  · subst hv
    exact W.lret (v := x) B.exec B.bytes (B.returns.trans ht) (fun t ht hW => ⟨⟨rfl, by rw [ht]; exact hP, va_K.moved hW.alike hK⟩, hS.F ht⟩) hS.2.2 hd B.notSynchronized
  · subst hv
    exact W.vret B.exec B.bytes (B.returns.trans ht) (fun t ht hW => ⟨⟨rfl, by rw [ht]; exact hP, va_K.moved hW.alike hK⟩, hS.F ht⟩) hS.2.2 hd B.notSynchronized
end
section
/-! ONE INSTRUCTION: each kind as a rule of Rn, out of the kit's rows -/
section RI
variable {g : Gl} {k : Nat} {md : MD} {pc : Nat} {lv : List (Option Value)} {st : List Value} {M : Mem} {o : Oc} {cx : Nat}
theorem R_iconst {n : Int} (hd : decode md.2.2.1 pc = .ok (.iconst n, 1))  (hn : Rc g k cx md (pc + 1) lv (.int (Int32.ofInt n) :: st) M o) : Rc g k cx md pc lv (st) M o := fun p e s m sa below meth c H locs A ls R n1 n2 b1 b2 Q hC hP hS hl hR hQ => lv_iconst hC.1 hC.2.1 hd rfl (hn p e s m sa below meth c H locs A ls R n1 n2 b1 b2 Q hC hP hS hl hR hQ)
theorem R_bipush {n : Int} (hd : decode md.2.2.1 pc = .ok (.bipush n, 2))  (hn : Rc g k cx md (pc + 2) lv (.int (Int8.ofInt n).toInt32 :: st) M o) : Rc g k cx md pc lv (st) M o := fun p e s m sa below meth c H locs A ls R n1 n2 b1 b2 Q hC hP hS hl hR hQ => lv_bipush hC.1 hC.2.1 hd rfl (hn p e s m sa below meth c H locs A ls R n1 n2 b1 b2 Q hC hP hS hl hR hQ)
theorem R_sipush {n : Int} (hd : decode md.2.2.1 pc = .ok (.sipush n, 3))  (hn : Rc g k cx md (pc + 3) lv (.int (Int16.ofInt n).toInt32 :: st) M o) : Rc g k cx md pc lv (st) M o := fun p e s m sa below meth c H locs A ls R n1 n2 b1 b2 Q hC hP hS hl hR hQ => lv_sipush hC.1 hC.2.1 hd rfl (hn p e s m sa below meth c H locs A ls R n1 n2 b1 b2 Q hC hP hS hl hR hQ)
theorem R_lconst {n : Fin 2} (hd : decode md.2.2.1 pc = .ok (.lconst n, 1))  (hn : Rc g k cx md (pc + 1) lv (.long (Int64.ofNat (n : Nat)) :: st) M o) : Rc g k cx md pc lv (st) M o := fun p e s m sa below meth c H locs A ls R n1 n2 b1 b2 Q hC hP hS hl hR hQ => lv_lconst hC.1 hC.2.1 hd rfl (hn p e s m sa below meth c H locs A ls R n1 n2 b1 b2 Q hC hP hS hl hR hQ)
theorem R_iadd {x y : Int32} (hd : decode md.2.2.1 pc = .ok (.iadd, 1))  (hn : Rc g k cx md (pc + 1) lv (.int (x + y) :: st) M o) : Rc g k cx md pc lv (.int y :: .int x :: st) M o := fun p e s m sa below meth c H locs A ls R n1 n2 b1 b2 Q hC hP hS hl hR hQ => lv_iadd hC.1 hC.2.1 hd (hn p e s m sa below meth c H locs A ls R n1 n2 b1 b2 Q hC hP hS hl hR hQ)
theorem R_isub {x y : Int32} (hd : decode md.2.2.1 pc = .ok (.isub, 1))  (hn : Rc g k cx md (pc + 1) lv (.int (x - y) :: st) M o) : Rc g k cx md pc lv (.int y :: .int x :: st) M o := fun p e s m sa below meth c H locs A ls R n1 n2 b1 b2 Q hC hP hS hl hR hQ => lv_isub hC.1 hC.2.1 hd (hn p e s m sa below meth c H locs A ls R n1 n2 b1 b2 Q hC hP hS hl hR hQ)
theorem R_imul {x y : Int32} (hd : decode md.2.2.1 pc = .ok (.imul, 1))  (hn : Rc g k cx md (pc + 1) lv (.int (x * y) :: st) M o) : Rc g k cx md pc lv (.int y :: .int x :: st) M o := fun p e s m sa below meth c H locs A ls R n1 n2 b1 b2 Q hC hP hS hl hR hQ => lv_imul hC.1 hC.2.1 hd (hn p e s m sa below meth c H locs A ls R n1 n2 b1 b2 Q hC hP hS hl hR hQ)
theorem R_iand {x y : Int32} (hd : decode md.2.2.1 pc = .ok (.iand, 1))  (hn : Rc g k cx md (pc + 1) lv (.int (x &&& y) :: st) M o) : Rc g k cx md pc lv (.int y :: .int x :: st) M o := fun p e s m sa below meth c H locs A ls R n1 n2 b1 b2 Q hC hP hS hl hR hQ => lv_iand hC.1 hC.2.1 hd (hn p e s m sa below meth c H locs A ls R n1 n2 b1 b2 Q hC hP hS hl hR hQ)
theorem R_ior {x y : Int32} (hd : decode md.2.2.1 pc = .ok (.ior, 1))  (hn : Rc g k cx md (pc + 1) lv (.int (x ||| y) :: st) M o) : Rc g k cx md pc lv (.int y :: .int x :: st) M o := fun p e s m sa below meth c H locs A ls R n1 n2 b1 b2 Q hC hP hS hl hR hQ => lv_ior hC.1 hC.2.1 hd (hn p e s m sa below meth c H locs A ls R n1 n2 b1 b2 Q hC hP hS hl hR hQ)
theorem R_ixor {x y : Int32} (hd : decode md.2.2.1 pc = .ok (.ixor, 1))  (hn : Rc g k cx md (pc + 1) lv (.int (x ^^^ y) :: st) M o) : Rc g k cx md pc lv (.int y :: .int x :: st) M o := fun p e s m sa below meth c H locs A ls R n1 n2 b1 b2 Q hC hP hS hl hR hQ => lv_ixor hC.1 hC.2.1 hd (hn p e s m sa below meth c H locs A ls R n1 n2 b1 b2 Q hC hP hS hl hR hQ)
theorem R_ishl {x y : Int32} (hd : decode md.2.2.1 pc = .ok (.ishl, 1))  (hn : Rc g k cx md (pc + 1) lv (.int (x <<< (y &&& 31)) :: st) M o) : Rc g k cx md pc lv (.int y :: .int x :: st) M o := fun p e s m sa below meth c H locs A ls R n1 n2 b1 b2 Q hC hP hS hl hR hQ => lv_ishl hC.1 hC.2.1 hd (hn p e s m sa below meth c H locs A ls R n1 n2 b1 b2 Q hC hP hS hl hR hQ)
theorem R_ishr {x y : Int32} (hd : decode md.2.2.1 pc = .ok (.ishr, 1))  (hn : Rc g k cx md (pc + 1) lv (.int (x >>> (y &&& 31)) :: st) M o) : Rc g k cx md pc lv (.int y :: .int x :: st) M o := fun p e s m sa below meth c H locs A ls R n1 n2 b1 b2 Q hC hP hS hl hR hQ => lv_ishr hC.1 hC.2.1 hd (hn p e s m sa below meth c H locs A ls R n1 n2 b1 b2 Q hC hP hS hl hR hQ)
theorem R_iushr {x y : Int32} (hd : decode md.2.2.1 pc = .ok (.iushr, 1))  (hn : Rc g k cx md (pc + 1) lv (.int ((x.toUInt32 >>> (y.toUInt32 &&& Int32.toUInt32 31)).toInt32) :: st) M o) : Rc g k cx md pc lv (.int y :: .int x :: st) M o := fun p e s m sa below meth c H locs A ls R n1 n2 b1 b2 Q hC hP hS hl hR hQ => lv_iushr hC.1 hC.2.1 hd rfl (hn p e s m sa below meth c H locs A ls R n1 n2 b1 b2 Q hC hP hS hl hR hQ)
theorem R_ineg {x : Int32} (hd : decode md.2.2.1 pc = .ok (.ineg, 1))  (hn : Rc g k cx md (pc + 1) lv (.int (-x) :: st) M o) : Rc g k cx md pc lv (.int x :: st) M o := fun p e s m sa below meth c H locs A ls R n1 n2 b1 b2 Q hC hP hS hl hR hQ => lv_ineg hC.1 hC.2.1 hd (hn p e s m sa below meth c H locs A ls R n1 n2 b1 b2 Q hC hP hS hl hR hQ)
theorem R_idiv {x y : Int32} (hd : decode md.2.2.1 pc = .ok (.idiv, 1)) (h0 : ¬ y = 0) (hn : Rc g k cx md (pc + 1) lv (.int (x / y) :: st) M o) : Rc g k cx md pc lv (.int y :: .int x :: st) M o := fun p e s m sa below meth c H locs A ls R n1 n2 b1 b2 Q hC hP hS hl hR hQ => lv_idiv hC.1 hC.2.1 hd h0 (hn p e s m sa below meth c H locs A ls R n1 n2 b1 b2 Q hC hP hS hl hR hQ)
theorem R_irem {x y : Int32} (hd : decode md.2.2.1 pc = .ok (.irem, 1)) (h0 : ¬ y = 0) (hn : Rc g k cx md (pc + 1) lv (.int (x - x / y * y) :: st) M o) : Rc g k cx md pc lv (.int y :: .int x :: st) M o := fun p e s m sa below meth c H locs A ls R n1 n2 b1 b2 Q hC hP hS hl hR hQ => lv_irem hC.1 hC.2.1 hd h0 (hn p e s m sa below meth c H locs A ls R n1 n2 b1 b2 Q hC hP hS hl hR hQ)
theorem R_ldiv {x y : Int64} (hd : decode md.2.2.1 pc = .ok (.ldiv, 1)) (h0 : ¬ y = 0) (hn : Rc g k cx md (pc + 1) lv (.long (x / y) :: st) M o) : Rc g k cx md pc lv (.long y :: .long x :: st) M o := fun p e s m sa below meth c H locs A ls R n1 n2 b1 b2 Q hC hP hS hl hR hQ => lv_ldiv hC.1 hC.2.1 hd h0 (hn p e s m sa below meth c H locs A ls R n1 n2 b1 b2 Q hC hP hS hl hR hQ)
theorem R_lrem {x y : Int64} (hd : decode md.2.2.1 pc = .ok (.lrem, 1)) (h0 : ¬ y = 0) (hn : Rc g k cx md (pc + 1) lv (.long (x - x / y * y) :: st) M o) : Rc g k cx md pc lv (.long y :: .long x :: st) M o := fun p e s m sa below meth c H locs A ls R n1 n2 b1 b2 Q hC hP hS hl hR hQ => lv_lrem hC.1 hC.2.1 hd h0 (hn p e s m sa below meth c H locs A ls R n1 n2 b1 b2 Q hC hP hS hl hR hQ)
theorem R_ladd {x y : Int64} (hd : decode md.2.2.1 pc = .ok (.ladd, 1))  (hn : Rc g k cx md (pc + 1) lv (.long (x + y) :: st) M o) : Rc g k cx md pc lv (.long y :: .long x :: st) M o := fun p e s m sa below meth c H locs A ls R n1 n2 b1 b2 Q hC hP hS hl hR hQ => lv_ladd hC.1 hC.2.1 hd (hn p e s m sa below meth c H locs A ls R n1 n2 b1 b2 Q hC hP hS hl hR hQ)
theorem R_lsub {x y : Int64} (hd : decode md.2.2.1 pc = .ok (.lsub, 1))  (hn : Rc g k cx md (pc + 1) lv (.long (x - y) :: st) M o) : Rc g k cx md pc lv (.long y :: .long x :: st) M o := fun p e s m sa below meth c H locs A ls R n1 n2 b1 b2 Q hC hP hS hl hR hQ => lv_lsub hC.1 hC.2.1 hd (hn p e s m sa below meth c H locs A ls R n1 n2 b1 b2 Q hC hP hS hl hR hQ)
theorem R_lmul {x y : Int64} (hd : decode md.2.2.1 pc = .ok (.lmul, 1))  (hn : Rc g k cx md (pc + 1) lv (.long (x * y) :: st) M o) : Rc g k cx md pc lv (.long y :: .long x :: st) M o := fun p e s m sa below meth c H locs A ls R n1 n2 b1 b2 Q hC hP hS hl hR hQ => lv_lmul hC.1 hC.2.1 hd (hn p e s m sa below meth c H locs A ls R n1 n2 b1 b2 Q hC hP hS hl hR hQ)
theorem R_land {x y : Int64} (hd : decode md.2.2.1 pc = .ok (.land, 1))  (hn : Rc g k cx md (pc + 1) lv (.long (x &&& y) :: st) M o) : Rc g k cx md pc lv (.long y :: .long x :: st) M o := fun p e s m sa below meth c H locs A ls R n1 n2 b1 b2 Q hC hP hS hl hR hQ => lv_land hC.1 hC.2.1 hd (hn p e s m sa below meth c H locs A ls R n1 n2 b1 b2 Q hC hP hS hl hR hQ)
theorem R_lneg {x : Int64} (hd : decode md.2.2.1 pc = .ok (.lneg, 1))  (hn : Rc g k cx md (pc + 1) lv (.long (-x) :: st) M o) : Rc g k cx md pc lv (.long x :: st) M o := fun p e s m sa below meth c H locs A ls R n1 n2 b1 b2 Q hC hP hS hl hR hQ => lv_lneg hC.1 hC.2.1 hd (hn p e s m sa below meth c H locs A ls R n1 n2 b1 b2 Q hC hP hS hl hR hQ)
theorem R_lcmp {x y : Int64} (hd : decode md.2.2.1 pc = .ok (.lcmp, 1))  (hn : Rc g k cx md (pc + 1) lv (.int (lg_cmp x y) :: st) M o) : Rc g k cx md pc lv (.long y :: .long x :: st) M o := fun p e s m sa below meth c H locs A ls R n1 n2 b1 b2 Q hC hP hS hl hR hQ => W.lcmp hC.1 hC.2.1 hd (hn p e s m sa below meth c H locs A ls R n1 n2 b1 b2 Q hC hP hS hl hR hQ)
theorem R_i2l {x : Int32} (hd : decode md.2.2.1 pc = .ok (.i2l, 1))  (hn : Rc g k cx md (pc + 1) lv (.long x.toInt64 :: st) M o) : Rc g k cx md pc lv (.int x :: st) M o := fun p e s m sa below meth c H locs A ls R n1 n2 b1 b2 Q hC hP hS hl hR hQ => lv_i2l hC.1 hC.2.1 hd rfl (hn p e s m sa below meth c H locs A ls R n1 n2 b1 b2 Q hC hP hS hl hR hQ)
theorem R_i2b {x : Int32} (hd : decode md.2.2.1 pc = .ok (.i2b, 1))  (hn : Rc g k cx md (pc + 1) lv (.int x.toInt8.toInt32 :: st) M o) : Rc g k cx md pc lv (.int x :: st) M o := fun p e s m sa below meth c H locs A ls R n1 n2 b1 b2 Q hC hP hS hl hR hQ => lv_i2b hC.1 hC.2.1 hd rfl (hn p e s m sa below meth c H locs A ls R n1 n2 b1 b2 Q hC hP hS hl hR hQ)
theorem R_dup {w : Value} (hd : decode md.2.2.1 pc = .ok (.dup, 1)) (hw : w.category = 1) (hn : Rc g k cx md (pc + 1) lv (w :: w :: st) M o) : Rc g k cx md pc lv (w :: st) M o := fun p e s m sa below meth c H locs A ls R n1 n2 b1 b2 Q hC hP hS hl hR hQ => lv_dup hC.1 hC.2.1 hd (by rw [cv_cat]; exact hw) (hn p e s m sa below meth c H locs A ls R n1 n2 b1 b2 Q hC hP hS hl hR hQ)
theorem R_dup2 {w z : Value} (hd : decode md.2.2.1 pc = .ok (.dup2, 1)) (hw : w.category = 1) (hz : z.category = 1) (hn : Rc g k cx md (pc + 1) lv (w :: z :: w :: z :: st) M o) : Rc g k cx md pc lv (w :: z :: st) M o := fun p e s m sa below meth c H locs A ls R n1 n2 b1 b2 Q hC hP hS hl hR hQ => lv_dup2_11 hC.1 hC.2.1 hd (by rw [cv_cat]; exact hw) (by rw [cv_cat]; exact hz) (hn p e s m sa below meth c H locs A ls R n1 n2 b1 b2 Q hC hP hS hl hR hQ)
theorem R_iload_n {n : Fin 4} {x : Int32} (hd : decode md.2.2.1 pc = .ok (.iload_n n, 1)) (h : lv[n.val]? = some (some (.int x))) (hn : Rc g k cx md (pc + 1) lv (.int x :: st) M o) : Rc g k cx md pc lv st M o := fun p e s m sa below meth c H locs A ls R n1 n2 b1 b2 Q hC hP hS hl hR hQ => lv_iload_n hC.1 hC.2.1 hd rfl (hl.2.2 _ _ h) (hn p e s m sa below meth c H locs A ls R n1 n2 b1 b2 Q hC hP hS hl hR hQ)
theorem R_iload {n : Nat} {x : Int32} (hd : decode md.2.2.1 pc = .ok (.iload n, 2)) (h : lv[n]? = some (some (.int x))) (hn : Rc g k cx md (pc + 2) lv (.int x :: st) M o) : Rc g k cx md pc lv st M o := fun p e s m sa below meth c H locs A ls R n1 n2 b1 b2 Q hC hP hS hl hR hQ => lv_iload hC.1 hC.2.1 hd (hl.2.2 _ _ h) (hn p e s m sa below meth c H locs A ls R n1 n2 b1 b2 Q hC hP hS hl hR hQ)
theorem R_lload_n {n : Fin 4} {x : Int64} (hd : decode md.2.2.1 pc = .ok (.lload_n n, 1)) (h : lv[n.val]? = some (some (.long x))) (hn : Rc g k cx md (pc + 1) lv (.long x :: st) M o) : Rc g k cx md pc lv st M o := fun p e s m sa below meth c H locs A ls R n1 n2 b1 b2 Q hC hP hS hl hR hQ => lv_lload_n hC.1 hC.2.1 hd rfl (hl.2.2 _ _ h) (hn p e s m sa below meth c H locs A ls R n1 n2 b1 b2 Q hC hP hS hl hR hQ)
theorem R_lload {n : Nat} {x : Int64} (hd : decode md.2.2.1 pc = .ok (.lload n, 2)) (h : lv[n]? = some (some (.long x))) (hn : Rc g k cx md (pc + 2) lv (.long x :: st) M o) : Rc g k cx md pc lv st M o := fun p e s m sa below meth c H locs A ls R n1 n2 b1 b2 Q hC hP hS hl hR hQ => lv_lload hC.1 hC.2.1 hd (hl.2.2 _ _ h) (hn p e s m sa below meth c H locs A ls R n1 n2 b1 b2 Q hC hP hS hl hR hQ)
theorem R_aload_n {n : Fin 4} {x : Nat} (hd : decode md.2.2.1 pc = .ok (.aload_n n, 1)) (h : lv[n.val]? = some (some (.ref x))) (hn : Rc g k cx md (pc + 1) lv (.ref x :: st) M o) : Rc g k cx md pc lv st M o := fun p e s m sa below meth c H locs A ls R n1 n2 b1 b2 Q hC hP hS hl hR hQ => lv_aload_n hC.1 hC.2.1 hd rfl (hl.2.2 _ _ h) (hn p e s m sa below meth c H locs A ls R n1 n2 b1 b2 Q hC hP hS hl hR hQ)
theorem R_aload {n : Nat} {x : Nat} (hd : decode md.2.2.1 pc = .ok (.aload n, 2)) (h : lv[n]? = some (some (.ref x))) (hn : Rc g k cx md (pc + 2) lv (.ref x :: st) M o) : Rc g k cx md pc lv st M o := fun p e s m sa below meth c H locs A ls R n1 n2 b1 b2 Q hC hP hS hl hR hQ => lv_aload hC.1 hC.2.1 hd (hl.2.2 _ _ h) (hn p e s m sa below meth c H locs A ls R n1 n2 b1 b2 Q hC hP hS hl hR hQ)
end RI
def asc (g : Gl) (lv : List (Option Value)) : List (Nat × Value) := (List.range lv.length).filterMap (fun i => match lv[i]? with
  | some (some v) => some (i, cv g.2.2.2 v)
  | _ => none)
theorem asc_mem {g : Gl} {lv : List (Option Value)} {i : Nat} {v : Value} (h : lv[i]? = some (some v)) : (i, cv g.2.2.2 v) ∈ asc g lv := by
  refine List.mem_filterMap.mpr ⟨i, List.mem_range.mpr (List.getElem?_eq_some_iff.mp h).1, ?_⟩
  rw [h]
theorem asc_has {g : Gl} {n : Nat} {ls : Array Slot} {lv : List (Option Value)} (h : lvh g n ls lv) : lv_has ls n (asc g lv) := by
  refine ⟨h.1, h.2.1, fun q hq => ?_⟩
  obtain ⟨i, -, hi⟩ := List.mem_filterMap.mp hq
  split at hi
  · rename_i v hv
    cases hi
    exact h.2.2 _ _ hv
  · cases hi
def kil (lv : List (Option Value)) : Nat → List (Option Value)
  | 0 => lv
  | j + 1 => match lv[j]? with
    | some (some (.long _)) => lv.set j none
    | some (some (.double _)) => lv.set j none
    | _ => lv
theorem kil_get {lv : List (Option Value)} {i j : Nat} {v : Value} (h : (kil lv i)[j]? = some (some v)) : lv[j]? = some (some v) ∧ ¬ (j + 1 = i ∧ v.category = 2) := by
  cases i with
  | zero => exact ⟨h, fun q => by omega⟩
  | succ i =>
    simp only [kil] at h
    split at h
    · rename_i y hy
      by_cases e : j = i
      · subst e
        rw [List.getElem?_set_self (List.getElem?_eq_some_iff.mp hy).1] at h
        cases h
      · rw [List.getElem?_set_ne (Ne.symm e)] at h
        exact ⟨h, fun q => e (by omega)⟩
    · rename_i y hy
      by_cases e : j = i
      · subst e
        rw [List.getElem?_set_self (List.getElem?_eq_some_iff.mp hy).1] at h
        cases h
      · rw [List.getElem?_set_ne (Ne.symm e)] at h
        exact ⟨h, fun q => e (by omega)⟩
    · rename_i h1 h2
      refine ⟨h, fun q => ?_⟩
      have e : j = i := by omega
      subst e
      cases v with
      | long y => exact h1 y h
      | double y => exact h2 y h
      | _ => exact absurd q.2 (by simp [Value.category])
theorem sto1_lvh {g : Gl} {n : Nat} {ls' : Array Slot} {lv : List (Option Value)} {i : Nat} {w : Value} (h : lv_has ls' n ((i, cv g.2.2.2 w) :: (asc g lv).filter (fun q => !(q.1 == i) && !(q.1 + 1 == i && q.2.category == 2)))) : lvh g n ls' ((kil lv i).set i (some w)) := by
  refine ⟨h.1, h.2.1, fun j u hj => ?_⟩
  by_cases e : j = i
  · subst e
    have hlt : j < (kil lv j).length := by
      have := (List.getElem?_eq_some_iff.mp hj).1
      simpa using this
    rw [List.getElem?_set_self hlt] at hj
    cases hj
    exact h.2.2 _ List.mem_cons_self
  · rw [List.getElem?_set_ne (Ne.symm e)] at hj
    obtain ⟨h1, h2⟩ := kil_get hj
    refine h.2.2 (j, cv g.2.2.2 u) (List.mem_cons_of_mem _ (List.mem_filter.mpr ⟨asc_mem h1, ?_⟩))
    simp only [cv_cat, Bool.and_eq_true, Bool.not_eq_true', beq_eq_false_iff_ne, Bool.and_eq_false_iff]
    refine ⟨e, ?_⟩
    by_cases q : j + 1 = i
    · exact Or.inr (fun z => h2 ⟨q, z⟩)
    · exact Or.inl q
theorem sto2_lvh {g : Gl} {n : Nat} {ls' : Array Slot} {lv : List (Option Value)} {i : Nat} {w : Value} (h : lv_has ls' n ((i, cv g.2.2.2 w) :: (asc g lv).filter (fun q => !(q.1 == i) && (!(q.1 == i + 1) && !(q.1 + 1 == i && q.2.category == 2))))) : lvh g n ls' (((kil lv i).set i (some w)).set (i + 1) none) := by
  refine ⟨h.1, h.2.1, fun j u hj => ?_⟩
  by_cases e1 : j = i + 1
  · subst e1
    have hlt : i + 1 < ((kil lv i).set i (some w)).length := by
      have := (List.getElem?_eq_some_iff.mp hj).1
      simpa using this
    rw [List.getElem?_set_self hlt] at hj
    cases hj
  rw [List.getElem?_set_ne (Ne.symm e1)] at hj
  by_cases e : j = i
  · subst e
    have hlt : j < (kil lv j).length := by
      have := (List.getElem?_eq_some_iff.mp hj).1
      simpa using this
    rw [List.getElem?_set_self hlt] at hj
    cases hj
    exact h.2.2 _ List.mem_cons_self
  · rw [List.getElem?_set_ne (Ne.symm e)] at hj
    obtain ⟨h1, h2⟩ := kil_get hj
    refine h.2.2 (j, cv g.2.2.2 u) (List.mem_cons_of_mem _ (List.mem_filter.mpr ⟨asc_mem h1, ?_⟩))
    simp only [cv_cat, Bool.and_eq_true, Bool.not_eq_true', beq_eq_false_iff_ne, Bool.and_eq_false_iff]
    refine ⟨e, e1, ?_⟩
    by_cases q : j + 1 = i
    · exact Or.inr (fun z => h2 ⟨q, z⟩)
    · exact Or.inl q
section RS
variable {g : Gl} {k : Nat} {md : MD} {pc : Nat} {lv : List (Option Value)} {st : List Value} {M : Mem} {o : Oc} {cx : Nat}
theorem R_istore_n {n : Fin 4} {x : Int32} (hd : decode md.2.2.1 pc = .ok (.istore_n n, 1)) (h : n.val < md.2.2.2.1) (hn : Rc g k cx md (pc + 1) ((kil lv n.val).set n.val (some (.int x))) st M o) : Rc g k cx md pc lv (.int x :: st) M o := fun p e s m sa below meth c H locs A ls R n1 n2 b1 b2 Q hC hP hS hl hR hQ => lv_istore_n hC.1 hC.2.1 hd rfl (asc_has hl) h rfl (fun ls hl => hn p e s m sa below meth c H locs A ls R n1 n2 b1 b2 Q hC hP hS (sto1_lvh hl) hR hQ)
theorem R_istore {n : Nat} {x : Int32} (hd : decode md.2.2.1 pc = .ok (.istore n, 2)) (h : n < md.2.2.2.1) (hn : Rc g k cx md (pc + 2) ((kil lv n).set n (some (.int x))) st M o) : Rc g k cx md pc lv (.int x :: st) M o := fun p e s m sa below meth c H locs A ls R n1 n2 b1 b2 Q hC hP hS hl hR hQ => lv_istore hC.1 hC.2.1 hd (asc_has hl) h rfl (fun ls hl => hn p e s m sa below meth c H locs A ls R n1 n2 b1 b2 Q hC hP hS (sto1_lvh hl) hR hQ)
theorem R_astore_n {n : Fin 4} {x : Nat} (hd : decode md.2.2.1 pc = .ok (.astore_n n, 1)) (h : n.val < md.2.2.2.1) (hn : Rc g k cx md (pc + 1) ((kil lv n.val).set n.val (some (.ref x))) st M o) : Rc g k cx md pc lv (.ref x :: st) M o := fun p e s m sa below meth c H locs A ls R n1 n2 b1 b2 Q hC hP hS hl hR hQ => lv_astore_n hC.1 hC.2.1 hd rfl (asc_has hl) h rfl (fun ls hl => hn p e s m sa below meth c H locs A ls R n1 n2 b1 b2 Q hC hP hS (sto1_lvh hl) hR hQ)
theorem R_astore {n : Nat} {x : Nat} (hd : decode md.2.2.1 pc = .ok (.astore n, 2)) (h : n < md.2.2.2.1) (hn : Rc g k cx md (pc + 2) ((kil lv n).set n (some (.ref x))) st M o) : Rc g k cx md pc lv (.ref x :: st) M o := fun p e s m sa below meth c H locs A ls R n1 n2 b1 b2 Q hC hP hS hl hR hQ => lv_astore hC.1 hC.2.1 hd (asc_has hl) h rfl (fun ls hl => hn p e s m sa below meth c H locs A ls R n1 n2 b1 b2 Q hC hP hS (sto1_lvh hl) hR hQ)
theorem R_lstore_n {n : Fin 4} {x : Int64} (hd : decode md.2.2.1 pc = .ok (.lstore_n n, 1)) (h : n.val + 1 < md.2.2.2.1) (hn : Rc g k cx md (pc + 1) (((kil lv n.val).set n.val (some (.long x))).set (n.val + 1) none) st M o) : Rc g k cx md pc lv (.long x :: st) M o := fun p e s m sa below meth c H locs A ls R n1 n2 b1 b2 Q hC hP hS hl hR hQ => lv_lstore_n hC.1 hC.2.1 hd rfl (asc_has hl) h rfl (fun ls hl => hn p e s m sa below meth c H locs A ls R n1 n2 b1 b2 Q hC hP hS (sto2_lvh hl) hR hQ)
theorem R_lstore {n : Nat} {x : Int64} (hd : decode md.2.2.1 pc = .ok (.lstore n, 2)) (h : n + 1 < md.2.2.2.1) (hn : Rc g k cx md (pc + 2) (((kil lv n).set n (some (.long x))).set (n + 1) none) st M o) : Rc g k cx md pc lv (.long x :: st) M o := fun p e s m sa below meth c H locs A ls R n1 n2 b1 b2 Q hC hP hS hl hR hQ => lv_lstore hC.1 hC.2.1 hd (asc_has hl) h rfl (fun ls hl => hn p e s m sa below meth c H locs A ls R n1 n2 b1 b2 Q hC hP hS (sto2_lvh hl) hR hQ)
theorem R_iinc {i : Nat} {n : Int} {x : Int32} (hd : decode md.2.2.1 pc = .ok (.iinc i n, 3)) (hi : lv[i]? = some (some (.int x))) (h : i < md.2.2.2.1) (hn : Rc g k cx md (pc + 3) ((kil lv i).set i (some (.int (x + Int32.ofInt n)))) st M o) : Rc g k cx md pc lv st M o := by
  intro p e s m sa below meth c H locs A ls R n1 n2 b1 b2 Q hC hP hS hl hR hQ
  obtain ⟨q, hq⟩ := List.getElem?_of_mem (asc_mem (g := g) hi)
  exact lv_iinc hC.1 hC.2.1 hd (asc_has hl) hq rfl h rfl (fun ls hl => hn p e s m sa below meth c H locs A ls R n1 n2 b1 b2 Q hC hP hS (sto1_lvh hl) hR hQ)
theorem icOK {o i : Nat} {x : Int32} {w : Nat} (ho : o < 17) (h : lk (icT o) i = some (x, w)) : Cond.constant (ownN o) i x ∈ WD := by
  have h1 := List.all_eq_true.mp (icT_ok o ho) _ (lk_mem h)
  simp only [Bool.and_eq_true, decide_eq_true_eq] at h1
  exact inW h1.1 h1.2
theorem lcOK {o i : Nat} {x : Int64} {w : Nat} (ho : o < 17) (h : lk (lcT o) i = some (x, w)) : Cond.constantLong (ownN o) i x ∈ WD := by
  have h1 := List.all_eq_true.mp (lcT_ok o ho) _ (lk_mem h)
  simp only [Bool.and_eq_true, decide_eq_true_eq] at h1
  exact inW h1.1 h1.2
theorem R_ldc {i : Nat} {x : Int32} (hd : decode md.2.2.1 pc = .ok (.ldc i, 2)) (h : Cond.constant (ownN md.1) i x ∈ WD) (hn : Rc g k cx md (pc + 2) lv (.int x :: st) M o) : Rc g k cx md pc lv st M o := fun p e s m sa below meth c H locs A ls R n1 n2 b1 b2 Q hC hP hS hl hR hQ => lv_ldc hC.1 hC.2.1 hC.2.2.2.2.1 (hC.2.2.2.2.2.1 _ h) hd (hn p e s m sa below meth c H locs A ls R n1 n2 b1 b2 Q hC hP hS hl hR hQ)
theorem R_ldcw {i : Nat} {x : Int32} (hd : decode md.2.2.1 pc = .ok (.ldc_w i, 3)) (h : Cond.constant (ownN md.1) i x ∈ WD) (hn : Rc g k cx md (pc + 3) lv (.int x :: st) M o) : Rc g k cx md pc lv st M o := fun p e s m sa below meth c H locs A ls R n1 n2 b1 b2 Q hC hP hS hl hR hQ => lv_ldcw hC.1 hC.2.1 hC.2.2.2.2.1 (hC.2.2.2.2.2.1 _ h) hd (hn p e s m sa below meth c H locs A ls R n1 n2 b1 b2 Q hC hP hS hl hR hQ)
theorem R_ldc2 {i : Nat} {x : Int64} (hd : decode md.2.2.1 pc = .ok (.ldc2_w i, 3)) (h : Cond.constantLong (ownN md.1) i x ∈ WD) (hn : Rc g k cx md (pc + 3) lv (.long x :: st) M o) : Rc g k cx md pc lv st M o := fun p e s m sa below meth c H locs A ls R n1 n2 b1 b2 Q hC hP hS hl hR hQ => lv_ldc2 hC.1 hC.2.1 hC.2.2.2.2.1 (hC.2.2.2.2.2.1 _ h) hd (hn p e s m sa below meth c H locs A ls R n1 n2 b1 b2 Q hC hP hS hl hR hQ)
/-- every cell that is named lies in the world -/
def inN (c : Nat) : Prop := c < NC
end RS
end
section
/-! MEMORY, BRANCHES, CALLS, RETURNS as rules of Rn -/
def oF (c ci : Nat) : Prop := c < NC ∧ kd c = (0, ci)
def oA (t c : Nat) (i : Int32) : Prop := c < NC ∧ (kd c).1 = t ∧ vp_in i (kd c).2
theorem oA_of {t c n : Nat} {i : Int32} (hc : c < NC) (hk : kd c = (t, n)) (h : vp_in i n) : oA t c i := ⟨hc, by rw [hk], by rw [hk]; exact h⟩
theorem oA_kd {t c : Nat} {i : Int32} (h : oA t c i) : kd c = (t, (kd c).2) := by
  rw [← h.2.1]
theorem clsOK {ci : Nat} {C : String} {T : u_T} {N : Nat} (h : classes[ci]? = some (C, T, N)) : (∀ w ∈ u_ws C T N, w ∈ WD) ∧ nfl ci = N ∧ (∃ ty0 : Nat → FieldType, ∀ k, k < N → parseFieldDescriptor (T k).2.2.1 = some (ty0 k)) ∧ (∀ a, a < N → ∀ b, b < N → a ≠ b → (T a).2.1 ≠ (T b).2.1) ∧ (∀ k, k < N → frq ci k = false → (T k).2.2.2 = false ∧ (T k).2.2.1 = "I") ∧ ownN ci = C := by
  match ci, h with
  | 0, h => cases h; exact ⟨inX0, rfl, ⟨tyX0, tyX0_ok⟩, nmX0, by decide +kernel, rfl⟩
  | 1, h => cases h; exact ⟨inX1, rfl, ⟨tyX1, tyX1_ok⟩, nmX1, by decide +kernel, rfl⟩
  | 2, h => cases h; exact ⟨inX2, rfl, ⟨tyX2, tyX2_ok⟩, nmX2, by decide +kernel, rfl⟩
  | 3, h => cases h; exact ⟨inX3, rfl, ⟨tyX3, tyX3_ok⟩, nmX3, by decide +kernel, rfl⟩
  | 4, h => cases h; exact ⟨inX4, rfl, ⟨tyX4, tyX4_ok⟩, nmX4, by decide +kernel, rfl⟩
  | 5, h => cases h; exact ⟨inX5, rfl, ⟨tyX5, tyX5_ok⟩, nmX5, by decide +kernel, rfl⟩
  | 6, h => cases h; exact ⟨inX6, rfl, ⟨tyX6, tyX6_ok⟩, nmX6, by decide +kernel, rfl⟩
  | 7, h => cases h; exact ⟨inX7, rfl, ⟨tyX7, tyX7_ok⟩, nmX7, by decide +kernel, rfl⟩
  | 8, h => cases h; exact ⟨inX8, rfl, ⟨tyX8, tyX8_ok⟩, nmX8, by decide +kernel, rfl⟩
  | 9, h => cases h; exact ⟨inX9, rfl, ⟨tyX9, tyX9_ok⟩, nmX9, by decide +kernel, rfl⟩
  | 10, h => cases h; exact ⟨inX10, rfl, ⟨tyX10, tyX10_ok⟩, nmX10, by decide +kernel, rfl⟩
  | 11, h => cases h; exact ⟨inX11, rfl, ⟨tyX11, tyX11_ok⟩, nmX11, by decide +kernel, rfl⟩
  | 12, h => cases h; exact ⟨inX12, rfl, ⟨tyX12, tyX12_ok⟩, nmX12, by decide +kernel, rfl⟩
  | k + 13, h => simp [classes] at h
theorem flOK {o i ci j w : Nat} (ho : o < 17) (h : lk (flT o) i = some (ci, j, w)) : ∃ (C : String) (T : u_T) (N : Nat), classes[ci]? = some (C, T, N) ∧ j < N ∧ Cond.fieldLink (ownN o) i (T j).1 (T j).2.1 (T j).2.2.1 ∈ WD := by
  have h1 := List.all_eq_true.mp (chF_all o ho) _ (lk_mem h)
  unfold chF at h1
  split at h1
  · rename_i C T N hc
    simp only [Bool.and_eq_true, decide_eq_true_eq] at h1
    exact ⟨C, T, N, hc, h1.1.1, inW h1.1.2 h1.2⟩
  · cases h1
theorem fvs_get {g : Gl} {M : Mem} {ci c j : Nat} (h : j < nfl ci) : (fvs g M ci c)[j]? = some (cv g.2.2.2 (if frq ci j = true then .ref (rf c j) else .int (rd M c j))) := by
  simp only [fvs, List.getElem?_map, List.getElem?_range h, Option.map_some]
  split <;> rfl
theorem fvs_len {g : Gl} {M : Mem} {ci c : Nat} : (fvs g M ci c).length = nfl ci := by simp [fvs]
theorem fvs_wr {g : Gl} {M : Mem} {ci c j : Nat} {x : Int32} (hf : frq ci j = false) : fvs g (wr M c j x) ci c = (fvs g M ci c).set j (.int x) := by
  apply List.ext_getElem?
  intro i
  by_cases hi : i < nfl ci
  · rw [fvs_get hi]
    by_cases e : i = j
    · subst e
      rw [List.getElem?_set_self (by rw [fvs_len]; exact hi)]
      simp [hf, cv, rd, wr]
    · rw [List.getElem?_set_ne (Ne.symm e), fvs_get hi]
      simp [rd, wr, e]
  · rw [List.getElem?_eq_none (by rw [fvs_len]; omega), List.getElem?_eq_none (by rw [List.length_set, fvs_len]; omega)]
section RM
variable {g : Gl} {k : Nat} {md : MD} {pc : Nat} {lv : List (Option Value)} {st : List Value} {M : Mem} {o : Oc} {cx : Nat}
theorem R_getfield {i ci j w c : Nat} (ho : md.1 < 17) (hd : decode md.2.2.1 pc = .ok (.getfield i, 3)) (hf : lk (flT md.1) i = some (ci, j, w)) (hc : oF c ci) (hn : Rc g k cx md (pc + 3) lv ((if frq ci j = true then .ref (rf c j) else .int (rd M c j)) :: st) M o) : Rc g k cx md pc lv (.ref c :: st) M o := by
  intro p e s m sa below meth cc H locs A ls R n1 n2 b1 b2 Q hC hP hS hl hR hQ
  obtain ⟨C, T, N, h1, h2, h3⟩ := flOK ho hf
  obtain ⟨q1, q2, -, -, -, -⟩ := clsOK h1
  exact va_get (D := g.2.1) (ci := ci) (C := C) (T := T) (N := N) (ws := wld g M) hC.1 hC.2.1 hC.2.2.2.2.2.1 q1 hC.2.2.2.2.1 hC.2.2.2.2.2.2.1 hP c (by rw [wld_get g M hc.1, cnc_o hc.2]) h1 j h2 (hC.2.2.2.2.2.1 _ h3) (fun _ h9 => h9) (fvs_get (by rw [q2]; exact h2)) hd (hn p e s m sa below meth cc H locs A ls R n1 n2 b1 b2 Q hC hP hS hl hR hQ)
theorem R_putfield {i ci j w c : Nat} {x : Int32} (ho : md.1 < 17) (hd : decode md.2.2.1 pc = .ok (.putfield i, 3)) (hf : lk (flT md.1) i = some (ci, j, w)) (hq : frq ci j = false) (hc : oF c ci) (hn : Rc g k cx md (pc + 3) lv st (wr M c j x) o) : Rc g k cx md pc lv (.int x :: .ref c :: st) M o := by
  intro p e s m sa below meth cc H locs A ls R n1 n2 b1 b2 Q hC hP hS hl hR hQ
  obtain ⟨C, T, N, h1, h2, h3⟩ := flOK ho hf
  obtain ⟨q1, q2, ⟨ty0, q3⟩, q4, q5, -⟩ := clsOK h1
  obtain ⟨z1, z2⟩ := q5 j h2 hq
  have hlen : j < (fvs g M ci c).length := by rw [fvs_len, q2]; exact h2
  refine va_put (D := g.2.1) (ci := ci) (v := .int x) (ty := .int) (C := C) (T := T) (N := N) (ws := wld g M) hC.1 hC.2.1 hC.2.2.2.2.2.1 q1 ty0 q3 q4 hC.2.2.2.2.1 hC.2.2.2.2.2.2.1 hP (wld_D hC.2.2.2.2.2.2.2.1) hS c (by rw [wld_get g M hc.1, cnc_o hc.2]) h1 j h2 (hC.2.2.2.2.2.1 _ h3) (fun _ h9 => h9) z1 (by rw [z2]; rfl) rfl rfl hlen hd (fun H1 locs1 hP1 hD1 hS1 => ?_)
  rw [wld_set (M' := wr M c j x) hc.1 (by rw [cnc_o hc.2, fvs_wr hq]) (fun a ha => cnc_wr_ne g M j x ha)] at hP1
  exact hn p e s m sa below meth cc H1 locs1 A ls R n1 n2 b1 b2 Q hC hP1 hS1 hl hR hQ
theorem R_iaload {c : Nat} {i : Int32} (hd : decode md.2.2.1 pc = .ok (.iaload, 1)) (hc : oA 1 c i) (hn : Rc g k cx md (pc + 1) lv (.int (rd M c i.toNatClampNeg) :: st) M o) : Rc g k cx md pc lv (.int i :: .ref c :: st) M o := by
  intro p e s m sa below meth cc H locs A ls R n1 n2 b1 b2 Q hC hP hS hl hR hQ
  exact va_iald hC.1 hC.2.1 hC.2.2.2.2.2.2.1 hP c 0 (by rw [wld_get g M hc.1, cnc_1 (oA_kd hc)]) rfl hc.2.2 hd (hn p e s m sa below meth cc H locs A ls R n1 n2 b1 b2 Q hC hP hS hl hR hQ)
theorem R_baload {c : Nat} {i : Int32} (hd : decode md.2.2.1 pc = .ok (.baload, 1)) (hc : oA 2 c i) (hn : Rc g k cx md (pc + 1) lv (.int (rd M c i.toNatClampNeg) :: st) M o) : Rc g k cx md pc lv (.int i :: .ref c :: st) M o := by
  intro p e s m sa below meth cc H locs A ls R n1 n2 b1 b2 Q hC hP hS hl hR hQ
  exact va_bald hC.1 hC.2.1 hC.2.2.2.2.2.2.1 hP c 1 (by rw [wld_get g M hc.1, cnc_2 (oA_kd hc)]) rfl hc.2.2 hd (hn p e s m sa below meth cc H locs A ls R n1 n2 b1 b2 Q hC hP hS hl hR hQ)
theorem R_zaload {c : Nat} {i : Int32} (hd : decode md.2.2.1 pc = .ok (.baload, 1)) (hc : oA 3 c i) (hn : Rc g k cx md (pc + 1) lv (.int (rd M c i.toNatClampNeg) :: st) M o) : Rc g k cx md pc lv (.int i :: .ref c :: st) M o := by
  intro p e s m sa below meth cc H locs A ls R n1 n2 b1 b2 Q hC hP hS hl hR hQ
  exact va_zald hC.1 hC.2.1 hC.2.2.2.2.2.2.1 hP c 2 (by rw [wld_get g M hc.1, cnc_3 (oA_kd hc)]) rfl hc.2.2 hd (hn p e s m sa below meth cc H locs A ls R n1 n2 b1 b2 Q hC hP hS hl hR hQ)
theorem R_laload {c : Nat} {i : Int32} (hd : decode md.2.2.1 pc = .ok (.laload, 1)) (hc : oA 4 c i) (hn : Rc g k cx md (pc + 1) lv (.long (rl M c i.toNatClampNeg) :: st) M o) : Rc g k cx md pc lv (.int i :: .ref c :: st) M o := by
  intro p e s m sa below meth cc H locs A ls R n1 n2 b1 b2 Q hC hP hS hl hR hQ
  exact va_lald hC.1 hC.2.1 hC.2.2.2.2.2.2.1 hP c 3 (by rw [wld_get g M hc.1, cnc_4 (oA_kd hc)]) rfl hc.2.2 hd (hn p e s m sa below meth cc H locs A ls R n1 n2 b1 b2 Q hC hP hS hl hR hQ)
theorem upd_wr {M : Mem} {c i : Nat} {x : Int32} : rd (wr M c i x) c = upd (rd M c) i x := by
  funext j
  simp [rd, wr, upd]
theorem upd_wl {M : Mem} {c i : Nat} {x : Int64} : rl (wl M c i x) c = vp_updL (rl M c) i x := by
  funext j
  simp [rl, wl, vp_updL]
theorem R_iastore {c : Nat} {i x : Int32} (hd : decode md.2.2.1 pc = .ok (.iastore, 1)) (hc : oA 1 c i) (hn : Rc g k cx md (pc + 1) lv st (wr M c i.toNatClampNeg x) o) : Rc g k cx md pc lv (.int x :: .int i :: .ref c :: st) M o := by
  intro p e s m sa below meth cc H locs A ls R n1 n2 b1 b2 Q hC hP hS hl hR hQ
  refine va_iast hC.1 hC.2.1 hC.2.2.2.2.2.2.1 hP (wld_D hC.2.2.2.2.2.2.2.1) hS c 0 (by rw [wld_get g M hc.1, cnc_1 (oA_kd hc)]) rfl hc.2.2 hd (fun H1 locs1 hP1 hD1 hS1 => ?_)
  rw [wld_set (M' := wr M c i.toNatClampNeg x) hc.1 (by rw [cnc_1 (oA_kd hc), upd_wr]) (fun a ha => cnc_wr_ne g M _ _ ha)] at hP1
  exact hn p e s m sa below meth cc H1 locs1 A ls R n1 n2 b1 b2 Q hC hP1 hS1 hl hR hQ
theorem R_bastore {c : Nat} {i x : Int32} (hd : decode md.2.2.1 pc = .ok (.bastore, 1)) (hc : oA 2 c i) (hn : Rc g k cx md (pc + 1) lv st (wr M c i.toNatClampNeg (vp_nar .byte x)) o) : Rc g k cx md pc lv (.int x :: .int i :: .ref c :: st) M o := by
  intro p e s m sa below meth cc H locs A ls R n1 n2 b1 b2 Q hC hP hS hl hR hQ
  refine va_bast hC.1 hC.2.1 hC.2.2.2.2.2.2.1 hP (wld_D hC.2.2.2.2.2.2.2.1) hS c 1 (by rw [wld_get g M hc.1, cnc_2 (oA_kd hc)]) rfl hc.2.2 hd (fun H1 locs1 hP1 hD1 hS1 => ?_)
  rw [wld_set (M' := wr M c i.toNatClampNeg (vp_nar .byte x)) hc.1 (by rw [cnc_2 (oA_kd hc), upd_wr]) (fun a ha => cnc_wr_ne g M _ _ ha)] at hP1
  exact hn p e s m sa below meth cc H1 locs1 A ls R n1 n2 b1 b2 Q hC hP1 hS1 hl hR hQ
theorem R_zastore {c : Nat} {i x : Int32} (hd : decode md.2.2.1 pc = .ok (.bastore, 1)) (hc : oA 3 c i) (hn : Rc g k cx md (pc + 1) lv st (wr M c i.toNatClampNeg (vp_nar .boolean x)) o) : Rc g k cx md pc lv (.int x :: .int i :: .ref c :: st) M o := by
  intro p e s m sa below meth cc H locs A ls R n1 n2 b1 b2 Q hC hP hS hl hR hQ
  refine va_zast hC.1 hC.2.1 hC.2.2.2.2.2.2.1 hP (wld_D hC.2.2.2.2.2.2.2.1) hS c 2 (by rw [wld_get g M hc.1, cnc_3 (oA_kd hc)]) rfl hc.2.2 hd (fun H1 locs1 hP1 hD1 hS1 => ?_)
  rw [wld_set (M' := wr M c i.toNatClampNeg (vp_nar .boolean x)) hc.1 (by rw [cnc_3 (oA_kd hc), upd_wr]) (fun a ha => cnc_wr_ne g M _ _ ha)] at hP1
  exact hn p e s m sa below meth cc H1 locs1 A ls R n1 n2 b1 b2 Q hC hP1 hS1 hl hR hQ
theorem R_lastore {c : Nat} {i : Int32} {x : Int64} (hd : decode md.2.2.1 pc = .ok (.lastore, 1)) (hc : oA 4 c i) (hn : Rc g k cx md (pc + 1) lv st (wl M c i.toNatClampNeg x) o) : Rc g k cx md pc lv (.long x :: .int i :: .ref c :: st) M o := by
  intro p e s m sa below meth cc H locs A ls R n1 n2 b1 b2 Q hC hP hS hl hR hQ
  refine va_last hC.1 hC.2.1 hC.2.2.2.2.2.2.1 hP (wld_D hC.2.2.2.2.2.2.2.1) hS c 3 (by rw [wld_get g M hc.1, cnc_4 (oA_kd hc)]) rfl hc.2.2 hd (fun H1 locs1 hP1 hD1 hS1 => ?_)
  rw [wld_set (M' := wl M c i.toNatClampNeg x) hc.1 (by rw [cnc_4 (oA_kd hc), upd_wl]) (fun a ha => cnc_wl_ne g M _ _ ha)] at hP1
  exact hn p e s m sa below meth cc H1 locs1 A ls R n1 n2 b1 b2 Q hC hP1 hS1 hl hR hQ
theorem R_aaload5 {c : Nat} {i : Int32} (hd : decode md.2.2.1 pc = .ok (.aaload, 1)) (hc : oA 5 c i) (hn : Rc g k cx md (pc + 1) lv (.ref (rf c i.toNatClampNeg) :: st) M o) : Rc g k cx md pc lv (.int i :: .ref c :: st) M o := by
  intro p e s m sa below meth cc H locs A ls R n1 n2 b1 b2 Q hC hP hS hl hR hQ
  have hlt : i.toNatClampNeg < (kd c).2 := Nat.not_le.mp fun q => hc.2.2 (Or.inr q)
  have hcell := hP c _ (show (wld g M)[c]? = some (g.2.2.2 c, .inl (g.2.2.1 5, (kd c).2, .inr (.inr (.inr (.inr (fun j => some (g.2.2.2 (rf c j)))))))) by rw [wld_get g M hc.1, cnc_5 (oA_kd hc)])
  exact W.aald (v := .ref (g.2.2.2 (rf c i.toNatClampNeg))) (ty := (.array .int)) hC.1 hC.2.1 hcell ((hC.2.2.2.2.2.2.1.2 4 _ rfl).1 (kd c).2 (fun j => va_rf (some (g.2.2.2 (rf c j))))) rfl (fun q => by cases q) (by show ¬ (i < 0 ∨ (arrV _ _ _).slots.size ≤ _); rw [arrV_size]; exact hc.2.2) (by show (arrV _ _ _).slots[_]? = _; rw [arrV_read _ _ hlt]; rfl) rfl rfl hd (hn p e s m sa below meth cc H locs A ls R n1 n2 b1 b2 Q hC hP hS hl hR hQ)
theorem R_aaload6 {c : Nat} {i : Int32} (hd : decode md.2.2.1 pc = .ok (.aaload, 1)) (hc : oA 6 c i) (hn : Rc g k cx md (pc + 1) lv (.ref (rf c i.toNatClampNeg) :: st) M o) : Rc g k cx md pc lv (.int i :: .ref c :: st) M o := by
  intro p e s m sa below meth cc H locs A ls R n1 n2 b1 b2 Q hC hP hS hl hR hQ
  have hlt : i.toNatClampNeg < (kd c).2 := Nat.not_le.mp fun q => hc.2.2 (Or.inr q)
  have hcell := hP c _ (show (wld g M)[c]? = some (g.2.2.2 c, .inl (g.2.2.1 6, (kd c).2, .inr (.inr (.inr (.inr (fun j => some (g.2.2.2 (rf c j)))))))) by rw [wld_get g M hc.1, cnc_6 (oA_kd hc)])
  exact W.aald (v := .ref (g.2.2.2 (rf c i.toNatClampNeg))) (ty := (.object "LostMuseum$State")) hC.1 hC.2.1 hcell ((hC.2.2.2.2.2.2.1.2 5 _ rfl).1 (kd c).2 (fun j => va_rf (some (g.2.2.2 (rf c j))))) rfl (fun q => by cases q) (by show ¬ (i < 0 ∨ (arrV _ _ _).slots.size ≤ _); rw [arrV_size]; exact hc.2.2) (by show (arrV _ _ _).slots[_]? = _; rw [arrV_read _ _ hlt]; rfl) rfl rfl hd (hn p e s m sa below meth cc H locs A ls R n1 n2 b1 b2 Q hC hP hS hl hR hQ)
theorem R_aaload7 {c : Nat} {i : Int32} (hd : decode md.2.2.1 pc = .ok (.aaload, 1)) (hc : oA 7 c i) (hn : Rc g k cx md (pc + 1) lv (.ref (rf c i.toNatClampNeg) :: st) M o) : Rc g k cx md pc lv (.int i :: .ref c :: st) M o := by
  intro p e s m sa below meth cc H locs A ls R n1 n2 b1 b2 Q hC hP hS hl hR hQ
  have hlt : i.toNatClampNeg < (kd c).2 := Nat.not_le.mp fun q => hc.2.2 (Or.inr q)
  have hcell := hP c _ (show (wld g M)[c]? = some (g.2.2.2 c, .inl (g.2.2.1 7, (kd c).2, .inr (.inr (.inr (.inr (fun j => some (g.2.2.2 (rf c j)))))))) by rw [wld_get g M hc.1, cnc_7 (oA_kd hc)])
  exact W.aald (v := .ref (g.2.2.2 (rf c i.toNatClampNeg))) (ty := (.object "LostMuseum$Timeline")) hC.1 hC.2.1 hcell ((hC.2.2.2.2.2.2.1.2 6 _ rfl).1 (kd c).2 (fun j => va_rf (some (g.2.2.2 (rf c j))))) rfl (fun q => by cases q) (by show ¬ (i < 0 ∨ (arrV _ _ _).slots.size ≤ _); rw [arrV_size]; exact hc.2.2) (by show (arrV _ _ _).slots[_]? = _; rw [arrV_read _ _ hlt]; rfl) rfl rfl hd (hn p e s m sa below meth cc H locs A ls R n1 n2 b1 b2 Q hC hP hS hl hR hQ)
theorem R_alen1 {c n : Nat} (hd : decode md.2.2.1 pc = .ok (.arraylength, 1)) (hc : c < NC) (hk : kd c = (1, n)) (hn : Rc g k cx md (pc + 1) lv (.int (Int32.ofNat n) :: st) M o) : Rc g k cx md pc lv (.ref c :: st) M o := by
  intro p e s m sa below meth cc H locs A ls R n1 n2 b1 b2 Q hC hP hS hl hR hQ
  exact va_alen (x := (n, .inl (rd M c))) hC.1 hC.2.1 hC.2.2.2.2.2.2.1 hP c 0 (by rw [wld_get g M hc, cnc_1 hk]) rfl rfl hd (hn p e s m sa below meth cc H locs A ls R n1 n2 b1 b2 Q hC hP hS hl hR hQ)
theorem R_alen2 {c n : Nat} (hd : decode md.2.2.1 pc = .ok (.arraylength, 1)) (hc : c < NC) (hk : kd c = (2, n)) (hn : Rc g k cx md (pc + 1) lv (.int (Int32.ofNat n) :: st) M o) : Rc g k cx md pc lv (.ref c :: st) M o := by
  intro p e s m sa below meth cc H locs A ls R n1 n2 b1 b2 Q hC hP hS hl hR hQ
  exact va_alen (x := (n, .inl (rd M c))) hC.1 hC.2.1 hC.2.2.2.2.2.2.1 hP c 1 (by rw [wld_get g M hc, cnc_2 hk]) rfl rfl hd (hn p e s m sa below meth cc H locs A ls R n1 n2 b1 b2 Q hC hP hS hl hR hQ)
theorem R_if_eq {x : Int32} {off : Int} {tgt : Nat} (hd : decode md.2.2.1 pc = .ok (.ifCond .eq off, 3)) (ht : (pc : Int) + off = (tgt : Int)) (kt : x = 0 → Rc g k cx md tgt lv st M o) (kf : ¬ x = 0 → Rc g k cx md (pc + 3) lv st M o) : Rc g k cx md pc lv (.int x :: st) M o := fun p e s m sa below meth cc H locs A ls R n1 n2 b1 b2 Q hC hP hS hl hR hQ => lv_if_eq hC.1 hC.2.1 hd ht (fun q => kt q p e s m sa below meth cc H locs A ls R n1 n2 b1 b2 Q hC hP hS hl hR hQ) (fun q => kf q p e s m sa below meth cc H locs A ls R n1 n2 b1 b2 Q hC hP hS hl hR hQ)
theorem R_if_ne {x : Int32} {off : Int} {tgt : Nat} (hd : decode md.2.2.1 pc = .ok (.ifCond .ne off, 3)) (ht : (pc : Int) + off = (tgt : Int)) (kt : ¬ x = 0 → Rc g k cx md tgt lv st M o) (kf : x = 0 → Rc g k cx md (pc + 3) lv st M o) : Rc g k cx md pc lv (.int x :: st) M o := fun p e s m sa below meth cc H locs A ls R n1 n2 b1 b2 Q hC hP hS hl hR hQ => lv_if_ne hC.1 hC.2.1 hd ht (fun q => kt q p e s m sa below meth cc H locs A ls R n1 n2 b1 b2 Q hC hP hS hl hR hQ) (fun q => kf q p e s m sa below meth cc H locs A ls R n1 n2 b1 b2 Q hC hP hS hl hR hQ)
theorem R_if_lt {x : Int32} {off : Int} {tgt : Nat} (hd : decode md.2.2.1 pc = .ok (.ifCond .lt off, 3)) (ht : (pc : Int) + off = (tgt : Int)) (kt : x < 0 → Rc g k cx md tgt lv st M o) (kf : ¬ x < 0 → Rc g k cx md (pc + 3) lv st M o) : Rc g k cx md pc lv (.int x :: st) M o := fun p e s m sa below meth cc H locs A ls R n1 n2 b1 b2 Q hC hP hS hl hR hQ => lv_if_lt hC.1 hC.2.1 hd ht (fun q => kt q p e s m sa below meth cc H locs A ls R n1 n2 b1 b2 Q hC hP hS hl hR hQ) (fun q => kf q p e s m sa below meth cc H locs A ls R n1 n2 b1 b2 Q hC hP hS hl hR hQ)
theorem R_if_ge {x : Int32} {off : Int} {tgt : Nat} (hd : decode md.2.2.1 pc = .ok (.ifCond .ge off, 3)) (ht : (pc : Int) + off = (tgt : Int)) (kt : 0 ≤ x → Rc g k cx md tgt lv st M o) (kf : ¬ 0 ≤ x → Rc g k cx md (pc + 3) lv st M o) : Rc g k cx md pc lv (.int x :: st) M o := fun p e s m sa below meth cc H locs A ls R n1 n2 b1 b2 Q hC hP hS hl hR hQ => lv_if_ge hC.1 hC.2.1 hd ht (fun q => kt q p e s m sa below meth cc H locs A ls R n1 n2 b1 b2 Q hC hP hS hl hR hQ) (fun q => kf q p e s m sa below meth cc H locs A ls R n1 n2 b1 b2 Q hC hP hS hl hR hQ)
theorem R_if_gt {x : Int32} {off : Int} {tgt : Nat} (hd : decode md.2.2.1 pc = .ok (.ifCond .gt off, 3)) (ht : (pc : Int) + off = (tgt : Int)) (kt : 0 < x → Rc g k cx md tgt lv st M o) (kf : ¬ 0 < x → Rc g k cx md (pc + 3) lv st M o) : Rc g k cx md pc lv (.int x :: st) M o := fun p e s m sa below meth cc H locs A ls R n1 n2 b1 b2 Q hC hP hS hl hR hQ => lv_if_gt hC.1 hC.2.1 hd ht (fun q => kt q p e s m sa below meth cc H locs A ls R n1 n2 b1 b2 Q hC hP hS hl hR hQ) (fun q => kf q p e s m sa below meth cc H locs A ls R n1 n2 b1 b2 Q hC hP hS hl hR hQ)
theorem R_if_le {x : Int32} {off : Int} {tgt : Nat} (hd : decode md.2.2.1 pc = .ok (.ifCond .le off, 3)) (ht : (pc : Int) + off = (tgt : Int)) (kt : x ≤ 0 → Rc g k cx md tgt lv st M o) (kf : ¬ x ≤ 0 → Rc g k cx md (pc + 3) lv st M o) : Rc g k cx md pc lv (.int x :: st) M o := fun p e s m sa below meth cc H locs A ls R n1 n2 b1 b2 Q hC hP hS hl hR hQ => lv_if_le hC.1 hC.2.1 hd ht (fun q => kt q p e s m sa below meth cc H locs A ls R n1 n2 b1 b2 Q hC hP hS hl hR hQ) (fun q => kf q p e s m sa below meth cc H locs A ls R n1 n2 b1 b2 Q hC hP hS hl hR hQ)
theorem R_icmp_eq {x y : Int32} {off : Int} {tgt : Nat} (hd : decode md.2.2.1 pc = .ok (.if_icmp .eq off, 3)) (ht : (pc : Int) + off = (tgt : Int)) (kt : x = y → Rc g k cx md tgt lv st M o) (kf : ¬ x = y → Rc g k cx md (pc + 3) lv st M o) : Rc g k cx md pc lv (.int y :: .int x :: st) M o := fun p e s m sa below meth cc H locs A ls R n1 n2 b1 b2 Q hC hP hS hl hR hQ => lv_icmp_eq hC.1 hC.2.1 hd ht (fun q => kt q p e s m sa below meth cc H locs A ls R n1 n2 b1 b2 Q hC hP hS hl hR hQ) (fun q => kf q p e s m sa below meth cc H locs A ls R n1 n2 b1 b2 Q hC hP hS hl hR hQ)
theorem R_icmp_ne {x y : Int32} {off : Int} {tgt : Nat} (hd : decode md.2.2.1 pc = .ok (.if_icmp .ne off, 3)) (ht : (pc : Int) + off = (tgt : Int)) (kt : ¬ x = y → Rc g k cx md tgt lv st M o) (kf : x = y → Rc g k cx md (pc + 3) lv st M o) : Rc g k cx md pc lv (.int y :: .int x :: st) M o := fun p e s m sa below meth cc H locs A ls R n1 n2 b1 b2 Q hC hP hS hl hR hQ => lv_icmp_ne hC.1 hC.2.1 hd ht (fun q => kt q p e s m sa below meth cc H locs A ls R n1 n2 b1 b2 Q hC hP hS hl hR hQ) (fun q => kf q p e s m sa below meth cc H locs A ls R n1 n2 b1 b2 Q hC hP hS hl hR hQ)
theorem R_icmp_lt {x y : Int32} {off : Int} {tgt : Nat} (hd : decode md.2.2.1 pc = .ok (.if_icmp .lt off, 3)) (ht : (pc : Int) + off = (tgt : Int)) (kt : x < y → Rc g k cx md tgt lv st M o) (kf : ¬ x < y → Rc g k cx md (pc + 3) lv st M o) : Rc g k cx md pc lv (.int y :: .int x :: st) M o := fun p e s m sa below meth cc H locs A ls R n1 n2 b1 b2 Q hC hP hS hl hR hQ => lv_icmp_lt hC.1 hC.2.1 hd ht (fun q => kt q p e s m sa below meth cc H locs A ls R n1 n2 b1 b2 Q hC hP hS hl hR hQ) (fun q => kf q p e s m sa below meth cc H locs A ls R n1 n2 b1 b2 Q hC hP hS hl hR hQ)
theorem R_icmp_ge {x y : Int32} {off : Int} {tgt : Nat} (hd : decode md.2.2.1 pc = .ok (.if_icmp .ge off, 3)) (ht : (pc : Int) + off = (tgt : Int)) (kt : y ≤ x → Rc g k cx md tgt lv st M o) (kf : ¬ y ≤ x → Rc g k cx md (pc + 3) lv st M o) : Rc g k cx md pc lv (.int y :: .int x :: st) M o := fun p e s m sa below meth cc H locs A ls R n1 n2 b1 b2 Q hC hP hS hl hR hQ => lv_icmp_ge hC.1 hC.2.1 hd ht (fun q => kt q p e s m sa below meth cc H locs A ls R n1 n2 b1 b2 Q hC hP hS hl hR hQ) (fun q => kf q p e s m sa below meth cc H locs A ls R n1 n2 b1 b2 Q hC hP hS hl hR hQ)
theorem R_icmp_gt {x y : Int32} {off : Int} {tgt : Nat} (hd : decode md.2.2.1 pc = .ok (.if_icmp .gt off, 3)) (ht : (pc : Int) + off = (tgt : Int)) (kt : y < x → Rc g k cx md tgt lv st M o) (kf : ¬ y < x → Rc g k cx md (pc + 3) lv st M o) : Rc g k cx md pc lv (.int y :: .int x :: st) M o := fun p e s m sa below meth cc H locs A ls R n1 n2 b1 b2 Q hC hP hS hl hR hQ => lv_icmp_gt hC.1 hC.2.1 hd ht (fun q => kt q p e s m sa below meth cc H locs A ls R n1 n2 b1 b2 Q hC hP hS hl hR hQ) (fun q => kf q p e s m sa below meth cc H locs A ls R n1 n2 b1 b2 Q hC hP hS hl hR hQ)
theorem R_icmp_le {x y : Int32} {off : Int} {tgt : Nat} (hd : decode md.2.2.1 pc = .ok (.if_icmp .le off, 3)) (ht : (pc : Int) + off = (tgt : Int)) (kt : x ≤ y → Rc g k cx md tgt lv st M o) (kf : ¬ x ≤ y → Rc g k cx md (pc + 3) lv st M o) : Rc g k cx md pc lv (.int y :: .int x :: st) M o := fun p e s m sa below meth cc H locs A ls R n1 n2 b1 b2 Q hC hP hS hl hR hQ => lv_icmp_le hC.1 hC.2.1 hd ht (fun q => kt q p e s m sa below meth cc H locs A ls R n1 n2 b1 b2 Q hC hP hS hl hR hQ) (fun q => kf q p e s m sa below meth cc H locs A ls R n1 n2 b1 b2 Q hC hP hS hl hR hQ)
theorem R_goto {off : Int} {tgt : Nat} (hd : decode md.2.2.1 pc = .ok (.goto off, 3)) (ht : (pc : Int) + off = (tgt : Int)) (kt : Rc g k cx md tgt lv st M o) : Rc g k cx md pc lv st M o := fun p e s m sa below meth cc H locs A ls R n1 n2 b1 b2 Q hC hP hS hl hR hQ => lv_goto hC.1 hC.2.1 hd ht (kt p e s m sa below meth cc H locs A ls R n1 n2 b1 b2 Q hC hP hS hl hR hQ)
theorem R_tableIn {dflt lo hi : Int} {offs : Array Int} {len : Nat} {x : Int32} {off : Int} {tgt : Nat} (hd : decode md.2.2.1 pc = .ok (.tableswitch dflt lo hi offs, len)) (h1 : ¬ x.toInt < lo) (h2 : ¬ hi < x.toInt) (hoff : offs[(x.toInt - lo).toNat]? = some off) (ht : (pc : Int) + off = (tgt : Int)) (kt : Rc g k cx md tgt lv st M o) : Rc g k cx md pc lv (.int x :: st) M o := fun p e s m sa below meth cc H locs A ls R n1 n2 b1 b2 Q hC hP hS hl hR hQ => lv_tableIn hC.1 hC.2.1 hd h1 h2 hoff ht (kt p e s m sa below meth cc H locs A ls R n1 n2 b1 b2 Q hC hP hS hl hR hQ)
theorem R_tableOut {dflt lo hi : Int} {offs : Array Int} {len : Nat} {x : Int32} {tgt : Nat} (hd : decode md.2.2.1 pc = .ok (.tableswitch dflt lo hi offs, len)) (h : x.toInt < lo ∨ hi < x.toInt) (ht : (pc : Int) + dflt = (tgt : Int)) (kt : Rc g k cx md tgt lv st M o) : Rc g k cx md pc lv (.int x :: st) M o := fun p e s m sa below meth cc H locs A ls R n1 n2 b1 b2 Q hC hP hS hl hR hQ => lv_tableOut hC.1 hC.2.1 hd h ht (kt p e s m sa below meth cc H locs A ls R n1 n2 b1 b2 Q hC hP hS hl hR hQ)
theorem R_lookup {dflt : Int} {ps : Array (Int × Int)} {len : Nat} {x : Int32} {off : Int} {tgt : Nat} (hd : decode md.2.2.1 pc = .ok (.lookupswitch dflt ps, len)) (hp : (ps.toList.zip (ps.toList.drop 1)).all (fun (a, next) => a.1 < next.1) = true) (hoff : Op.lookupswitch.offset ps.toList dflt x.toInt = off) (ht : (pc : Int) + off = (tgt : Int)) (kt : Rc g k cx md tgt lv st M o) : Rc g k cx md pc lv (.int x :: st) M o := fun p e s m sa below meth cc H locs A ls R n1 n2 b1 b2 Q hC hP hS hl hR hQ => lv_lookup hC.1 hC.2.1 hd hp hoff ht (kt p e s m sa below meth cc H locs A ls R n1 n2 b1 b2 Q hC hP hS hl hR hQ)
theorem R_iret {x : Int32} (hd : decode md.2.2.1 pc = .ok (.ireturn, 1)) (hr : md.2.2.2.2 = some .int) : Rc g k cx md pc lv [.int x] M (.inl (some (.int x), M)) := fun p e s m sa below meth cc H locs A ls R n1 n2 b1 b2 Q hC hP hS hl hR hQ => (hQ pc ls H locs n1 n2 (by omega) (by omega) hS hP).1 x .int rfl hr rfl hd
theorem R_zret {x : Int32} (hd : decode md.2.2.1 pc = .ok (.ireturn, 1)) (hr : md.2.2.2.2 = some .boolean) (hx : narrow .boolean (.int x) = .int x) : Rc g k cx md pc lv [.int x] M (.inl (some (.int x), M)) := fun p e s m sa below meth cc H locs A ls R n1 n2 b1 b2 Q hC hP hS hl hR hQ => (hQ pc ls H locs n1 n2 (by omega) (by omega) hS hP).1 x .boolean rfl hr hx hd
theorem R_lret {x : Int64} (hd : decode md.2.2.1 pc = .ok (.lreturn, 1)) (hr : md.2.2.2.2 = some .long) : Rc g k cx md pc lv [.long x] M (.inl (some (.long x), M)) := fun p e s m sa below meth cc H locs A ls R n1 n2 b1 b2 Q hC hP hS hl hR hQ => (hQ pc ls H locs n1 n2 (by omega) (by omega) hS hP).2.1 x rfl hr hd
theorem R_vret (hd : decode md.2.2.1 pc = .ok (.return_, 1)) (hr : md.2.2.2.2 = none) : Rc g k cx md pc lv [] M (.inl (none, M)) := fun p e s m sa below meth cc H locs A ls R n1 n2 b1 b2 Q hC hP hS hl hR hQ => (hQ pc ls H locs n1 n2 (by omega) (by omega) hS hP).2.2 rfl hr hd
end RM
theorem goodWD {ws : List Cond} (h : ∀ w ∈ ws, w ∈ WD) : GoodIn WD ws := fun w hw => ⟨h w hw, good_of_word (List.mem_filter.mp (h w hw)).2⟩
theorem PcO_blind {g : Gl} {args : List Value} {M : Mem} {sz : Nat} : FrameBlind (PcO g args M sz) := by
  intro a U f mk q
  obtain ⟨q0, q1, qP, qK, qD, qX⟩ := q
  exact ⟨q0, q1, qP, va_K.moved (u := U) (U := U.calling f mk a) (Vm.Alike.refl U.vm) qK, qD, qX.same rfl⟩
/-- the callee's start, out of the caller's state -/
theorem PcO_at {g : Gl} {md : MD} {p : Program} {s : State} {m : MethodId} {sa : Array Value} {meth : Method} {c : Code} {A : Nat → Prop} {H : Heap} {locs : List Loc} {M : Mem} (args : List Value) (hC : CxF g md p s m sa meth c A) (hP : va_P g.2.1 classes (wld g M) H) (hS : va_S A s.heap H locs) (hfree : ∀ q, va_A (wld g M) H.size q → A q) : ∀ U : State, U.heap = H → s.WarmedH U.vm → PcO g args M H.size (args.map (cv g.2.2.2)).toArray U := by
  intro U hU hW
  refine ⟨rfl, by rw [hU], by rw [hU]; exact hP, va_K.moved hW.alike hC.2.2.2.2.2.2.1, hC.2.2.2.2.2.2.2.1.weaken (fun _ _ _ _ => trivial), ?_⟩
  rw [hU]
  exact ((hC.2.2.2.2.2.2.2.2.2.2.kept hS.2.1).narrow hfree).warm hW
theorem wld_free {g : Gl} {A : Nat → Prop} {M : Mem} {H0 H : Heap} {locs : List Loc} (hD : va_D A (wld g z0)) (hS : va_S A H0 H locs) (hA : ∀ q, H0.size ≤ q → A q) : ∀ q, va_A (wld g M) H.size q → A q := by
  intro q h
  rcases h with ⟨j, e, h⟩ | h
  · exact (wld_D (M' := M) hD).2 j (q, e) h
  · exact hA q (Nat.le_trans hS.1 h)
theorem goOn {g : Gl} {R : Room} {n1 n2 : Nat} {p : Program} {e : Env} {s : State} {m : MethodId} {sa : Array Value} {below : List Frame} {meth : Method} {c : Code} {H : Heap} {locs : List Loc} {A : Nat → Prop} {ls : Array Slot} {st0 rest : List Value} {pc : Nat} {M M1 : Mem} {w : Option Value} {a : Array Value} {Q : State → Prop}
    (hr : va_Run p g.1 e R s m sa below meth c H locs n1 n2 0 0 (F0 m pc ls st0) rest (QcO g (va_A (wld g M) H.size) w M1 a) (va_A (wld g M) H.size)) (hS : va_S A s.heap H locs) (hf : ∀ q, va_A (wld g M) H.size q → A q)
    (kk : ∀ (H1 : Heap) (locs1 : List Loc), va_P g.2.1 classes (wld g M1) H1 → va_S A s.heap H1 locs1 → W p g.1 e R s m sa below meth c H1 locs1 n1 n2 Q (F0 m (pc + 3) ls ((w.map (cv g.2.2.2)).toList ++ rest))) : W p g.1 e R s m sa below meth c H locs n1 n2 Q (F0 m pc ls st0) := by
  intro T hT X
  obtain ⟨v, st₀, t, T', L, h0, X', hL, e1, e2, ⟨⟨hv, hP1, hK1⟩, hz, hk⟩, st⟩ := hr T hT X
  have hv : v = w.map (cv g.2.2.2) := Outcome.returned.inj hv
  subst hv
  rw [h0] at hz hk
  obtain ⟨t2, a1, b1⟩ := kk T'.heap (locs ++ L) (by rw [e1]; exact hP1)
    ⟨Nat.le_trans hS.1 (by rw [e1]; exact hz), fun q h1 h2 => by rw [e1, hk q (Nat.lt_of_lt_of_le h1 hS.1) (fun z => h2 (hf q z))]; exact hS.2.1 q h1 h2, fun q hq => by
      rcases List.mem_append.mp hq with h | h
      · exact hS.2.2 q h
      · exact hf _ (hL q h)⟩ T' rfl X'
  exact ⟨t2, st t2 a1, b1⟩
theorem wid_sum (ad : Nat → Nat) (l : List Value) : ((l.map (cv ad)).map fun v => v.category).sum = wid l := by
  induction l with
  | nil => rfl
  | cons v l ih =>
    simp only [List.map_cons, List.sum_cons, cv_cat]
    rw [ih]
    show _ = (if v.category = 2 then 2 else 1) + wid l
    rcases lv_cat v with h | h <;> simp [h]
/-- a method as a call names it: virtual (its own class), or static -/
def okV (o i n : Nat) (mc : MD) : Prop := mc.1 < 13 ∧ okM mc ∧ (mc.2.1.cls ≠ "java/lang/invoke/MethodHandle" ∧ mc.2.1.cls ≠ "java/lang/invoke/VarHandle" ∧ (parseMethodDescriptor mc.2.1.desc).map (fun d => d.parameters.length) = some n) ∧ Cond.methodLink (ownN o) i mc.2.1 ∈ WD ∧ Cond.initialized mc.2.1.cls ∈ WD ∧ Cond.instanceMethod mc.2.1 ∈ WD ∧ Cond.selects mc.2.1.cls mc.2.1 mc.2.1 ∈ WD
def okS (o i n : Nat) (mc : MD) : Prop := okM mc ∧ (mc.2.1.cls ≠ "java/lang/invoke/MethodHandle" ∧ mc.2.1.cls ≠ "java/lang/invoke/VarHandle" ∧ (parseMethodDescriptor mc.2.1.desc).map (fun d => d.parameters.length) = some n) ∧ Cond.methodLink (ownN o) i mc.2.1 ∈ WD ∧ Cond.initialized mc.2.1.cls ∈ WD ∧ Cond.static mc.2.1 ∈ WD
theorem wsM_in {mc : MD} (h : okM mc) : ∀ w ∈ wsM mc, w ∈ WD := fun w hw => by
  rcases List.mem_cons.mp hw with rfl | hw
  · exact h.2.2.2
  · exact hw
theorem rmk_ok {d k maxL : Nat} {R : Room} (h : d + 1 ≤ k) (hm : maxL ≤ 45) (h1 : k ≤ R.frames) (h2 : 64 * k ≤ R.locals) : (rmk d).frames + 1 ≤ R.frames ∧ 8 + (maxL + 11) + (rmk d).locals ≤ R.locals := by
  refine ⟨Nat.le_trans h h1, ?_⟩
  show 8 + (maxL + 11) + 64 * d ≤ R.locals
  omega
section RC
variable {g : Gl} {k : Nat} {md : MD} {pc : Nat} {lv : List (Option Value)} {st : List Value} {M : Mem} {o : Oc} {cx : Nat}
theorem R_callV {i n d b : Nat} {mc : MD} {As rest : List Value} {w : Option Value} {M1 : Mem} (hd : decode md.2.2.1 pc = .ok (.invokevirtual i, 3)) (hc : okV md.1 i n mc) (hM : Ms g d mc (.ref b :: As) M w M1) (hk : d + 1 ≤ k) (hb : oF b mc.1) (hs : st = As.reverse ++ .ref b :: rest) (hlen : As.length = n) (hst : wid rest ≤ 8) (hn : Rc g k cx md (pc + 3) lv (w.toList ++ rest) M1 o) : Rc g k cx md pc lv st M o := by
  intro p e s m sa below meth cc H locs A ls R n1 n2 b1 b2 Q hC hP hS hl hR hQ
  obtain ⟨h13, hok, hnm, hlink, hini, hinst, hsel⟩ := hc
  have hf : ∀ q, va_A (wld g M) H.size q → A q := wld_free hC.2.2.2.2.2.2.2.1 hS hC.2.2.2.2.2.2.2.2.1
  obtain ⟨C, T, N, h1⟩ : ∃ (C : String) (T : u_T) (N : Nat), classes[mc.1]? = some (C, T, N) := by
    have : mc.1 < classes.length := h13
    exact ⟨_, _, _, List.getElem?_eq_getElem this⟩
  have hCls : ownN mc.1 = C := (clsOK h1).2.2.2.2.2
  have hr : ∃ cell : Cell, H[g.2.2.2 b]? = some cell ∧ cell.vm.isStatics = false ∧ s.vm.findClass C = some cell.cls := va_recv hC.2.2.2.2.2.2.1 hP h1 (q0 := b) (by rw [wld_get g M hb.1, cnc_o hb.2])
  have hyC : mc.2.1.cls = C := hok.2.1.trans hCls
  have hrun := va_runV (As := As.map (cv g.2.2.2)) (rest := rest.map (cv g.2.2.2)) (g := F0 m pc ls (st.map (cv g.2.2.2))) (C := C) (locs := locs) (cells := n1) (slots := n2) (e := e) (below := below) (meth := meth) ⟨hC.1, hC.2.1, hC.2.2.2.1, hC.2.2.2.2.1, hC.2.2.2.2.2.1⟩ (hM H.size)
    (show CallW R s sa (ownN md.1) C i mc.2.1 mc.2.2.1 mc.2.2.2.1 mc.2.2.2.2 (wsM mc) (rmk d) 0 0 n from ⟨callB_of n hC.2.2.2.2.2.1 (goodWD (wsM_in hok)) rfl rfl rfl (hC.2.2.2.2.2.1 _ hini) (hC.2.2.2.2.2.1 _ hlink) hnm (rmk_ok hk hok.2.2.1 hR.1 hR.2.1), hC.2.2.2.2.2.1 _ hinst, by rw [← hyC]; exact hC.2.2.2.2.2.1 _ hsel⟩)
    ⟨PcO_blind, hr, fun U hU hW => PcO_at (.ref b :: As) hC hP hS hf U hU hW⟩ rfl (by rw [List.length_map]; exact hlen) hl.1 (by rw [hs]; simp [cv]) (lv_room (by rw [wid_sum]; exact hst)) hd ⟨Nat.le_trans (Nat.le_add_right _ _) hR.2.2.1, Nat.le_trans (Nat.le_add_right _ _) hR.2.2.2.1⟩
  refine goOn hrun hS hf (fun H1 locs1 hP1 hS1 => ?_)
  have h9 := hn p e s m sa below meth cc H1 locs1 A ls R n1 n2 b1 b2 Q hC hP1 hS1 hl hR hQ
  have e9 : (w.toList ++ rest).map (cv g.2.2.2) = (w.map (cv g.2.2.2)).toList ++ rest.map (cv g.2.2.2) := by cases w <;> rfl
  rw [e9] at h9
  exact h9
theorem R_callS {i n d : Nat} {mc : MD} {As rest : List Value} {w : Option Value} {M1 : Mem} (hd : decode md.2.2.1 pc = .ok (.invokestatic i, 3)) (hc : okS md.1 i n mc) (hM : Ms g d mc As M w M1) (hk : d + 1 ≤ k) (hs : st = As.reverse ++ rest) (hlen : As.length = n) (hst : wid rest ≤ 8) (hn : Rc g k cx md (pc + 3) lv (w.toList ++ rest) M1 o) : Rc g k cx md pc lv st M o := by
  intro p e s m sa below meth cc H locs A ls R n1 n2 b1 b2 Q hC hP hS hl hR hQ
  obtain ⟨hok, hnm, hlink, hini, hstat⟩ := hc
  have hf : ∀ q, va_A (wld g M) H.size q → A q := wld_free hC.2.2.2.2.2.2.2.1 hS hC.2.2.2.2.2.2.2.2.1
  have hrun := va_runS (As := As.map (cv g.2.2.2)) (rest := rest.map (cv g.2.2.2)) (g := F0 m pc ls (st.map (cv g.2.2.2))) (locs := locs) (cells := n1) (slots := n2) (e := e) (below := below) (meth := meth) ⟨hC.1, hC.2.1, hC.2.2.2.1, hC.2.2.2.2.1, hC.2.2.2.2.2.1⟩ (hM H.size)
    (show CallB R s sa (ownN md.1) i mc.2.1 mc.2.2.1 mc.2.2.2.1 mc.2.2.2.2 (wsM mc) (rmk d) 0 0 n ∧ (Cond.static mc.2.1).before sa s = true from ⟨callB_of n hC.2.2.2.2.2.1 (goodWD (wsM_in hok)) rfl rfl rfl (hC.2.2.2.2.2.1 _ hini) (hC.2.2.2.2.2.1 _ hlink) hnm (rmk_ok hk hok.2.2.1 hR.1 hR.2.1), hC.2.2.2.2.2.1 _ hstat⟩)
    ⟨PcO_blind, fun U hU hW => PcO_at As hC hP hS hf U hU hW⟩ rfl (by rw [List.length_map]; exact hlen) hl.1 (by rw [hs]; simp) (lv_room (by rw [wid_sum]; exact hst)) hd ⟨Nat.le_trans (Nat.le_add_right _ _) hR.2.2.1, Nat.le_trans (Nat.le_add_right _ _) hR.2.2.2.1⟩
  refine goOn hrun hS hf (fun H1 locs1 hP1 hS1 => ?_)
  have h9 := hn p e s m sa below meth cc H1 locs1 A ls R n1 n2 b1 b2 Q hC hP1 hS1 hl hR hQ
  have e9 : (w.toList ++ rest).map (cv g.2.2.2) = (w.map (cv g.2.2.2)).toList ++ rest.map (cv g.2.2.2) := by cases w <;> rfl
  rw [e9] at h9
  exact h9
end RC
end
section
/-! BLOCKS: straight instructions by computing -/
abbrev AS : Type := List (Option Value) × List Value × Mem
abbrev SR : Type := Option (AS × Option Prop)
def psh (w : Value) (a : AS) : SR := some ((a.1, w :: a.2.1, a.2.2), none)
def lodI (i : Nat) (a : AS) : SR := match a.1[i]? with
  | some (some (.int x)) => some ((a.1, .int x :: a.2.1, a.2.2), none)
  | _ => none
def lodL (i : Nat) (a : AS) : SR := match a.1[i]? with
  | some (some (.long x)) => some ((a.1, .long x :: a.2.1, a.2.2), none)
  | _ => none
def lodA (i : Nat) (a : AS) : SR := match a.1[i]? with
  | some (some (.ref x)) => some ((a.1, .ref x :: a.2.1, a.2.2), none)
  | _ => none
def stoI (nL i : Nat) (a : AS) : SR := match a.2.1 with
  | .int x :: st => bif Nat.blt i nL then some (((kil a.1 i).set i (some (.int x)), st, a.2.2), none) else none
  | _ => none
def stoA (nL i : Nat) (a : AS) : SR := match a.2.1 with
  | .ref x :: st => bif Nat.blt i nL then some (((kil a.1 i).set i (some (.ref x)), st, a.2.2), none) else none
  | _ => none
def stoL (nL i : Nat) (a : AS) : SR := match a.2.1 with
  | .long x :: st => bif Nat.blt (i + 1) nL then some ((((kil a.1 i).set i (some (.long x))).set (i + 1) none, st, a.2.2), none) else none
  | _ => none
def bnI (f : Int32 → Int32 → Int32) (a : AS) : SR := match a.2.1 with
  | .int y :: .int x :: st => some ((a.1, .int (f x y) :: st, a.2.2), none)
  | _ => none
def bnD (f : Int32 → Int32 → Int32) (a : AS) : SR := match a.2.1 with
  | .int y :: .int x :: st => some ((a.1, .int (f x y) :: st, a.2.2), some (¬ y = 0))
  | _ => none
def bnL (f : Int64 → Int64 → Int64) (a : AS) : SR := match a.2.1 with
  | .long y :: .long x :: st => some ((a.1, .long (f x y) :: st, a.2.2), none)
  | _ => none
def bnE (f : Int64 → Int64 → Int64) (a : AS) : SR := match a.2.1 with
  | .long y :: .long x :: st => some ((a.1, .long (f x y) :: st, a.2.2), some (¬ y = 0))
  | _ => none
def gtf (ci j : Nat) (a : AS) : SR := match a.2.1 with
  | .ref c :: st => some ((a.1, (bif frq ci j then .ref (rf c j) else .int (rd a.2.2 c j)) :: st, a.2.2), some (oF c ci))
  | _ => none
def ptf (ci j : Nat) (a : AS) : SR := match a.2.1 with
  | .int x :: .ref c :: st => bif frq ci j then none else some ((a.1, st, wr a.2.2 c j x), some (oF c ci))
  | _ => none
def stp (o nL : Nat) (i : Instr) (a : AS) : SR := match i with
  | .iconst n => psh (.int (Int32.ofInt n)) a
  | .bipush n => psh (.int (Int8.ofInt n).toInt32) a
  | .sipush n => psh (.int (Int16.ofInt n).toInt32) a
  | .lconst n => psh (.long (Int64.ofNat (n : Nat))) a
  | .ldc j => match lk (icT o) j with
    | some (x, _) => psh (.int x) a
    | none => none
  | .ldc_w j => match lk (icT o) j with
    | some (x, _) => psh (.int x) a
    | none => none
  | .ldc2_w j => match lk (lcT o) j with
    | some (x, _) => psh (.long x) a
    | none => none
  | .iload n => lodI n a
  | .iload_n n => lodI n.val a
  | .lload n => lodL n a
  | .lload_n n => lodL n.val a
  | .aload n => lodA n a
  | .aload_n n => lodA n.val a
  | .istore n => stoI nL n a
  | .istore_n n => stoI nL n.val a
  | .lstore n => stoL nL n a
  | .lstore_n n => stoL nL n.val a
  | .astore n => stoA nL n a
  | .astore_n n => stoA nL n.val a
  | .iinc j n => match a.1[j]? with
    | some (some (.int x)) => bif Nat.blt j nL then some (((kil a.1 j).set j (some (.int (x + Int32.ofInt n))), a.2.1, a.2.2), none) else none
    | _ => none
  | .iadd => bnI (fun x y => x + y) a
  | .isub => bnI (fun x y => x - y) a
  | .imul => bnI (fun x y => x * y) a
  | .iand => bnI (fun x y => x &&& y) a
  | .ior => bnI (fun x y => x ||| y) a
  | .ixor => bnI (fun x y => x ^^^ y) a
  | .ishl => bnI (fun x y => x <<< (y &&& 31)) a
  | .ishr => bnI (fun x y => x >>> (y &&& 31)) a
  | .iushr => bnI (fun x y => (x.toUInt32 >>> (y.toUInt32 &&& Int32.toUInt32 31)).toInt32) a
  | .idiv => bnD (fun x y => x / y) a
  | .irem => bnD (fun x y => x - x / y * y) a
  | .ineg => match a.2.1 with
    | .int x :: st => some ((a.1, .int (-x) :: st, a.2.2), none)
    | _ => none
  | .ldiv => bnE (fun x y => x / y) a
  | .lrem => bnE (fun x y => x - x / y * y) a
  | .lmul => bnL (fun x y => x * y) a
  | .land => bnL (fun x y => x &&& y) a
  | .lneg => match a.2.1 with
    | .long x :: st => some ((a.1, .long (-x) :: st, a.2.2), none)
    | _ => none
  | .lcmp => match a.2.1 with
    | .long y :: .long x :: st => some ((a.1, .int (lg_cmp x y) :: st, a.2.2), none)
    | _ => none
  | .i2l => match a.2.1 with
    | .int x :: st => some ((a.1, .long x.toInt64 :: st, a.2.2), none)
    | _ => none
  | .i2b => match a.2.1 with
    | .int x :: st => some ((a.1, .int x.toInt8.toInt32 :: st, a.2.2), none)
    | _ => none
  | .dup => match a.2.1 with
    | .int x :: st => some ((a.1, .int x :: .int x :: st, a.2.2), none)
    | .ref x :: st => some ((a.1, .ref x :: .ref x :: st, a.2.2), none)
    | _ => none
  | .dup2 => match a.2.1 with
    | .int x :: .ref y :: st => some ((a.1, .int x :: .ref y :: .int x :: .ref y :: st, a.2.2), none)
    | .int x :: .int y :: st => some ((a.1, .int x :: .int y :: .int x :: .int y :: st, a.2.2), none)
    | _ => none
  | .getfield j => match lk (flT o) j with
    | some (ci, f, _) => gtf ci f a
    | none => none
  | .putfield j => match lk (flT o) j with
    | some (ci, f, _) => ptf ci f a
    | none => none
  | .iaload => match a.2.1 with
    | .int i :: .ref c :: st => some ((a.1, .int (rd a.2.2 c i.toNatClampNeg) :: st, a.2.2), some (oA 1 c i))
    | _ => none
  | .laload => match a.2.1 with
    | .int i :: .ref c :: st => some ((a.1, .long (rl a.2.2 c i.toNatClampNeg) :: st, a.2.2), some (oA 4 c i))
    | _ => none
  | .baload => match a.2.1 with
    | .int i :: .ref c :: st => some ((a.1, .int (rd a.2.2 c i.toNatClampNeg) :: st, a.2.2), some (oA (bif Nat.beq (kd c).1 3 then 3 else 2) c i))
    | _ => none
  | .aaload => match a.2.1 with
    | .int i :: .ref c :: st => some ((a.1, .ref (rf c i.toNatClampNeg) :: st, a.2.2), some (oA 5 c i ∨ oA 6 c i ∨ oA 7 c i))
    | _ => none
  | .iastore => match a.2.1 with
    | .int x :: .int i :: .ref c :: st => some ((a.1, st, wr a.2.2 c i.toNatClampNeg x), some (oA 1 c i))
    | _ => none
  | .lastore => match a.2.1 with
    | .long x :: .int i :: .ref c :: st => some ((a.1, st, wl a.2.2 c i.toNatClampNeg x), some (oA 4 c i))
    | _ => none
  | _ => none
def ilen : Instr → Nat
  | .bipush _ => 2
  | .sipush _ => 3
  | .ldc _ => 2
  | .ldc_w _ => 3
  | .ldc2_w _ => 3
  | .iload _ => 2
  | .lload _ => 2
  | .aload _ => 2
  | .istore _ => 2
  | .lstore _ => 2
  | .astore _ => 2
  | .iinc _ _ => 3
  | .getfield _ => 3
  | .putfield _ => 3
  | _ => 1
def segOK (b : ByteArray) : Nat → List Instr → Bool
  | _, [] => true
  | pc, i :: r => decide (decode b pc = .ok (i, ilen i)) && segOK b (pc + ilen i) r
def segL : List Instr → Nat
  | [] => 0
  | i :: r => ilen i + segL r
def blk (o nL : Nat) : List Instr → AS → Option (AS × Prop)
  | [], a => some (a, True)
  | i :: r, a => match stp o nL i a with
    | none => none
    | some (a1, none) => blk o nL r a1
    | some (a1, some P) => match blk o nL r a1 with
      | none => none
      | some (a2, Q) => some (a2, P ∧ Q)
theorem bltT {i n : Nat} (h : Nat.blt i n = true) : i < n := by
  exact Nat.le_of_ble_eq_true h
section SO
variable {g : Gl} {k : Nat} {md : MD} {pc : Nat} {o : Oc} {cx : Nat}

theorem s_psh {w : Value} {a a' : AS} {P : Option Prop} {n : Nat} (h : psh w a = some (a', P)) (hR : ∀ {lv : List (Option Value)} {st : List Value} {M : Mem}, Rc g k cx md (pc + n) lv (w :: st) M o → Rc g k cx md pc lv st M o) (hn : Rc g k cx md (pc + n) a'.1 a'.2.1 a'.2.2 o) : Rc g k cx md pc a.1 a.2.1 a.2.2 o := by
  cases h
  exact hR hn
theorem s_lodI {i : Nat} {a a' : AS} {P : Option Prop} {n : Nat} (h : lodI i a = some (a', P)) (hR : ∀ {lv : List (Option Value)} {st : List Value} {M : Mem} {x : Int32}, lv[i]? = some (some (.int x)) → Rc g k cx md (pc + n) lv (.int x :: st) M o → Rc g k cx md pc lv st M o) (hn : Rc g k cx md (pc + n) a'.1 a'.2.1 a'.2.2 o) : Rc g k cx md pc a.1 a.2.1 a.2.2 o := by
  unfold lodI at h
  split at h
  · rename_i x hx
    cases h
    exact hR hx hn
  · cases h
theorem s_lodL {i : Nat} {a a' : AS} {P : Option Prop} {n : Nat} (h : lodL i a = some (a', P)) (hR : ∀ {lv : List (Option Value)} {st : List Value} {M : Mem} {x : Int64}, lv[i]? = some (some (.long x)) → Rc g k cx md (pc + n) lv (.long x :: st) M o → Rc g k cx md pc lv st M o) (hn : Rc g k cx md (pc + n) a'.1 a'.2.1 a'.2.2 o) : Rc g k cx md pc a.1 a.2.1 a.2.2 o := by
  unfold lodL at h
  split at h
  · rename_i x hx
    cases h
    exact hR hx hn
  · cases h
theorem s_lodA {i : Nat} {a a' : AS} {P : Option Prop} {n : Nat} (h : lodA i a = some (a', P)) (hR : ∀ {lv : List (Option Value)} {st : List Value} {M : Mem} {x : Nat}, lv[i]? = some (some (.ref x)) → Rc g k cx md (pc + n) lv (.ref x :: st) M o → Rc g k cx md pc lv st M o) (hn : Rc g k cx md (pc + n) a'.1 a'.2.1 a'.2.2 o) : Rc g k cx md pc a.1 a.2.1 a.2.2 o := by
  unfold lodA at h
  split at h
  · rename_i x hx
    cases h
    exact hR hx hn
  · cases h
theorem s_stoI {nL i : Nat} {a a' : AS} {P : Option Prop} {n : Nat} (h : stoI nL i a = some (a', P)) (hR : ∀ {lv : List (Option Value)} {st : List Value} {M : Mem} {x : Int32}, i < nL → Rc g k cx md (pc + n) ((kil lv i).set i (some (.int x))) st M o → Rc g k cx md pc lv (.int x :: st) M o) (hn : Rc g k cx md (pc + n) a'.1 a'.2.1 a'.2.2 o) : Rc g k cx md pc a.1 a.2.1 a.2.2 o := by
  obtain ⟨lv, st, M⟩ := a
  unfold stoI at h
  split at h
  · rename_i x st' hx
    cases hb : Nat.blt i nL with
    | false => rw [hb] at h; cases h
    | true =>
      rw [hb] at h
      cases h
      dsimp only at hx ⊢
      subst hx
      exact hR (bltT hb) hn
  · cases h
theorem s_stoA {nL i : Nat} {a a' : AS} {P : Option Prop} {n : Nat} (h : stoA nL i a = some (a', P)) (hR : ∀ {lv : List (Option Value)} {st : List Value} {M : Mem} {x : Nat}, i < nL → Rc g k cx md (pc + n) ((kil lv i).set i (some (.ref x))) st M o → Rc g k cx md pc lv (.ref x :: st) M o) (hn : Rc g k cx md (pc + n) a'.1 a'.2.1 a'.2.2 o) : Rc g k cx md pc a.1 a.2.1 a.2.2 o := by
  obtain ⟨lv, st, M⟩ := a
  unfold stoA at h
  split at h
  · rename_i x st' hx
    cases hb : Nat.blt i nL with
    | false => rw [hb] at h; cases h
    | true =>
      rw [hb] at h
      cases h
      dsimp only at hx ⊢
      subst hx
      exact hR (bltT hb) hn
  · cases h
theorem s_stoL {nL i : Nat} {a a' : AS} {P : Option Prop} {n : Nat} (h : stoL nL i a = some (a', P)) (hR : ∀ {lv : List (Option Value)} {st : List Value} {M : Mem} {x : Int64}, i + 1 < nL → Rc g k cx md (pc + n) (((kil lv i).set i (some (.long x))).set (i + 1) none) st M o → Rc g k cx md pc lv (.long x :: st) M o) (hn : Rc g k cx md (pc + n) a'.1 a'.2.1 a'.2.2 o) : Rc g k cx md pc a.1 a.2.1 a.2.2 o := by
  obtain ⟨lv, st, M⟩ := a
  unfold stoL at h
  split at h
  · rename_i x st' hx
    cases hb : Nat.blt (i + 1) nL with
    | false => rw [hb] at h; cases h
    | true =>
      rw [hb] at h
      cases h
      dsimp only at hx ⊢
      subst hx
      exact hR (bltT hb) hn
  · cases h
theorem s_bnI {f : Int32 → Int32 → Int32} {a a' : AS} {P : Option Prop} (h : bnI f a = some (a', P)) (hP : ∀ Q, P = some Q → Q) (hR : ∀ {lv : List (Option Value)} {st : List Value} {M : Mem} {x y : Int32}, Rc g k cx md (pc + 1) lv (.int (f x y) :: st) M o → Rc g k cx md pc lv (.int y :: .int x :: st) M o) (hn : Rc g k cx md (pc + 1) a'.1 a'.2.1 a'.2.2 o) : Rc g k cx md pc a.1 a.2.1 a.2.2 o := by
  obtain ⟨lv, st, M⟩ := a
  unfold bnI at h
  split at h
  · rename_i y x st' hx
    cases h
    dsimp only at hx ⊢
    subst hx
    exact hR hn
  · cases h
theorem s_bnD {f : Int32 → Int32 → Int32} {a a' : AS} {P : Option Prop} (h : bnD f a = some (a', P)) (hP : ∀ Q, P = some Q → Q) (hR : ∀ {lv : List (Option Value)} {st : List Value} {M : Mem} {x y : Int32}, ¬ y = 0 → Rc g k cx md (pc + 1) lv (.int (f x y) :: st) M o → Rc g k cx md pc lv (.int y :: .int x :: st) M o) (hn : Rc g k cx md (pc + 1) a'.1 a'.2.1 a'.2.2 o) : Rc g k cx md pc a.1 a.2.1 a.2.2 o := by
  obtain ⟨lv, st, M⟩ := a
  unfold bnD at h
  split at h
  · rename_i y x st' hx
    cases h
    dsimp only at hx ⊢
    subst hx
    exact hR (hP _ rfl) hn
  · cases h
theorem s_bnL {f : Int64 → Int64 → Int64} {a a' : AS} {P : Option Prop} (h : bnL f a = some (a', P)) (hP : ∀ Q, P = some Q → Q) (hR : ∀ {lv : List (Option Value)} {st : List Value} {M : Mem} {x y : Int64}, Rc g k cx md (pc + 1) lv (.long (f x y) :: st) M o → Rc g k cx md pc lv (.long y :: .long x :: st) M o) (hn : Rc g k cx md (pc + 1) a'.1 a'.2.1 a'.2.2 o) : Rc g k cx md pc a.1 a.2.1 a.2.2 o := by
  obtain ⟨lv, st, M⟩ := a
  unfold bnL at h
  split at h
  · rename_i y x st' hx
    cases h
    dsimp only at hx ⊢
    subst hx
    exact hR hn
  · cases h
theorem s_bnE {f : Int64 → Int64 → Int64} {a a' : AS} {P : Option Prop} (h : bnE f a = some (a', P)) (hP : ∀ Q, P = some Q → Q) (hR : ∀ {lv : List (Option Value)} {st : List Value} {M : Mem} {x y : Int64}, ¬ y = 0 → Rc g k cx md (pc + 1) lv (.long (f x y) :: st) M o → Rc g k cx md pc lv (.long y :: .long x :: st) M o) (hn : Rc g k cx md (pc + 1) a'.1 a'.2.1 a'.2.2 o) : Rc g k cx md pc a.1 a.2.1 a.2.2 o := by
  obtain ⟨lv, st, M⟩ := a
  unfold bnE at h
  split at h
  · rename_i y x st' hx
    cases h
    dsimp only at hx ⊢
    subst hx
    exact hR (hP _ rfl) hn
  · cases h
theorem stp_ok {i : Instr} {a a' : AS} {P : Option Prop} (ho : md.1 < 17) (hd : decode md.2.2.1 pc = .ok (i, ilen i)) (h : stp md.1 md.2.2.2.1 i a = some (a', P)) (hP : ∀ Q, P = some Q → Q) (hn : Rc g k cx md (pc + ilen i) a'.1 a'.2.1 a'.2.2 o) : Rc g k cx md pc a.1 a.2.1 a.2.2 o := by
  unfold stp at h
  split at h
  · exact s_psh (n := 1) h (R_iconst hd) hn
  · exact s_psh (n := 2) h (R_bipush hd) hn
  · exact s_psh (n := 3) h (R_sipush hd) hn
  · exact s_psh (n := 1) h (R_lconst hd) hn
  · split at h
    · rename_i x w hx
      exact s_psh (n := 2) h (R_ldc hd (icOK ho hx)) hn
    · cases h
  · split at h
    · rename_i x w hx
      exact s_psh (n := 3) h (R_ldcw hd (icOK ho hx)) hn
    · cases h
  · split at h
    · rename_i x w hx
      exact s_psh (n := 3) h (R_ldc2 hd (lcOK ho hx)) hn
    · cases h
  · exact s_lodI (n := 2) h (R_iload hd) hn
  · exact s_lodI (n := 1) h (R_iload_n hd) hn
  · exact s_lodL (n := 2) h (R_lload hd) hn
  · exact s_lodL (n := 1) h (R_lload_n hd) hn
  · exact s_lodA (n := 2) h (R_aload hd) hn
  · exact s_lodA (n := 1) h (R_aload_n hd) hn
  · exact s_stoI (n := 2) h (R_istore hd) hn
  · exact s_stoI (n := 1) h (R_istore_n hd) hn
  · exact s_stoL (n := 2) h (R_lstore hd) hn
  · exact s_stoL (n := 1) h (R_lstore_n hd) hn
  · exact s_stoA (n := 2) h (R_astore hd) hn
  · exact s_stoA (n := 1) h (R_astore_n hd) hn
  · split at h
    · rename_i j n _ x hx
      cases hb : Nat.blt j md.2.2.2.1 with
      | false => rw [hb] at h; cases h
      | true =>
        rw [hb] at h
        cases h
        exact R_iinc hd hx (bltT hb) hn
    · cases h
  · exact s_bnI h hP (R_iadd hd) hn
  · exact s_bnI h hP (R_isub hd) hn
  · exact s_bnI h hP (R_imul hd) hn
  · exact s_bnI h hP (R_iand hd) hn
  · exact s_bnI h hP (R_ior hd) hn
  · exact s_bnI h hP (R_ixor hd) hn
  · exact s_bnI h hP (R_ishl hd) hn
  · exact s_bnI h hP (R_ishr hd) hn
  · exact s_bnI h hP (R_iushr hd) hn
  · exact s_bnD h hP (R_idiv hd) hn
  · exact s_bnD h hP (R_irem hd) hn
  · obtain ⟨lv, st, M⟩ := a
    split at h
    · rename_i x st' hx
      cases h
      dsimp only at hx ⊢
      subst hx
      exact R_ineg hd hn
    · cases h
  · exact s_bnE h hP (R_ldiv hd) hn
  · exact s_bnE h hP (R_lrem hd) hn
  · exact s_bnL h hP (R_lmul hd) hn
  · exact s_bnL h hP (R_land hd) hn
  · obtain ⟨lv, st, M⟩ := a
    split at h
    · rename_i x st' hx
      cases h
      dsimp only at hx ⊢
      subst hx
      exact R_lneg hd hn
    · cases h
  · obtain ⟨lv, st, M⟩ := a
    split at h
    · rename_i y x st' hx
      cases h
      dsimp only at hx ⊢
      subst hx
      exact R_lcmp hd hn
    · cases h
  · obtain ⟨lv, st, M⟩ := a
    split at h
    · rename_i x st' hx
      cases h
      dsimp only at hx ⊢
      subst hx
      exact R_i2l hd hn
    · cases h
  · obtain ⟨lv, st, M⟩ := a
    split at h
    · rename_i x st' hx
      cases h
      dsimp only at hx ⊢
      subst hx
      exact R_i2b hd hn
    · cases h
  · obtain ⟨lv, st, M⟩ := a
    split at h
    · rename_i x st' hx
      cases h
      dsimp only at hx ⊢
      subst hx
      exact R_dup hd rfl hn
    · rename_i x st' hx
      cases h
      dsimp only at hx ⊢
      subst hx
      exact R_dup hd rfl hn
    · cases h
  · obtain ⟨lv, st, M⟩ := a
    split at h
    · rename_i x y st' hx
      cases h
      dsimp only at hx ⊢
      subst hx
      exact R_dup2 hd rfl rfl hn
    · rename_i x y st' hx
      cases h
      dsimp only at hx ⊢
      subst hx
      exact R_dup2 hd rfl rfl hn
    · cases h
  · split at h
    · rename_i ci f w hf
      obtain ⟨lv, st, M⟩ := a
      unfold gtf at h
      split at h
      · rename_i c st' hx
        cases h
        dsimp only at hx ⊢
        subst hx
        refine R_getfield ho hd hf (hP _ rfl) ?_
        have e : (if frq ci f = true then Value.ref (rf c f) else .int (rd M c f)) = (bif frq ci f then .ref (rf c f) else .int (rd M c f)) := by cases frq ci f <;> rfl
        rw [e]
        exact hn
      · cases h
    · cases h
  · split at h
    · rename_i ci f w hf
      obtain ⟨lv, st, M⟩ := a
      unfold ptf at h
      split at h
      · rename_i x c st' hx
        cases hq : frq ci f with
        | true => rw [hq] at h; cases h
        | false =>
          rw [hq] at h
          cases h
          dsimp only at hx ⊢
          subst hx
          exact R_putfield ho hd hf hq (hP _ rfl) hn
      · cases h
    · cases h
  · obtain ⟨lv, st, M⟩ := a
    split at h
    · rename_i i c st' hx
      cases h
      dsimp only at hx ⊢
      subst hx
      exact R_iaload hd (hP _ rfl) hn
    · cases h
  · obtain ⟨lv, st, M⟩ := a
    split at h
    · rename_i i c st' hx
      cases h
      dsimp only at hx ⊢
      subst hx
      exact R_laload hd (hP _ rfl) hn
    · cases h
  · obtain ⟨lv, st, M⟩ := a
    split at h
    · rename_i i c st' hx
      cases h
      dsimp only at hx ⊢
      subst hx
      have h1 := hP _ rfl
      cases hb : Nat.beq (kd c).1 3 with
      | true => rw [hb] at h1; exact R_zaload hd h1 hn
      | false => rw [hb] at h1; exact R_baload hd h1 hn
    · cases h
  · obtain ⟨lv, st, M⟩ := a
    split at h
    · rename_i i c st' hx
      cases h
      dsimp only at hx ⊢
      subst hx
      rcases hP _ rfl with h1 | h1 | h1
      · exact R_aaload5 hd h1 hn
      · exact R_aaload6 hd h1 hn
      · exact R_aaload7 hd h1 hn
    · cases h
  · obtain ⟨lv, st, M⟩ := a
    split at h
    · rename_i x i c st' hx
      cases h
      dsimp only at hx ⊢
      subst hx
      exact R_iastore hd (hP _ rfl) hn
    · cases h
  · obtain ⟨lv, st, M⟩ := a
    split at h
    · rename_i x i c st' hx
      cases h
      dsimp only at hx ⊢
      subst hx
      exact R_lastore hd (hP _ rfl) hn
    · cases h
  · cases h
theorem R_blk (seg : List Instr) {lv lv1 : List (Option Value)} {st st1 : List Value} {M M1 : Mem} {P : Prop} {pc1 : Nat} (ho : md.1 < 17) (hs : segOK md.2.2.1 pc seg = true) (hb : blk md.1 md.2.2.2.1 seg (lv, st, M) = some ((lv1, st1, M1), P)) (hP : P) (hpc : pc + segL seg = pc1) (hn : Rc g k cx md pc1 lv1 st1 M1 o) : Rc g k cx md pc lv st M o := by
  induction seg generalizing pc lv st M P with
  | nil =>
    cases hb
    subst hpc
    exact hn
  | cons i r ih =>
    simp only [segOK, Bool.and_eq_true, decide_eq_true_eq] at hs
    unfold blk at hb
    split at hb
    · cases hb
    · rename_i a1 h1
      exact stp_ok (a := (lv, st, M)) ho hs.1 h1 (fun Q q => by cases q) (ih (P := P) hs.2 hb hP (by rw [← hpc]; simp only [segL]; omega))
    · rename_i a1 P1 h1
      split at hb
      · cases hb
      · rename_i a2 Q h2
        cases hb
        exact stp_ok (a := (lv, st, M)) ho hs.1 h1 (fun Q q => by cases q; exact hP.1) (ih hs.2 h2 hP.2 (by rw [← hpc]; simp only [segL]; omega))
end SO
end
section
/-! METHODS of the reference, as the tables have them -/
def lvLe : List (Option Value) → List (Option Value) → Prop
  | [], _ => True
  | none :: r, [] => lvLe r []
  | none :: r, _ :: s => lvLe r s
  | some _ :: _, [] => False
  | some _ :: _, none :: _ => False
  | some a :: r, some b :: s => a = b ∧ lvLe r s
theorem lvLe_get : ∀ {l1 l2 : List (Option Value)}, lvLe l1 l2 → ∀ (i : Nat) (v : Value), l1[i]? = some (some v) → l2[i]? = some (some v)
  | [], _, _, i, v, h => by simp at h
  | none :: r, [], hl, i, v, h => by
    cases i with
    | zero => simp at h
    | succ i => have := lvLe_get (l1 := r) (l2 := []) hl i v (by simpa using h); simp at this
  | none :: r, x :: s, hl, i, v, h => by
    cases i with
    | zero => simp at h
    | succ i => have := lvLe_get (l1 := r) (l2 := s) hl i v (by simpa using h); simpa using this
  | some a :: r, some b :: s, hl, i, v, h => by
    cases i with
    | zero => have e := hl.1; subst e; simpa using h
    | succ i => have := lvLe_get (l1 := r) (l2 := s) hl.2 i v (by simpa using h); simpa using this
  | some _ :: _, [], hl, _, _, _ => hl.elim
  | some _ :: _, none :: _, hl, _, _, _ => hl.elim
theorem R_wk {g : Gl} {k cx : Nat} {md : MD} {pc : Nat} {lv lv1 : List (Option Value)} {st : List Value} {M : Mem} {o : Oc} (h : lvLe lv1 lv) (hn : Rc g k cx md pc lv1 st M o) : Rc g k cx md pc lv st M o :=
  fun p e s m sa below meth c H locs A ls R n1 n2 b1 b2 Q hC hP hS hl hR hQ => hn p e s m sa below meth c H locs A ls R n1 n2 b1 b2 Q hC hP hS ⟨hl.1, hl.2.1, fun i w hw => hl.2.2 i w (lvLe_get h i w hw)⟩ hR hQ
theorem lc {a b : Value} {r s : List (Option Value)} (h : a = b) (t : lvLe r s) : lvLe (some a :: r) (some b :: s) := ⟨h, t⟩
theorem ln {x : Option Value} {r s : List (Option Value)} (t : lvLe r s) : lvLe (none :: r) (x :: s) := t
theorem l0 : lvLe [] [] := trivial
theorem vp_lt {i : Int32} {n : Nat} (h : vp_in i n) : i.toNatClampNeg < n := Nat.not_le.mp fun q => h (Or.inr q)
theorem inT1 {i : Nat} {w : Cond} (h : tables_1_1[i]? = some w) (g : goodWord w = true) : w ∈ WD := List.mem_filter.mpr ⟨List.mem_append_right _ (List.mem_append_left _ (List.mem_of_getElem? h)), g⟩
theorem inT2 {i : Nat} {w : Cond} (h : tables_1_2[i]? = some w) (g : goodWord w = true) : w ∈ WD := List.mem_filter.mpr ⟨List.mem_append_right _ (List.mem_append_right _ (List.mem_append_left _ (List.mem_of_getElem? h))), g⟩
theorem inT3 {i : Nat} {w : Cond} (h : tables_1_3[i]? = some w) (g : goodWord w = true) : w ∈ WD := List.mem_filter.mpr ⟨List.mem_append_right _ (List.mem_append_right _ (List.mem_append_right _ (List.mem_append_left _ (List.mem_of_getElem? h)))), g⟩
theorem inT4 {i : Nat} {w : Cond} (h : tables_1_4[i]? = some w) (g : goodWord w = true) : w ∈ WD := List.mem_filter.mpr ⟨List.mem_append_right _ (List.mem_append_right _ (List.mem_append_right _ (List.mem_append_right _ (List.mem_append_left _ (List.mem_of_getElem? h))))), g⟩
theorem inT5 {i : Nat} {w : Cond} (h : tables_1_5[i]? = some w) (g : goodWord w = true) : w ∈ WD := List.mem_filter.mpr ⟨List.mem_append_right _ (List.mem_append_right _ (List.mem_append_right _ (List.mem_append_right _ (List.mem_append_right _ (List.mem_append_left _ (List.mem_of_getElem? h)))))), g⟩
theorem inT6 {i : Nat} {w : Cond} (h : tables_1_6[i]? = some w) (g : goodWord w = true) : w ∈ WD := List.mem_filter.mpr ⟨List.mem_append_right _ (List.mem_append_right _ (List.mem_append_right _ (List.mem_append_right _ (List.mem_append_right _ (List.mem_append_right _ (List.mem_append_left _ (List.mem_of_getElem? h))))))), g⟩
theorem inT7 {i : Nat} {w : Cond} (h : tables_1_7[i]? = some w) (g : goodWord w = true) : w ∈ WD := List.mem_filter.mpr ⟨List.mem_append_right _ (List.mem_append_right _ (List.mem_append_right _ (List.mem_append_right _ (List.mem_append_right _ (List.mem_append_right _ (List.mem_append_right _ (List.mem_append_left _ (List.mem_of_getElem? h)))))))), g⟩
theorem inT8 {i : Nat} {w : Cond} (h : tables_1_8[i]? = some w) (g : goodWord w = true) : w ∈ WD := List.mem_filter.mpr ⟨List.mem_append_right _ (List.mem_append_right _ (List.mem_append_right _ (List.mem_append_right _ (List.mem_append_right _ (List.mem_append_right _ (List.mem_append_right _ (List.mem_append_right _ (List.mem_append_left _ (List.mem_of_getElem? h))))))))), g⟩
theorem inT9 {i : Nat} {w : Cond} (h : tables_1_9[i]? = some w) (g : goodWord w = true) : w ∈ WD := List.mem_filter.mpr ⟨List.mem_append_right _ (List.mem_append_right _ (List.mem_append_right _ (List.mem_append_right _ (List.mem_append_right _ (List.mem_append_right _ (List.mem_append_right _ (List.mem_append_right _ (List.mem_append_right _ (List.mem_of_getElem? h))))))))), g⟩
theorem kdr_30 {r : Nat} (h : r < 24) : 30 + r < NC ∧ kd (30 + r) = (1, 4) := (show ∀ r, r < 24 → 30 + r < NC ∧ kd (30 + r) = (1, 4) by decide +kernel) r h
theorem kdr_54 {r : Nat} (h : r < 24) : 54 + r < NC ∧ kd (54 + r) = (1, 4) := (show ∀ r, r < 24 → 54 + r < NC ∧ kd (54 + r) = (1, 4) by decide +kernel) r h
theorem kdr_78 {r : Nat} (h : r < 160) : 78 + r < NC ∧ kd (78 + r) = (1, 2) := (show ∀ r, r < 160 → 78 + r < NC ∧ kd (78 + r) = (1, 2) by decide +kernel) r h
theorem kdr_238 {r : Nat} (h : r < 160) : 238 + r < NC ∧ kd (238 + r) = (1, 2) := (show ∀ r, r < 160 → 238 + r < NC ∧ kd (238 + r) = (1, 2) by decide +kernel) r h
theorem kdr_398 {r : Nat} (h : r < 80) : 398 + r < NC ∧ kd (398 + r) = (1, 4) := (show ∀ r, r < 80 → 398 + r < NC ∧ kd (398 + r) = (1, 4) by decide +kernel) r h
theorem kdr_478 {r : Nat} (h : r < 16) : 478 + r < NC ∧ kd (478 + r) = (1, 56) := (show ∀ r, r < 16 → 478 + r < NC ∧ kd (478 + r) = (1, 56) by decide +kernel) r h
theorem kdr_494 {r : Nat} (h : r < 3) : 494 + r < NC ∧ kd (494 + r) = (1, 953) := (show ∀ r, r < 3 → 494 + r < NC ∧ kd (494 + r) = (1, 953) by decide +kernel) r h
theorem kdr_497 {r : Nat} (h : r < 10) : 497 + r < NC ∧ kd (497 + r) = (1, 10) := (show ∀ r, r < 10 → 497 + r < NC ∧ kd (497 + r) = (1, 10) by decide +kernel) r h
theorem kdr_507 {r : Nat} (h : r < 13) : 507 + r < NC ∧ kd (507 + r) = (1, 10) := (show ∀ r, r < 13 → 507 + r < NC ∧ kd (507 + r) = (1, 10) by decide +kernel) r h
theorem kdr_520 {r : Nat} (h : r < 13) : 520 + r < NC ∧ kd (520 + r) = (1, 10) := (show ∀ r, r < 13 → 520 + r < NC ∧ kd (520 + r) = (1, 10) by decide +kernel) r h
theorem kdr_533 {r : Nat} (h : r < 1024) : 533 + r < NC ∧ kd (533 + r) = (1, 10) := (show ∀ r, r < 1024 → 533 + r < NC ∧ kd (533 + r) = (1, 10) by decide +kernel) r h
def m12_tellsNothing : MD := (12, yX12_tellsNothing, cX12_tellsNothing, 2, none)
theorem okM_m12_tellsNothing : okM m12_tellsNothing := ⟨by decide +kernel, rfl, Nat.le_of_ble_eq_true rfl, inT6 (i := 209) rfl rfl⟩
def m12_thrown : MD := (12, yX12_thrown, cX12_thrown, 1, (some .int))
theorem okM_m12_thrown : okM m12_thrown := ⟨by decide +kernel, rfl, Nat.le_of_ble_eq_true rfl, inT7 (i := 134) rfl rfl⟩
def m12_bad : MD := (12, yX12_bad, cX12_bad, 4, (some .boolean))
theorem okM_m12_bad : okM m12_bad := ⟨by decide +kernel, rfl, Nat.le_of_ble_eq_true rfl, inT7 (i := 149) rfl rfl⟩
def m12_in : MD := (12, yX12_in, cX12_in, 3, (some .boolean))
theorem okM_m12_in : okM m12_in := ⟨by decide +kernel, rfl, Nat.le_of_ble_eq_true rfl, inT7 (i := 145) rfl rfl⟩
def m12_less : MD := (12, yX12_less, cX12_less, 2, (some .int))
theorem okM_m12_less : okM m12_less := ⟨by decide +kernel, rfl, Nat.le_of_ble_eq_true rfl, inT8 (i := 67) rfl rfl⟩
def m12_more : MD := (12, yX12_more, cX12_more, 2, (some .int))
theorem okM_m12_more : okM m12_more := ⟨by decide +kernel, rfl, Nat.le_of_ble_eq_true rfl, inT8 (i := 70) rfl rfl⟩
def m12_has : MD := (12, yX12_has, cX12_has, 2, (some .boolean))
theorem okM_m12_has : okM m12_has := ⟨by decide +kernel, rfl, Nat.le_of_ble_eq_true rfl, inT8 (i := 97) rfl rfl⟩
def m12_feed : MD := (12, yX12_feed, cX12_feed, 8, (some .int))
theorem okM_m12_feed : okM m12_feed := ⟨by decide +kernel, rfl, Nat.le_of_ble_eq_true rfl, inT7 (i := 138) rfl rfl⟩
def m12_byteAt : MD := (12, yX12_byteAt, cX12_byteAt, 2, (some .int))
theorem okM_m12_byteAt : okM m12_byteAt := ⟨by decide +kernel, rfl, Nat.le_of_ble_eq_true rfl, inT7 (i := 161) rfl rfl⟩
def m12_blanks : MD := (12, yX12_blanks, cX12_blanks, 1, none)
theorem okM_m12_blanks : okM m12_blanks := ⟨by decide +kernel, rfl, Nat.le_of_ble_eq_true rfl, inT7 (i := 157) rfl rfl⟩
def m12_wrong : MD := (12, yX12_wrong, cX12_wrong, 3, none)
theorem okM_m12_wrong : okM m12_wrong := ⟨by decide +kernel, rfl, Nat.le_of_ble_eq_true rfl, inT7 (i := 187) rfl rfl⟩
def m12_isDigit : MD := (12, yX12_isDigit, cX12_isDigit, 1, (some .boolean))
theorem okM_m12_isDigit : okM m12_isDigit := ⟨by decide +kernel, rfl, Nat.le_of_ble_eq_true rfl, inT7 (i := 198) rfl rfl⟩
def m12_isSmall : MD := (12, yX12_isSmall, cX12_isSmall, 1, (some .boolean))
theorem okM_m12_isSmall : okM m12_isSmall := ⟨by decide +kernel, rfl, Nat.le_of_ble_eq_true rfl, inT7 (i := 180) rfl rfl⟩
def m12_number : MD := (12, yX12_number, cX12_number, 5, (some .int))
theorem okM_m12_number : okM m12_number := ⟨by decide +kernel, rfl, Nat.le_of_ble_eq_true rfl, inT7 (i := 195) rfl rfl⟩
def m12_wordHere : MD := (12, yX12_wordHere, cX12_wordHere, 3, (some .int))
theorem okM_m12_wordHere : okM m12_wordHere := ⟨by decide +kernel, rfl, Nat.le_of_ble_eq_true rfl, inT7 (i := 177) rfl rfl⟩
def m12_six : MD := (12, yX12_six, cX12_six, 7, (some .int))
theorem okM_m12_six : okM m12_six := ⟨by decide +kernel, rfl, Nat.le_of_ble_eq_true rfl, inT7 (i := 183) rfl rfl⟩
def m12_isWord : MD := (12, yX12_isWord, cX12_isWord, 7, (some .boolean))
theorem okM_m12_isWord : okM m12_isWord := ⟨by decide +kernel, rfl, Nat.le_of_ble_eq_true rfl, inT7 (i := 173) rfl rfl⟩
def m12_skipWord : MD := (12, yX12_skipWord, cX12_skipWord, 1, none)
theorem okM_m12_skipWord : okM m12_skipWord := ⟨by decide +kernel, rfl, Nat.le_of_ble_eq_true rfl, inT7 (i := 191) rfl rfl⟩
def m12_takes : MD := (12, yX12_takes, cX12_takes, 8, (some .boolean))
theorem okM_m12_takes : okM m12_takes := ⟨by decide +kernel, rfl, Nat.le_of_ble_eq_true rfl, inT8 (i := 3) rfl rfl⟩
def m12_sign : MD := (12, yX12_sign, cX12_sign, 2, none)
theorem okM_m12_sign : okM m12_sign := ⟨by decide +kernel, rfl, Nat.le_of_ble_eq_true rfl, inT7 (i := 207) rfl rfl⟩
def m12_takesSign : MD := (12, yX12_takesSign, cX12_takesSign, 3, (some .boolean))
theorem okM_m12_takesSign : okM m12_takesSign := ⟨by decide +kernel, rfl, Nat.le_of_ble_eq_true rfl, inT8 (i := 11) rfl rfl⟩
def m12_starts : MD := (12, yX12_starts, cX12_starts, 2, none)
theorem okM_m12_starts : okM m12_starts := ⟨by decide +kernel, rfl, Nat.le_of_ble_eq_true rfl, inT7 (i := 153) rfl rfl⟩
def m12_ends2 : MD := (12, yX12_ends2, cX12_ends2, 1, (some .int))
theorem okM_m12_ends2 : okM m12_ends2 := ⟨by decide +kernel, rfl, Nat.le_of_ble_eq_true rfl, inT7 (i := 211) rfl rfl⟩
def m12_kindHere : MD := (12, yX12_kindHere, cX12_kindHere, 1, (some .int))
theorem okM_m12_kindHere : okM m12_kindHere := ⟨by decide +kernel, rfl, Nat.le_of_ble_eq_true rfl, inT7 (i := 169) rfl rfl⟩
def m12_roomHere : MD := (12, yX12_roomHere, cX12_roomHere, 1, (some .int))
theorem okM_m12_roomHere : okM m12_roomHere := ⟨by decide +kernel, rfl, Nat.le_of_ble_eq_true rfl, inT7 (i := 203) rfl rfl⟩
def m12_clause : MD := (12, yX12_clause, cX12_clause, 4, none)
theorem okM_m12_clause : okM m12_clause := ⟨by decide +kernel, rfl, Nat.le_of_ble_eq_true rfl, inT7 (i := 165) rfl rfl⟩
def m12_museum : MD := (12, yX12_museum, cX12_museum, 2, (some .int))
theorem okM_m12_museum : okM m12_museum := ⟨by decide +kernel, rfl, Nat.le_of_ble_eq_true rfl, inT7 (i := 142) rfl rfl⟩
def m12_lays : MD := (12, yX12_lays, cX12_lays, 5, none)
theorem okM_m12_lays : okM m12_lays := ⟨by decide +kernel, rfl, Nat.le_of_ble_eq_true rfl, inT6 (i := 216) rfl rfl⟩
def m12_copies : MD := (12, yX12_copies, cX12_copies, 3, none)
theorem okM_m12_copies : okM m12_copies := ⟨by decide +kernel, rfl, Nat.le_of_ble_eq_true rfl, inT8 (i := 34) rfl rfl⟩
def m12_beginsAnew : MD := (12, yX12_beginsAnew, cX12_beginsAnew, 2, none)
theorem okM_m12_beginsAnew : okM m12_beginsAnew := ⟨by decide +kernel, rfl, Nat.le_of_ble_eq_true rfl, inT6 (i := 213) rfl rfl⟩
def m12_notes : MD := (12, yX12_notes, cX12_notes, 3, none)
theorem okM_m12_notes : okM m12_notes := ⟨by decide +kernel, rfl, Nat.le_of_ble_eq_true rfl, inT7 (i := 235) rfl rfl⟩
def m12_opensOne : MD := (12, yX12_opensOne, cX12_opensOne, 1, (some .boolean))
theorem okM_m12_opensOne : okM m12_opensOne := ⟨by decide +kernel, rfl, Nat.le_of_ble_eq_true rfl, inT7 (i := 231) rfl rfl⟩
def m12_sum : MD := (12, yX12_sum, cX12_sum, 2, none)
theorem okM_m12_sum : okM m12_sum := ⟨by decide +kernel, rfl, Nat.le_of_ble_eq_true rfl, inT7 (i := 219) rfl rfl⟩
def m12_product : MD := (12, yX12_product, cX12_product, 2, none)
theorem okM_m12_product : okM m12_product := ⟨by decide +kernel, rfl, Nat.le_of_ble_eq_true rfl, inT7 (i := 223) rfl rfl⟩
def m12_knownHere : MD := (12, yX12_knownHere, cX12_knownHere, 1, (some .int))
theorem okM_m12_knownHere : okM m12_knownHere := ⟨by decide +kernel, rfl, Nat.le_of_ble_eq_true rfl, inT7 (i := 239) rfl rfl⟩
def m12_isTo : MD := (12, yX12_isTo, cX12_isTo, 2, (some .boolean))
theorem okM_m12_isTo : okM m12_isTo := ⟨by decide +kernel, rfl, Nat.le_of_ble_eq_true rfl, inT8 (i := 7) rfl rfl⟩
def m12_one : MD := (12, yX12_one, cX12_one, 3, none)
theorem okM_m12_one : okM m12_one := ⟨by decide +kernel, rfl, Nat.le_of_ble_eq_true rfl, inT7 (i := 227) rfl rfl⟩
def m12_law : MD := (12, yX12_law, cX12_law, 2, (some .int))
theorem okM_m12_law : okM m12_law := ⟨by decide +kernel, rfl, Nat.le_of_ble_eq_true rfl, inT7 (i := 215) rfl rfl⟩
def m12_by : MD := (12, yX12_by, cX12_by, 3, (some .int))
theorem okM_m12_by : okM m12_by := ⟨by decide +kernel, rfl, Nat.le_of_ble_eq_true rfl, inT8 (i := 64) rfl rfl⟩
def m12_byLaw : MD := (12, yX12_byLaw, cX12_byLaw, 3, (some .int))
theorem okM_m12_byLaw : okM m12_byLaw := ⟨by decide +kernel, rfl, Nat.le_of_ble_eq_true rfl, inT8 (i := 61) rfl rfl⟩
def m12_stepHere : MD := (12, yX12_stepHere, cX12_stepHere, 1, (some .int))
theorem okM_m12_stepHere : okM m12_stepHere := ⟨by decide +kernel, rfl, Nat.le_of_ble_eq_true rfl, inT8 (i := 31) rfl rfl⟩
def m12_readsStep : MD := (12, yX12_readsStep, cX12_readsStep, 3, none)
theorem okM_m12_readsStep : okM m12_readsStep := ⟨by decide +kernel, rfl, Nat.le_of_ble_eq_true rfl, inT8 (i := 27) rfl rfl⟩
def m12_walk : MD := (12, yX12_walk, cX12_walk, 5, (some .int))
theorem okM_m12_walk : okM m12_walk := ⟨by decide +kernel, rfl, Nat.le_of_ble_eq_true rfl, inT8 (i := 15) rfl rfl⟩
def m12_fault : MD := (12, yX12_fault, cX12_fault, 1, (some .int))
theorem okM_m12_fault : okM m12_fault := ⟨by decide +kernel, rfl, Nat.le_of_ble_eq_true rfl, inT8 (i := 19) rfl rfl⟩
def m12_isBarred : MD := (12, yX12_isBarred, cX12_isBarred, 2, (some .boolean))
theorem okM_m12_isBarred : okM m12_isBarred := ⟨by decide +kernel, rfl, Nat.le_of_ble_eq_true rfl, inT8 (i := 53) rfl rfl⟩
def m12_isLawful : MD := (12, yX12_isLawful, cX12_isLawful, 5, (some .boolean))
theorem okM_m12_isLawful : okM m12_isLawful := ⟨by decide +kernel, rfl, Nat.le_of_ble_eq_true rfl, inT8 (i := 57) rfl rfl⟩
def m12_isOpenBy : MD := (12, yX12_isOpenBy, cX12_isOpenBy, 5, (some .boolean))
theorem okM_m12_isOpenBy : okM m12_isOpenBy := ⟨by decide +kernel, rfl, Nat.le_of_ble_eq_true rfl, inT8 (i := 50) rfl rfl⟩
def m12_isOpenIn : MD := (12, yX12_isOpenIn, cX12_isOpenIn, 4, (some .boolean))
theorem okM_m12_isOpenIn : okM m12_isOpenIn := ⟨by decide +kernel, rfl, Nat.le_of_ble_eq_true rfl, inT8 (i := 46) rfl rfl⟩
def m12_does : MD := (12, yX12_does, cX12_does, 6, (some .boolean))
theorem okM_m12_does : okM m12_does := ⟨by decide +kernel, rfl, Nat.le_of_ble_eq_true rfl, inT8 (i := 42) rfl rfl⟩
def m12_goes : MD := (12, yX12_goes, cX12_goes, 5, none)
theorem okM_m12_goes : okM m12_goes := ⟨by decide +kernel, rfl, Nat.le_of_ble_eq_true rfl, inT8 (i := 38) rfl rfl⟩
def m12_work : MD := (12, yX12_work, cX12_work, 2, (some .int))
theorem okM_m12_work : okM m12_work := ⟨by decide +kernel, rfl, Nat.le_of_ble_eq_true rfl, inT8 (i := 23) rfl rfl⟩
def m12_undo : MD := (12, yX12_undo, cX12_undo, 1, (some .int))
theorem okM_m12_undo : okM m12_undo := ⟨by decide +kernel, rfl, Nat.le_of_ble_eq_true rfl, inT8 (i := 74) rfl rfl⟩
def m12_sumOf : MD := (12, yX12_sumOf, cX12_sumOf, 4, (some .int))
theorem okM_m12_sumOf : okM m12_sumOf := ⟨by decide +kernel, rfl, Nat.le_of_ble_eq_true rfl, inT8 (i := 82) rfl rfl⟩
def m12_told : MD := (12, yX12_told, cX12_told, 4, (some .int))
theorem okM_m12_told : okM m12_told := ⟨by decide +kernel, rfl, Nat.le_of_ble_eq_true rfl, inT8 (i := 78) rfl rfl⟩
def m12_isRoom : MD := (12, yX12_isRoom, cX12_isRoom, 2, (some .boolean))
theorem okM_m12_isRoom : okM m12_isRoom := ⟨by decide +kernel, rfl, Nat.le_of_ble_eq_true rfl, inT8 (i := 90) rfl rfl⟩
def m12_isDoor : MD := (12, yX12_isDoor, cX12_isDoor, 2, (some .boolean))
theorem okM_m12_isDoor : okM m12_isDoor := ⟨by decide +kernel, rfl, Nat.le_of_ble_eq_true rfl, inT8 (i := 113) rfl rfl⟩
def m12_toursIn : MD := (12, yX12_toursIn, cX12_toursIn, 4, (some .int))
theorem okM_m12_toursIn : okM m12_toursIn := ⟨by decide +kernel, rfl, Nat.le_of_ble_eq_true rfl, inT8 (i := 101) rfl rfl⟩
def m12_doorsOf : MD := (12, yX12_doorsOf, cX12_doorsOf, 6, (some .int))
theorem okM_m12_doorsOf : okM m12_doorsOf := ⟨by decide +kernel, rfl, Nat.le_of_ble_eq_true rfl, inT8 (i := 105) rfl rfl⟩
def m12_room : MD := (12, yX12_room, cX12_room, 3, (some .int))
theorem okM_m12_room : okM m12_room := ⟨by decide +kernel, rfl, Nat.le_of_ble_eq_true rfl, inT8 (i := 86) rfl rfl⟩
def m12_door : MD := (12, yX12_door, cX12_door, 3, (some .int))
theorem okM_m12_door : okM m12_door := ⟨by decide +kernel, rfl, Nat.le_of_ble_eq_true rfl, inT8 (i := 109) rfl rfl⟩
def m12_tour : MD := (12, yX12_tour, cX12_tour, 2, (some .int))
theorem okM_m12_tour : okM m12_tour := ⟨by decide +kernel, rfl, Nat.le_of_ble_eq_true rfl, inT8 (i := 117) rfl rfl⟩
def m12_open : MD := (12, yX12_open, cX12_open, 4, (some .boolean))
theorem okM_m12_open : okM m12_open := ⟨by decide +kernel, rfl, Nat.le_of_ble_eq_true rfl, inT8 (i := 121) rfl rfl⟩
def m12_isExit : MD := (12, yX12_isExit, cX12_isExit, 2, (some .boolean))
theorem okM_m12_isExit : okM m12_isExit := ⟨by decide +kernel, rfl, Nat.le_of_ble_eq_true rfl, inT8 (i := 94) rfl rfl⟩
def m12_allRooms : MD := (12, yX12_allRooms, cX12_allRooms, 1, (some .int))
theorem okM_m12_allRooms : okM m12_allRooms := ⟨by decide +kernel, rfl, Nat.le_of_ble_eq_true rfl, inT8 (i := 133) rfl rfl⟩
def m12_behind : MD := (12, yX12_behind, cX12_behind, 4, (some .int))
theorem okM_m12_behind : okM m12_behind := ⟨by decide +kernel, rfl, Nat.le_of_ble_eq_true rfl, inT8 (i := 137) rfl rfl⟩
def m12_seen : MD := (12, yX12_seen, cX12_seen, 5, (some .int))
theorem okM_m12_seen : okM m12_seen := ⟨by decide +kernel, rfl, Nat.le_of_ble_eq_true rfl, inT8 (i := 141) rfl rfl⟩
def m12_fitsNow : MD := (12, yX12_fitsNow, cX12_fitsNow, 3, (some .int))
theorem okM_m12_fitsNow : okM m12_fitsNow := ⟨by decide +kernel, rfl, Nat.le_of_ble_eq_true rfl, inT8 (i := 129) rfl rfl⟩
def m12_fits : MD := (12, yX12_fits, cX12_fits, 1, (some .int))
theorem okM_m12_fits : okM m12_fits := ⟨by decide +kernel, rfl, Nat.le_of_ble_eq_true rfl, inT8 (i := 125) rfl rfl⟩
def m12_ends : MD := (12, yX12_ends, cX12_ends, 2, (some .boolean))
theorem okM_m12_ends : okM m12_ends := ⟨by decide +kernel, rfl, Nat.le_of_ble_eq_true rfl, inT8 (i := 145) rfl rfl⟩
def m12_isOne : MD := (12, yX12_isOne, cX12_isOne, 1, (some .boolean))
theorem okM_m12_isOne : okM m12_isOne := ⟨by decide +kernel, rfl, Nat.le_of_ble_eq_true rfl, inT8 (i := 156) rfl rfl⟩
def m12_isKnown : MD := (12, yX12_isKnown, cX12_isKnown, 5, (some .boolean))
theorem okM_m12_isKnown : okM m12_isKnown := ⟨by decide +kernel, rfl, Nat.le_of_ble_eq_true rfl, inT8 (i := 153) rfl rfl⟩
def m12_knows : MD := (12, yX12_knows, cX12_knows, 2, (some .int))
theorem okM_m12_knows : okM m12_knows := ⟨by decide +kernel, rfl, Nat.le_of_ble_eq_true rfl, inT8 (i := 149) rfl rfl⟩
def m12_laysSlips : MD := (12, yX12_laysSlips, cX12_laysSlips, 9, none)
theorem okM_m12_laysSlips : okM m12_laysSlips := ⟨by decide +kernel, rfl, Nat.le_of_ble_eq_true rfl, inT8 (i := 164) rfl rfl⟩
def m12_slips : MD := (12, yX12_slips, cX12_slips, 6, (some .int))
theorem okM_m12_slips : okM m12_slips := ⟨by decide +kernel, rfl, Nat.le_of_ble_eq_true rfl, inT8 (i := 160) rfl rfl⟩
def m12_behindIn : MD := (12, yX12_behindIn, cX12_behindIn, 5, (some .int))
theorem okM_m12_behindIn : okM m12_behindIn := ⟨by decide +kernel, rfl, Nat.le_of_ble_eq_true rfl, inT8 (i := 176) rfl rfl⟩
def m12_soonTo : MD := (12, yX12_soonTo, cX12_soonTo, 5, (some .int))
theorem okM_m12_soonTo : okM m12_soonTo := ⟨by decide +kernel, rfl, Nat.le_of_ble_eq_true rfl, inT8 (i := 172) rfl rfl⟩
def m12_soon : MD := (12, yX12_soon, cX12_soon, 3, (some .int))
theorem okM_m12_soon : okM m12_soon := ⟨by decide +kernel, rfl, Nat.le_of_ble_eq_true rfl, inT8 (i := 168) rfl rfl⟩
def m12_within : MD := (12, yX12_within, cX12_within, 5, (some .int))
theorem okM_m12_within : okM m12_within := ⟨by decide +kernel, rfl, Nat.le_of_ble_eq_true rfl, inT8 (i := 180) rfl rfl⟩
def m12_out : MD := (12, yX12_out, cX12_out, 2, (some .int))
theorem okM_m12_out : okM m12_out := ⟨by decide +kernel, rfl, Nat.le_of_ble_eq_true rfl, inT8 (i := 184) rfl rfl⟩
def m12_laysWays : MD := (12, yX12_laysWays, cX12_laysWays, 4, none)
theorem okM_m12_laysWays : okM m12_laysWays := ⟨by decide +kernel, rfl, Nat.le_of_ble_eq_true rfl, inT8 (i := 192) rfl rfl⟩
def m12_orNone : MD := (12, yX12_orNone, cX12_orNone, 1, (some .int))
theorem okM_m12_orNone : okM m12_orNone := ⟨by decide +kernel, rfl, Nat.le_of_ble_eq_true rfl, inT8 (i := 199) rfl rfl⟩
def m12_stringTo : MD := (12, yX12_stringTo, cX12_stringTo, 4, (some .int))
theorem okM_m12_stringTo : okM m12_stringTo := ⟨by decide +kernel, rfl, Nat.le_of_ble_eq_true rfl, inT8 (i := 196) rfl rfl⟩
def m12_string : MD := (12, yX12_string, cX12_string, 2, (some .int))
theorem okM_m12_string : okM m12_string := ⟨by decide +kernel, rfl, Nat.le_of_ble_eq_true rfl, inT8 (i := 188) rfl rfl⟩
def m12_longest : MD := (12, yX12_longest, cX12_longest, 5, (some .int))
theorem okM_m12_longest : okM m12_longest := ⟨by decide +kernel, rfl, Nat.le_of_ble_eq_true rfl, inT8 (i := 203) rfl rfl⟩
def m12_lost : MD := (12, yX12_lost, cX12_lost, 7, (some .int))
theorem okM_m12_lost : okM m12_lost := ⟨by decide +kernel, rfl, Nat.le_of_ble_eq_true rfl, inT8 (i := 207) rfl rfl⟩
def m12_wingOf : MD := (12, yX12_wingOf, cX12_wingOf, 4, (some .int))
theorem okM_m12_wingOf : okM m12_wingOf := ⟨by decide +kernel, rfl, Nat.le_of_ble_eq_true rfl, inT8 (i := 215) rfl rfl⟩
def m12_wing : MD := (12, yX12_wing, cX12_wing, 2, (some .int))
theorem okM_m12_wing : okM m12_wing := ⟨by decide +kernel, rfl, Nat.le_of_ble_eq_true rfl, inT8 (i := 211) rfl rfl⟩
def m12_cuts : MD := (12, yX12_cuts, cX12_cuts, 8, (some .int))
theorem okM_m12_cuts : okM m12_cuts := ⟨by decide +kernel, rfl, Nat.le_of_ble_eq_true rfl, inT8 (i := 219) rfl rfl⟩
def m12_laysRounds : MD := (12, yX12_laysRounds, cX12_laysRounds, 5, none)
theorem okM_m12_laysRounds : okM m12_laysRounds := ⟨by decide +kernel, rfl, Nat.le_of_ble_eq_true rfl, inT8 (i := 227) rfl rfl⟩
def m12_roundTo : MD := (12, yX12_roundTo, cX12_roundTo, 3, (some .int))
theorem okM_m12_roundTo : okM m12_roundTo := ⟨by decide +kernel, rfl, Nat.le_of_ble_eq_true rfl, inT8 (i := 231) rfl rfl⟩
def m12_round : MD := (12, yX12_round, cX12_round, 2, (some .int))
theorem okM_m12_round : okM m12_round := ⟨by decide +kernel, rfl, Nat.le_of_ble_eq_true rfl, inT8 (i := 223) rfl rfl⟩
def m12_last : MD := (12, yX12_last, cX12_last, 2, (some .int))
theorem okM_m12_last : okM m12_last := ⟨by decide +kernel, rfl, Nat.le_of_ble_eq_true rfl, inT8 (i := 235) rfl rfl⟩
def m12_meet : MD := (12, yX12_meet, cX12_meet, 8, (some .int))
theorem okM_m12_meet : okM m12_meet := ⟨by decide +kernel, rfl, Nat.le_of_ble_eq_true rfl, inT8 (i := 239) rfl rfl⟩
def m12_isMore : MD := (12, yX12_isMore, cX12_isMore, 8, (some .boolean))
theorem okM_m12_isMore : okM m12_isMore := ⟨by decide +kernel, rfl, Nat.le_of_ble_eq_true rfl, inT9 (i := 11) rfl rfl⟩
def m12_flowsTo : MD := (12, yX12_flowsTo, cX12_flowsTo, 6, (some .int))
theorem okM_m12_flowsTo : okM m12_flowsTo := ⟨by decide +kernel, rfl, Nat.le_of_ble_eq_true rfl, inT9 (i := 7) rfl rfl⟩
def m12_parted : MD := (12, yX12_parted, cX12_parted, 8, (some .int))
theorem okM_m12_parted : okM m12_parted := ⟨by decide +kernel, rfl, Nat.le_of_ble_eq_true rfl, inT9 (i := 3) rfl rfl⟩
def m12_quiet : MD := (12, yX12_quiet, cX12_quiet, 12, (some .long))
theorem okM_m12_quiet : okM m12_quiet := ⟨by decide +kernel, rfl, Nat.le_of_ble_eq_true rfl, inT9 (i := 15) rfl rfl⟩
def m12_way : MD := (12, yX12_way, cX12_way, 3, (some .int))
theorem okM_m12_way : okM m12_way := ⟨by decide +kernel, rfl, Nat.le_of_ble_eq_true rfl, inT9 (i := 21) rfl rfl⟩
def m12_next : MD := (12, yX12_next, cX12_next, 4, (some .int))
theorem okM_m12_next : okM m12_next := ⟨by decide +kernel, rfl, Nat.le_of_ble_eq_true rfl, inT9 (i := 25) rfl rfl⟩
def m12_loop : MD := (12, yX12_loop, cX12_loop, 4, (some .int))
theorem okM_m12_loop : okM m12_loop := ⟨by decide +kernel, rfl, Nat.le_of_ble_eq_true rfl, inT9 (i := 29) rfl rfl⟩
def m12_closed : MD := (12, yX12_closed, cX12_closed, 5, (some .int))
theorem okM_m12_closed : okM m12_closed := ⟨by decide +kernel, rfl, Nat.le_of_ble_eq_true rfl, inT9 (i := 33) rfl rfl⟩
def m12_crowded : MD := (12, yX12_crowded, cX12_crowded, 5, (some .int))
theorem okM_m12_crowded : okM m12_crowded := ⟨by decide +kernel, rfl, Nat.le_of_ble_eq_true rfl, inT9 (i := 37) rfl rfl⟩
def m12_worn : MD := (12, yX12_worn, cX12_worn, 5, (some .int))
theorem okM_m12_worn : okM m12_worn := ⟨by decide +kernel, rfl, Nat.le_of_ble_eq_true rfl, inT9 (i := 41) rfl rfl⟩
def m12_walksBy : MD := (12, yX12_walksBy, cX12_walksBy, 9, (some .int))
theorem okM_m12_walksBy : okM m12_walksBy := ⟨by decide +kernel, rfl, Nat.le_of_ble_eq_true rfl, inT9 (i := 49) rfl rfl⟩
def m12_behindDoor : MD := (12, yX12_behindDoor, cX12_behindDoor, 6, (some .int))
theorem okM_m12_behindDoor : okM m12_behindDoor := ⟨by decide +kernel, rfl, Nat.le_of_ble_eq_true rfl, inT9 (i := 54) rfl rfl⟩
def m12_ones : MD := (12, yX12_ones, cX12_ones, 3, (some .int))
theorem okM_m12_ones : okM m12_ones := ⟨by decide +kernel, rfl, Nat.le_of_ble_eq_true rfl, inT9 (i := 57) rfl rfl⟩
def m12_sleepwalk : MD := (12, yX12_sleepwalk, cX12_sleepwalk, 6, (some .int))
theorem okM_m12_sleepwalk : okM m12_sleepwalk := ⟨by decide +kernel, rfl, Nat.le_of_ble_eq_true rfl, inT9 (i := 45) rfl rfl⟩
def m12_span : MD := (12, yX12_span, cX12_span, 10, (some .int))
theorem okM_m12_span : okM m12_span := ⟨by decide +kernel, rfl, Nat.le_of_ble_eq_true rfl, inT9 (i := 61) rfl rfl⟩
def m12_puts : MD := (12, yX12_puts, cX12_puts, 4, (some .int))
theorem okM_m12_puts : okM m12_puts := ⟨by decide +kernel, rfl, Nat.le_of_ble_eq_true rfl, inT9 (i := 73) rfl rfl⟩
def m12_putsAll : MD := (12, yX12_putsAll, cX12_putsAll, 5, none)
theorem okM_m12_putsAll : okM m12_putsAll := ⟨by decide +kernel, rfl, Nat.le_of_ble_eq_true rfl, inT9 (i := 69) rfl rfl⟩
def m12_image : MD := (12, yX12_image, cX12_image, 1, (some .int))
theorem okM_m12_image : okM m12_image := ⟨by decide +kernel, rfl, Nat.le_of_ble_eq_true rfl, inT9 (i := 65) rfl rfl⟩
def m12_restore : MD := (12, yX12_restore, cX12_restore, 1, (some .int))
theorem okM_m12_restore : okM m12_restore := ⟨by decide +kernel, rfl, Nat.le_of_ble_eq_true rfl, inT9 (i := 77) rfl rfl⟩
def m12_status : MD := (12, yX12_status, cX12_status, 2, (some .int))
theorem okM_m12_status : okM m12_status := ⟨by decide +kernel, rfl, Nat.le_of_ble_eq_true rfl, inT9 (i := 81) rfl rfl⟩
def m12_count : MD := (12, yX12_count, cX12_count, 2, (some .int))
theorem okM_m12_count : okM m12_count := ⟨by decide +kernel, rfl, Nat.le_of_ble_eq_true rfl, inT9 (i := 85) rfl rfl⟩
theorem S12_135 : okS 12 135 1 m12_isDigit := ⟨okM_m12_isDigit, ⟨by decide +kernel, by decide +kernel, by decide +kernel⟩, inT7 (i := 196) rfl rfl, inT1 (i := 13) rfl rfl, inT7 (i := 197) rfl rfl⟩
theorem S12_144 : okS 12 144 3 m12_in := ⟨okM_m12_in, ⟨by decide +kernel, by decide +kernel, by decide +kernel⟩, inT7 (i := 143) rfl rfl, inT1 (i := 13) rfl rfl, inT7 (i := 144) rfl rfl⟩
theorem S12_148 : okS 12 148 1 m12_isSmall := ⟨okM_m12_isSmall, ⟨by decide +kernel, by decide +kernel, by decide +kernel⟩, inT7 (i := 178) rfl rfl, inT1 (i := 13) rfl rfl, inT7 (i := 179) rfl rfl⟩
theorem S12_155 : okS 12 155 6 m12_six := ⟨okM_m12_six, ⟨by decide +kernel, by decide +kernel, by decide +kernel⟩, inT7 (i := 181) rfl rfl, inT1 (i := 13) rfl rfl, inT7 (i := 182) rfl rfl⟩
theorem S12_199 : okS 12 199 3 m12_lays := ⟨okM_m12_lays, ⟨by decide +kernel, by decide +kernel, by decide +kernel⟩, inT6 (i := 214) rfl rfl, inT1 (i := 13) rfl rfl, inT6 (i := 215) rfl rfl⟩
theorem S12_249 : okS 12 249 2 m12_less := ⟨okM_m12_less, ⟨by decide +kernel, by decide +kernel, by decide +kernel⟩, inT8 (i := 65) rfl rfl, inT1 (i := 13) rfl rfl, inT8 (i := 66) rfl rfl⟩
theorem S12_252 : okS 12 252 2 m12_more := ⟨okM_m12_more, ⟨by decide +kernel, by decide +kernel, by decide +kernel⟩, inT8 (i := 68) rfl rfl, inT1 (i := 13) rfl rfl, inT8 (i := 69) rfl rfl⟩
theorem S12_255 : okS 12 255 3 m12_by := ⟨okM_m12_by, ⟨by decide +kernel, by decide +kernel, by decide +kernel⟩, inT8 (i := 62) rfl rfl, inT1 (i := 13) rfl rfl, inT8 (i := 63) rfl rfl⟩
theorem S12_271 : okS 12 271 2 m12_isBarred := ⟨okM_m12_isBarred, ⟨by decide +kernel, by decide +kernel, by decide +kernel⟩, inT8 (i := 51) rfl rfl, inT1 (i := 13) rfl rfl, inT8 (i := 52) rfl rfl⟩
theorem S12_299 : okS 12 299 2 m12_copies := ⟨okM_m12_copies, ⟨by decide +kernel, by decide +kernel, by decide +kernel⟩, inT8 (i := 32) rfl rfl, inT1 (i := 13) rfl rfl, inT8 (i := 33) rfl rfl⟩
theorem S12_321 : okS 12 321 2 m12_has := ⟨okM_m12_has, ⟨by decide +kernel, by decide +kernel, by decide +kernel⟩, inT8 (i := 95) rfl rfl, inT1 (i := 13) rfl rfl, inT8 (i := 96) rfl rfl⟩
theorem S12_337 : okS 12 337 1 m12_isOne := ⟨okM_m12_isOne, ⟨by decide +kernel, by decide +kernel, by decide +kernel⟩, inT8 (i := 154) rfl rfl, inT1 (i := 13) rfl rfl, inT8 (i := 155) rfl rfl⟩
theorem S12_352 : okS 12 352 1 m12_orNone := ⟨okM_m12_orNone, ⟨by decide +kernel, by decide +kernel, by decide +kernel⟩, inT8 (i := 197) rfl rfl, inT1 (i := 13) rfl rfl, inT8 (i := 198) rfl rfl⟩
theorem S12_396 : okS 12 396 1 m12_ones := ⟨okM_m12_ones, ⟨by decide +kernel, by decide +kernel, by decide +kernel⟩, inT9 (i := 55) rfl rfl, inT1 (i := 13) rfl rfl, inT9 (i := 56) rfl rfl⟩
theorem V12_104 : okV 12 104 0 m12_tellsNothing := ⟨Nat.le_of_ble_eq_true rfl, okM_m12_tellsNothing, ⟨by decide +kernel, by decide +kernel, by decide +kernel⟩, inT6 (i := 206) rfl rfl, inT1 (i := 13) rfl rfl, inT6 (i := 208) rfl rfl, inS (i := 45) rfl rfl⟩
theorem V12_107 : okV 12 107 0 m12_beginsAnew := ⟨Nat.le_of_ble_eq_true rfl, okM_m12_beginsAnew, ⟨by decide +kernel, by decide +kernel, by decide +kernel⟩, inT6 (i := 210) rfl rfl, inT1 (i := 13) rfl rfl, inT6 (i := 212) rfl rfl, inS (i := 46) rfl rfl⟩
theorem V12_122 : okV 12 122 1 m12_byteAt := ⟨Nat.le_of_ble_eq_true rfl, okM_m12_byteAt, ⟨by decide +kernel, by decide +kernel, by decide +kernel⟩, inT7 (i := 158) rfl rfl, inT1 (i := 13) rfl rfl, inT7 (i := 160) rfl rfl, inS (i := 50) rfl rfl⟩
theorem V12_132 : okV 12 132 0 m12_blanks := ⟨Nat.le_of_ble_eq_true rfl, okM_m12_blanks, ⟨by decide +kernel, by decide +kernel, by decide +kernel⟩, inT7 (i := 154) rfl rfl, inT1 (i := 13) rfl rfl, inT7 (i := 156) rfl rfl, inS (i := 49) rfl rfl⟩
theorem V12_139 : okV 12 139 2 m12_wrong := ⟨Nat.le_of_ble_eq_true rfl, okM_m12_wrong, ⟨by decide +kernel, by decide +kernel, by decide +kernel⟩, inT7 (i := 184) rfl rfl, inT1 (i := 13) rfl rfl, inT7 (i := 186) rfl rfl, inS (i := 55) rfl rfl⟩
theorem V12_151 : okV 12 151 0 m12_wordHere := ⟨Nat.le_of_ble_eq_true rfl, okM_m12_wordHere, ⟨by decide +kernel, by decide +kernel, by decide +kernel⟩, inT7 (i := 174) rfl rfl, inT1 (i := 13) rfl rfl, inT7 (i := 176) rfl rfl, inS (i := 54) rfl rfl⟩
theorem V12_159 : okV 12 159 6 m12_isWord := ⟨Nat.le_of_ble_eq_true rfl, okM_m12_isWord, ⟨by decide +kernel, by decide +kernel, by decide +kernel⟩, inT7 (i := 170) rfl rfl, inT1 (i := 13) rfl rfl, inT7 (i := 172) rfl rfl, inS (i := 53) rfl rfl⟩
theorem V12_163 : okV 12 163 0 m12_skipWord := ⟨Nat.le_of_ble_eq_true rfl, okM_m12_skipWord, ⟨by decide +kernel, by decide +kernel, by decide +kernel⟩, inT7 (i := 188) rfl rfl, inT1 (i := 13) rfl rfl, inT7 (i := 190) rfl rfl, inS (i := 56) rfl rfl⟩
theorem V12_172 : okV 12 172 2 m12_number := ⟨Nat.le_of_ble_eq_true rfl, okM_m12_number, ⟨by decide +kernel, by decide +kernel, by decide +kernel⟩, inT7 (i := 192) rfl rfl, inT1 (i := 13) rfl rfl, inT7 (i := 194) rfl rfl, inS (i := 57) rfl rfl⟩
theorem V12_176 : okV 12 176 0 m12_kindHere := ⟨Nat.le_of_ble_eq_true rfl, okM_m12_kindHere, ⟨by decide +kernel, by decide +kernel, by decide +kernel⟩, inT7 (i := 166) rfl rfl, inT1 (i := 13) rfl rfl, inT7 (i := 168) rfl rfl, inS (i := 52) rfl rfl⟩
theorem V12_179 : okV 12 179 0 m12_roomHere := ⟨Nat.le_of_ble_eq_true rfl, okM_m12_roomHere, ⟨by decide +kernel, by decide +kernel, by decide +kernel⟩, inT7 (i := 200) rfl rfl, inT1 (i := 13) rfl rfl, inT7 (i := 202) rfl rfl, inS (i := 58) rfl rfl⟩
theorem V12_182 : okV 12 182 1 m12_sign := ⟨Nat.le_of_ble_eq_true rfl, okM_m12_sign, ⟨by decide +kernel, by decide +kernel, by decide +kernel⟩, inT7 (i := 204) rfl rfl, inT1 (i := 13) rfl rfl, inT7 (i := 206) rfl rfl, inS (i := 59) rfl rfl⟩
theorem V12_186 : okV 12 186 3 m12_bad := ⟨Nat.le_of_ble_eq_true rfl, okM_m12_bad, ⟨by decide +kernel, by decide +kernel, by decide +kernel⟩, inT7 (i := 146) rfl rfl, inT1 (i := 13) rfl rfl, inT7 (i := 148) rfl rfl, inS (i := 47) rfl rfl⟩
theorem V12_190 : okV 12 190 1 m12_starts := ⟨Nat.le_of_ble_eq_true rfl, okM_m12_starts, ⟨by decide +kernel, by decide +kernel, by decide +kernel⟩, inT7 (i := 150) rfl rfl, inT1 (i := 13) rfl rfl, inT7 (i := 152) rfl rfl, inS (i := 48) rfl rfl⟩
theorem V12_193 : okV 12 193 0 m12_clause := ⟨Nat.le_of_ble_eq_true rfl, okM_m12_clause, ⟨by decide +kernel, by decide +kernel, by decide +kernel⟩, inT7 (i := 162) rfl rfl, inT1 (i := 13) rfl rfl, inT7 (i := 164) rfl rfl, inS (i := 51) rfl rfl⟩
theorem V12_196 : okV 12 196 0 m12_ends2 := ⟨Nat.le_of_ble_eq_true rfl, okM_m12_ends2, ⟨by decide +kernel, by decide +kernel, by decide +kernel⟩, inT7 (i := 208) rfl rfl, inT1 (i := 13) rfl rfl, inT7 (i := 210) rfl rfl, inS (i := 60) rfl rfl⟩
theorem V12_221 : okV 12 221 0 m12_product := ⟨Nat.le_of_ble_eq_true rfl, okM_m12_product, ⟨by decide +kernel, by decide +kernel, by decide +kernel⟩, inT7 (i := 220) rfl rfl, inT1 (i := 13) rfl rfl, inT7 (i := 222) rfl rfl, inS (i := 62) rfl rfl⟩
theorem V12_224 : okV 12 224 1 m12_takesSign := ⟨Nat.le_of_ble_eq_true rfl, okM_m12_takesSign, ⟨by decide +kernel, by decide +kernel, by decide +kernel⟩, inT8 (i := 8) rfl rfl, inT1 (i := 13) rfl rfl, inT8 (i := 10) rfl rfl, inS (i := 69) rfl rfl⟩
theorem V12_227 : okV 12 227 2 m12_notes := ⟨Nat.le_of_ble_eq_true rfl, okM_m12_notes, ⟨by decide +kernel, by decide +kernel, by decide +kernel⟩, inT7 (i := 232) rfl rfl, inT1 (i := 13) rfl rfl, inT7 (i := 234) rfl rfl, inS (i := 65) rfl rfl⟩
theorem V12_230 : okV 12 230 0 m12_one := ⟨Nat.le_of_ble_eq_true rfl, okM_m12_one, ⟨by decide +kernel, by decide +kernel, by decide +kernel⟩, inT7 (i := 224) rfl rfl, inT1 (i := 13) rfl rfl, inT7 (i := 226) rfl rfl, inS (i := 63) rfl rfl⟩
theorem V12_233 : okV 12 233 6 m12_takes := ⟨Nat.le_of_ble_eq_true rfl, okM_m12_takes, ⟨by decide +kernel, by decide +kernel, by decide +kernel⟩, inT8 (i := 0) rfl rfl, inT1 (i := 13) rfl rfl, inT8 (i := 2) rfl rfl, inS (i := 67) rfl rfl⟩
theorem V12_236 : okV 12 236 0 m12_isTo := ⟨Nat.le_of_ble_eq_true rfl, okM_m12_isTo, ⟨by decide +kernel, by decide +kernel, by decide +kernel⟩, inT8 (i := 4) rfl rfl, inT1 (i := 13) rfl rfl, inT8 (i := 6) rfl rfl, inS (i := 68) rfl rfl⟩
theorem V12_240 : okV 12 240 0 m12_opensOne := ⟨Nat.le_of_ble_eq_true rfl, okM_m12_opensOne, ⟨by decide +kernel, by decide +kernel, by decide +kernel⟩, inT7 (i := 228) rfl rfl, inT1 (i := 13) rfl rfl, inT7 (i := 230) rfl rfl, inS (i := 64) rfl rfl⟩
theorem V12_243 : okV 12 243 0 m12_sum := ⟨Nat.le_of_ble_eq_true rfl, okM_m12_sum, ⟨by decide +kernel, by decide +kernel, by decide +kernel⟩, inT7 (i := 216) rfl rfl, inT1 (i := 13) rfl rfl, inT7 (i := 218) rfl rfl, inS (i := 61) rfl rfl⟩
theorem V12_246 : okV 12 246 0 m12_knownHere := ⟨Nat.le_of_ble_eq_true rfl, okM_m12_knownHere, ⟨by decide +kernel, by decide +kernel, by decide +kernel⟩, inT7 (i := 236) rfl rfl, inT1 (i := 13) rfl rfl, inT7 (i := 238) rfl rfl, inS (i := 66) rfl rfl⟩
theorem V12_259 : okV 12 259 0 m12_stepHere := ⟨Nat.le_of_ble_eq_true rfl, okM_m12_stepHere, ⟨by decide +kernel, by decide +kernel, by decide +kernel⟩, inT8 (i := 28) rfl rfl, inT1 (i := 13) rfl rfl, inT8 (i := 30) rfl rfl, inS (i := 71) rfl rfl⟩
theorem V12_265 : okV 12 265 0 m12_readsStep := ⟨Nat.le_of_ble_eq_true rfl, okM_m12_readsStep, ⟨by decide +kernel, by decide +kernel, by decide +kernel⟩, inT8 (i := 24) rfl rfl, inT1 (i := 13) rfl rfl, inT8 (i := 26) rfl rfl, inS (i := 70) rfl rfl⟩
theorem V12_268 : okV 12 268 0 m12_byLaw := ⟨Nat.le_of_ble_eq_true rfl, okM_m12_byLaw, ⟨by decide +kernel, by decide +kernel, by decide +kernel⟩, inT8 (i := 58) rfl rfl, inT1 (i := 13) rfl rfl, inT8 (i := 60) rfl rfl, inS (i := 77) rfl rfl⟩
theorem V12_275 : okV 12 275 4 m12_isLawful := ⟨Nat.le_of_ble_eq_true rfl, okM_m12_isLawful, ⟨by decide +kernel, by decide +kernel, by decide +kernel⟩, inT8 (i := 54) rfl rfl, inT1 (i := 13) rfl rfl, inT8 (i := 56) rfl rfl, inS (i := 76) rfl rfl⟩
theorem V12_279 : okV 12 279 4 m12_isOpenBy := ⟨Nat.le_of_ble_eq_true rfl, okM_m12_isOpenBy, ⟨by decide +kernel, by decide +kernel, by decide +kernel⟩, inT8 (i := 47) rfl rfl, inT1 (i := 13) rfl rfl, inT8 (i := 49) rfl rfl, inS (i := 75) rfl rfl⟩
theorem V12_282 : okV 12 282 3 m12_isOpenIn := ⟨Nat.le_of_ble_eq_true rfl, okM_m12_isOpenIn, ⟨by decide +kernel, by decide +kernel, by decide +kernel⟩, inT8 (i := 43) rfl rfl, inT1 (i := 13) rfl rfl, inT8 (i := 45) rfl rfl, inS (i := 74) rfl rfl⟩
theorem V12_289 : okV 12 289 2 m12_goes := ⟨Nat.le_of_ble_eq_true rfl, okM_m12_goes, ⟨by decide +kernel, by decide +kernel, by decide +kernel⟩, inT8 (i := 35) rfl rfl, inT1 (i := 13) rfl rfl, inT8 (i := 37) rfl rfl, inS (i := 72) rfl rfl⟩
theorem V12_292 : okV 12 292 2 m12_does := ⟨Nat.le_of_ble_eq_true rfl, okM_m12_does, ⟨by decide +kernel, by decide +kernel, by decide +kernel⟩, inT8 (i := 39) rfl rfl, inT1 (i := 13) rfl rfl, inT8 (i := 41) rfl rfl, inS (i := 73) rfl rfl⟩
theorem V12_303 : okV 12 303 1 m12_sumOf := ⟨Nat.le_of_ble_eq_true rfl, okM_m12_sumOf, ⟨by decide +kernel, by decide +kernel, by decide +kernel⟩, inT8 (i := 79) rfl rfl, inT1 (i := 13) rfl rfl, inT8 (i := 81) rfl rfl, inS (i := 78) rfl rfl⟩
theorem V12_306 : okV 12 306 1 m12_isRoom := ⟨Nat.le_of_ble_eq_true rfl, okM_m12_isRoom, ⟨by decide +kernel, by decide +kernel, by decide +kernel⟩, inT8 (i := 87) rfl rfl, inT1 (i := 13) rfl rfl, inT8 (i := 89) rfl rfl, inS (i := 79) rfl rfl⟩
theorem V12_309 : okV 12 309 1 m12_isExit := ⟨Nat.le_of_ble_eq_true rfl, okM_m12_isExit, ⟨by decide +kernel, by decide +kernel, by decide +kernel⟩, inT8 (i := 91) rfl rfl, inT1 (i := 13) rfl rfl, inT8 (i := 93) rfl rfl, inS (i := 80) rfl rfl⟩
theorem V12_312 : okV 12 312 1 m12_toursIn := ⟨Nat.le_of_ble_eq_true rfl, okM_m12_toursIn, ⟨by decide +kernel, by decide +kernel, by decide +kernel⟩, inT8 (i := 98) rfl rfl, inT1 (i := 13) rfl rfl, inT8 (i := 100) rfl rfl, inS (i := 81) rfl rfl⟩
theorem V12_315 : okV 12 315 3 m12_doorsOf := ⟨Nat.le_of_ble_eq_true rfl, okM_m12_doorsOf, ⟨by decide +kernel, by decide +kernel, by decide +kernel⟩, inT8 (i := 102) rfl rfl, inT1 (i := 13) rfl rfl, inT8 (i := 104) rfl rfl, inS (i := 82) rfl rfl⟩
theorem V12_318 : okV 12 318 1 m12_isDoor := ⟨Nat.le_of_ble_eq_true rfl, okM_m12_isDoor, ⟨by decide +kernel, by decide +kernel, by decide +kernel⟩, inT8 (i := 110) rfl rfl, inT1 (i := 13) rfl rfl, inT8 (i := 112) rfl rfl, inS (i := 83) rfl rfl⟩
theorem V12_325 : okV 12 325 0 m12_allRooms := ⟨Nat.le_of_ble_eq_true rfl, okM_m12_allRooms, ⟨by decide +kernel, by decide +kernel, by decide +kernel⟩, inT8 (i := 130) rfl rfl, inT1 (i := 13) rfl rfl, inT8 (i := 132) rfl rfl, inS (i := 85) rfl rfl⟩
theorem V12_328 : okV 12 328 1 m12_behind := ⟨Nat.le_of_ble_eq_true rfl, okM_m12_behind, ⟨by decide +kernel, by decide +kernel, by decide +kernel⟩, inT8 (i := 134) rfl rfl, inT1 (i := 13) rfl rfl, inT8 (i := 136) rfl rfl, inS (i := 86) rfl rfl⟩
theorem V12_331 : okV 12 331 2 m12_seen := ⟨Nat.le_of_ble_eq_true rfl, okM_m12_seen, ⟨by decide +kernel, by decide +kernel, by decide +kernel⟩, inT8 (i := 138) rfl rfl, inT1 (i := 13) rfl rfl, inT8 (i := 140) rfl rfl, inS (i := 87) rfl rfl⟩
theorem V12_334 : okV 12 334 0 m12_fitsNow := ⟨Nat.le_of_ble_eq_true rfl, okM_m12_fitsNow, ⟨by decide +kernel, by decide +kernel, by decide +kernel⟩, inT8 (i := 126) rfl rfl, inT1 (i := 13) rfl rfl, inT8 (i := 128) rfl rfl, inS (i := 84) rfl rfl⟩
theorem V12_340 : okV 12 340 2 m12_isKnown := ⟨Nat.le_of_ble_eq_true rfl, okM_m12_isKnown, ⟨by decide +kernel, by decide +kernel, by decide +kernel⟩, inT8 (i := 150) rfl rfl, inT1 (i := 13) rfl rfl, inT8 (i := 152) rfl rfl, inS (i := 88) rfl rfl⟩
theorem V12_343 : okV 12 343 0 m12_laysSlips := ⟨Nat.le_of_ble_eq_true rfl, okM_m12_laysSlips, ⟨by decide +kernel, by decide +kernel, by decide +kernel⟩, inT8 (i := 161) rfl rfl, inT1 (i := 13) rfl rfl, inT8 (i := 163) rfl rfl, inS (i := 89) rfl rfl⟩
theorem V12_346 : okV 12 346 2 m12_behindIn := ⟨Nat.le_of_ble_eq_true rfl, okM_m12_behindIn, ⟨by decide +kernel, by decide +kernel, by decide +kernel⟩, inT8 (i := 173) rfl rfl, inT1 (i := 13) rfl rfl, inT8 (i := 175) rfl rfl, inS (i := 91) rfl rfl⟩
theorem V12_349 : okV 12 349 2 m12_soonTo := ⟨Nat.le_of_ble_eq_true rfl, okM_m12_soonTo, ⟨by decide +kernel, by decide +kernel, by decide +kernel⟩, inT8 (i := 169) rfl rfl, inT1 (i := 13) rfl rfl, inT8 (i := 171) rfl rfl, inS (i := 90) rfl rfl⟩
theorem V12_355 : okV 12 355 0 m12_laysWays := ⟨Nat.le_of_ble_eq_true rfl, okM_m12_laysWays, ⟨by decide +kernel, by decide +kernel, by decide +kernel⟩, inT8 (i := 189) rfl rfl, inT1 (i := 13) rfl rfl, inT8 (i := 191) rfl rfl, inS (i := 92) rfl rfl⟩
theorem V12_358 : okV 12 358 1 m12_stringTo := ⟨Nat.le_of_ble_eq_true rfl, okM_m12_stringTo, ⟨by decide +kernel, by decide +kernel, by decide +kernel⟩, inT8 (i := 193) rfl rfl, inT1 (i := 13) rfl rfl, inT8 (i := 195) rfl rfl, inS (i := 93) rfl rfl⟩
theorem V12_361 : okV 12 361 1 m12_wingOf := ⟨Nat.le_of_ble_eq_true rfl, okM_m12_wingOf, ⟨by decide +kernel, by decide +kernel, by decide +kernel⟩, inT8 (i := 212) rfl rfl, inT1 (i := 13) rfl rfl, inT8 (i := 214) rfl rfl, inS (i := 94) rfl rfl⟩
theorem V12_364 : okV 12 364 1 m12_laysRounds := ⟨Nat.le_of_ble_eq_true rfl, okM_m12_laysRounds, ⟨by decide +kernel, by decide +kernel, by decide +kernel⟩, inT8 (i := 224) rfl rfl, inT1 (i := 13) rfl rfl, inT8 (i := 226) rfl rfl, inS (i := 95) rfl rfl⟩
theorem V12_367 : okV 12 367 0 m12_roundTo := ⟨Nat.le_of_ble_eq_true rfl, okM_m12_roundTo, ⟨by decide +kernel, by decide +kernel, by decide +kernel⟩, inT8 (i := 228) rfl rfl, inT1 (i := 13) rfl rfl, inT8 (i := 230) rfl rfl, inS (i := 96) rfl rfl⟩
theorem V12_373 : okV 12 373 3 m12_isMore := ⟨Nat.le_of_ble_eq_true rfl, okM_m12_isMore, ⟨by decide +kernel, by decide +kernel, by decide +kernel⟩, inT9 (i := 8) rfl rfl, inT1 (i := 13) rfl rfl, inT9 (i := 10) rfl rfl, inS (i := 98) rfl rfl⟩
theorem V12_376 : okV 12 376 3 m12_flowsTo := ⟨Nat.le_of_ble_eq_true rfl, okM_m12_flowsTo, ⟨by decide +kernel, by decide +kernel, by decide +kernel⟩, inT9 (i := 4) rfl rfl, inT1 (i := 13) rfl rfl, inT9 (i := 6) rfl rfl, inS (i := 97) rfl rfl⟩
theorem V12_390 : okV 12 390 3 m12_behindDoor := ⟨Nat.le_of_ble_eq_true rfl, okM_m12_behindDoor, ⟨by decide +kernel, by decide +kernel, by decide +kernel⟩, inT9 (i := 51) rfl rfl, inT1 (i := 13) rfl rfl, inT9 (i := 53) rfl rfl, inS (i := 100) rfl rfl⟩
theorem V12_393 : okV 12 393 3 m12_walksBy := ⟨Nat.le_of_ble_eq_true rfl, okM_m12_walksBy, ⟨by decide +kernel, by decide +kernel, by decide +kernel⟩, inT9 (i := 46) rfl rfl, inT1 (i := 13) rfl rfl, inT9 (i := 48) rfl rfl, inS (i := 99) rfl rfl⟩
theorem V12_402 : okV 12 402 3 m12_puts := ⟨Nat.le_of_ble_eq_true rfl, okM_m12_puts, ⟨by decide +kernel, by decide +kernel, by decide +kernel⟩, inT9 (i := 70) rfl rfl, inT1 (i := 13) rfl rfl, inT9 (i := 72) rfl rfl, inS (i := 102) rfl rfl⟩
theorem V12_406 : okV 12 406 2 m12_putsAll := ⟨Nat.le_of_ble_eq_true rfl, okM_m12_putsAll, ⟨by decide +kernel, by decide +kernel, by decide +kernel⟩, inT9 (i := 66) rfl rfl, inT1 (i := 13) rfl rfl, inT9 (i := 68) rfl rfl, inS (i := 101) rfl rfl⟩
end
