section
-- ===== PART A: goes FIRST, ahead of the names: the tables' words, and 'selects' of the private methods out of them =====
/-- a private method of a class that the tables say can be made, by its rows of tables_1 -/
def lw_okq (q : MethodName × Nat) : Prop := (q.1.cls ≠ "java/lang/invoke/MethodHandle" ∧ q.1.cls ≠ "java/lang/invoke/VarHandle") ∧ Cond.instantiable q.1.cls q.2 ∈ tables_1 ∧ Cond.privateMethod q.1 ∈ tables_1 ∧ Cond.instanceMethod q.1 ∈ tables_1
theorem lw_p0 : lw_okq (⟨"java/lang/Throwable", "fillInStackTrace", "(I)Ljava/lang/Throwable;"⟩, 6) := ⟨⟨by decide +kernel, by decide +kernel⟩, List.mem_of_getElem? (i := 90) (by decide +kernel), List.mem_of_getElem? (i := 88) (by decide +kernel), List.mem_of_getElem? (i := 89) (by decide +kernel)⟩
theorem lw_p1 : lw_okq (⟨"StageBallet", "addDancerFault", "(III)I"⟩, 13) := ⟨⟨by decide +kernel, by decide +kernel⟩, List.mem_of_getElem? (i := 256) (by decide +kernel), List.mem_of_getElem? (i := 254) (by decide +kernel), List.mem_of_getElem? (i := 255) (by decide +kernel)⟩
theorem lw_p2 : lw_okq (⟨"StageBallet", "remember", "()V"⟩, 13) := ⟨⟨by decide +kernel, by decide +kernel⟩, List.mem_of_getElem? (i := 256) (by decide +kernel), List.mem_of_getElem? (i := 263) (by decide +kernel), List.mem_of_getElem? (i := 264) (by decide +kernel)⟩
theorem lw_p3 : lw_okq (⟨"StageBallet$History", "placeAt", "(I)LStageBallet$State;"⟩, 3) := ⟨⟨by decide +kernel, by decide +kernel⟩, List.mem_of_getElem? (i := 273) (by decide +kernel), List.mem_of_getElem? (i := 271) (by decide +kernel), List.mem_of_getElem? (i := 272) (by decide +kernel)⟩
theorem lw_p4 : lw_okq (⟨"StageBallet", "presenceFault", "(I)I"⟩, 13) := ⟨⟨by decide +kernel, by decide +kernel⟩, List.mem_of_getElem? (i := 256) (by decide +kernel), List.mem_of_getElem? (i := 295) (by decide +kernel), List.mem_of_getElem? (i := 296) (by decide +kernel)⟩
theorem lw_p5 : lw_okq (⟨"StageBallet", "performFault", "(II)I"⟩, 13) := ⟨⟨by decide +kernel, by decide +kernel⟩, List.mem_of_getElem? (i := 256) (by decide +kernel), List.mem_of_getElem? (i := 315) (by decide +kernel), List.mem_of_getElem? (i := 316) (by decide +kernel)⟩
theorem lw_p6 : lw_okq (⟨"StageBallet$Rehearsal", "goOn", "(I)Z"⟩, 8) := ⟨⟨by decide +kernel, by decide +kernel⟩, List.mem_of_getElem? (i := 348) (by decide +kernel), List.mem_of_getElem? (i := 346) (by decide +kernel), List.mem_of_getElem? (i := 347) (by decide +kernel)⟩
theorem lw_p7 : lw_okq (⟨"StageBallet$Rehearsal", "canCome", "(I)Z"⟩, 8) := ⟨⟨by decide +kernel, by decide +kernel⟩, List.mem_of_getElem? (i := 348) (by decide +kernel), List.mem_of_getElem? (i := 354) (by decide +kernel), List.mem_of_getElem? (i := 355) (by decide +kernel)⟩
theorem lw_p8 : lw_okq (⟨"StageBallet", "performNow", "(II)I"⟩, 13) := ⟨⟨by decide +kernel, by decide +kernel⟩, List.mem_of_getElem? (i := 256) (by decide +kernel), List.mem_of_getElem? (i := 362) (by decide +kernel), List.mem_of_getElem? (i := 363) (by decide +kernel)⟩
theorem lw_p9 : lw_okq (⟨"StageBallet", "walkLength", "(III)I"⟩, 13) := ⟨⟨by decide +kernel, by decide +kernel⟩, List.mem_of_getElem? (i := 256) (by decide +kernel), List.mem_of_getElem? (i := 385) (by decide +kernel), List.mem_of_getElem? (i := 386) (by decide +kernel)⟩
theorem lw_p10 : lw_okq (⟨"StageBallet", "walkFault", "(III)I"⟩, 13) := ⟨⟨by decide +kernel, by decide +kernel⟩, List.mem_of_getElem? (i := 256) (by decide +kernel), List.mem_of_getElem? (i := 413) (by decide +kernel), List.mem_of_getElem? (i := 414) (by decide +kernel)⟩
theorem lw_p11 : lw_okq (⟨"StageBallet", "walkNow", "(III)V"⟩, 13) := ⟨⟨by decide +kernel, by decide +kernel⟩, List.mem_of_getElem? (i := 256) (by decide +kernel), List.mem_of_getElem? (i := 417) (by decide +kernel), List.mem_of_getElem? (i := 418) (by decide +kernel)⟩
theorem lw_p12 : lw_okq (⟨"StageBallet", "exitFault", "(I)I"⟩, 13) := ⟨⟨by decide +kernel, by decide +kernel⟩, List.mem_of_getElem? (i := 256) (by decide +kernel), List.mem_of_getElem? (i := 430) (by decide +kernel), List.mem_of_getElem? (i := 431) (by decide +kernel)⟩
theorem lw_p13 : lw_okq (⟨"StageBallet", "planCost", "()I"⟩, 13) := ⟨⟨by decide +kernel, by decide +kernel⟩, List.mem_of_getElem? (i := 256) (by decide +kernel), List.mem_of_getElem? (i := 445) (by decide +kernel), List.mem_of_getElem? (i := 446) (by decide +kernel)⟩
theorem lw_p14 : lw_okq (⟨"StageBallet$ExitPlan", "smallestRest", "(II)I"⟩, 10) := ⟨⟨by decide +kernel, by decide +kernel⟩, List.mem_of_getElem? (i := 469) (by decide +kernel), List.mem_of_getElem? (i := 467) (by decide +kernel), List.mem_of_getElem? (i := 468) (by decide +kernel)⟩
theorem lw_p15 : lw_okq (⟨"StageBallet$ExitPlan", "firstExitFor", "(II)I"⟩, 10) := ⟨⟨by decide +kernel, by decide +kernel⟩, List.mem_of_getElem? (i := 469) (by decide +kernel), List.mem_of_getElem? (i := 486) (by decide +kernel), List.mem_of_getElem? (i := 487) (by decide +kernel)⟩
def lw_privs_1 : List (MethodName × Nat) := [(⟨"java/lang/Throwable", "fillInStackTrace", "(I)Ljava/lang/Throwable;"⟩, 6), (⟨"StageBallet", "addDancerFault", "(III)I"⟩, 13), (⟨"StageBallet", "remember", "()V"⟩, 13), (⟨"StageBallet$History", "placeAt", "(I)LStageBallet$State;"⟩, 3), (⟨"StageBallet", "presenceFault", "(I)I"⟩, 13), (⟨"StageBallet", "performFault", "(II)I"⟩, 13), (⟨"StageBallet$Rehearsal", "goOn", "(I)Z"⟩, 8), (⟨"StageBallet$Rehearsal", "canCome", "(I)Z"⟩, 8), (⟨"StageBallet", "performNow", "(II)I"⟩, 13), (⟨"StageBallet", "walkLength", "(III)I"⟩, 13), (⟨"StageBallet", "walkFault", "(III)I"⟩, 13), (⟨"StageBallet", "walkNow", "(III)V"⟩, 13), (⟨"StageBallet", "exitFault", "(I)I"⟩, 13), (⟨"StageBallet", "planCost", "()I"⟩, 13), (⟨"StageBallet$ExitPlan", "smallestRest", "(II)I"⟩, 10), (⟨"StageBallet$ExitPlan", "firstExitFor", "(II)I"⟩, 10)]
theorem lw_r1 : ∀ q ∈ lw_privs_1, lw_okq q := List.forall_mem_cons.mpr ⟨lw_p0, List.forall_mem_cons.mpr ⟨lw_p1, List.forall_mem_cons.mpr ⟨lw_p2, List.forall_mem_cons.mpr ⟨lw_p3, List.forall_mem_cons.mpr ⟨lw_p4, List.forall_mem_cons.mpr ⟨lw_p5, List.forall_mem_cons.mpr ⟨lw_p6, List.forall_mem_cons.mpr ⟨lw_p7, List.forall_mem_cons.mpr ⟨lw_p8, List.forall_mem_cons.mpr ⟨lw_p9, List.forall_mem_cons.mpr ⟨lw_p10, List.forall_mem_cons.mpr ⟨lw_p11, List.forall_mem_cons.mpr ⟨lw_p12, List.forall_mem_cons.mpr ⟨lw_p13, List.forall_mem_cons.mpr ⟨lw_p14, List.forall_mem_cons.mpr ⟨lw_p15, fun _ h => absurd h List.not_mem_nil⟩⟩⟩⟩⟩⟩⟩⟩⟩⟩⟩⟩⟩⟩⟩⟩
theorem lw_p16 : lw_okq (⟨"StageBallet$ExitPlan", "costOf", "(II)I"⟩, 10) := ⟨⟨by decide +kernel, by decide +kernel⟩, List.mem_of_getElem? (i := 469) (by decide +kernel), List.mem_of_getElem? (i := 490) (by decide +kernel), List.mem_of_getElem? (i := 491) (by decide +kernel)⟩
theorem lw_p17 : lw_okq (⟨"StageBallet", "addPropFault", "(II)I"⟩, 13) := ⟨⟨by decide +kernel, by decide +kernel⟩, List.mem_of_getElem? (i := 256) (by decide +kernel), List.mem_of_getElem? (i := 803) (by decide +kernel), List.mem_of_getElem? (i := 804) (by decide +kernel)⟩
theorem lw_p18 : lw_okq (⟨"StageBallet", "pairFault", "(II)I"⟩, 13) := ⟨⟨by decide +kernel, by decide +kernel⟩, List.mem_of_getElem? (i := 256) (by decide +kernel), List.mem_of_getElem? (i := 828) (by decide +kernel), List.mem_of_getElem? (i := 829) (by decide +kernel)⟩
theorem lw_p19 : lw_okq (⟨"StageBallet", "addMoveFault", "(II)I"⟩, 13) := ⟨⟨by decide +kernel, by decide +kernel⟩, List.mem_of_getElem? (i := 256) (by decide +kernel), List.mem_of_getElem? (i := 894) (by decide +kernel), List.mem_of_getElem? (i := 895) (by decide +kernel)⟩
theorem lw_p20 : lw_okq (⟨"StageBallet", "addExitFault", "(II)I"⟩, 13) := ⟨⟨by decide +kernel, by decide +kernel⟩, List.mem_of_getElem? (i := 256) (by decide +kernel), List.mem_of_getElem? (i := 911) (by decide +kernel), List.mem_of_getElem? (i := 912) (by decide +kernel)⟩
theorem lw_p21 : lw_okq (⟨"StageBallet", "removePropFault", "(II)I"⟩, 13) := ⟨⟨by decide +kernel, by decide +kernel⟩, List.mem_of_getElem? (i := 256) (by decide +kernel), List.mem_of_getElem? (i := 934) (by decide +kernel), List.mem_of_getElem? (i := 935) (by decide +kernel)⟩
theorem lw_p22 : lw_okq (⟨"StageBallet$State", "rankOf", "(I)I"⟩, 15) := ⟨⟨by decide +kernel, by decide +kernel⟩, List.mem_of_getElem? (i := 529) (by decide +kernel), List.mem_of_getElem? (i := 962) (by decide +kernel), List.mem_of_getElem? (i := 963) (by decide +kernel)⟩
theorem lw_p23 : lw_okq (⟨"StageBallet", "unpairFault", "(I)I"⟩, 13) := ⟨⟨by decide +kernel, by decide +kernel⟩, List.mem_of_getElem? (i := 256) (by decide +kernel), List.mem_of_getElem? (i := 988) (by decide +kernel), List.mem_of_getElem? (i := 989) (by decide +kernel)⟩
theorem lw_p24 : lw_okq (⟨"StageBallet", "leaveFault", "()I"⟩, 13) := ⟨⟨by decide +kernel, by decide +kernel⟩, List.mem_of_getElem? (i := 256) (by decide +kernel), List.mem_of_getElem? (i := 1012) (by decide +kernel), List.mem_of_getElem? (i := 1013) (by decide +kernel)⟩
theorem lw_p25 : lw_okq (⟨"StageBallet$Program", "readCommand", "()Z"⟩, 7) := ⟨⟨by decide +kernel, by decide +kernel⟩, List.mem_of_getElem? (i := 710) (by decide +kernel), List.mem_of_getElem? (i := 1281) (by decide +kernel), List.mem_of_getElem? (i := 1282) (by decide +kernel)⟩
theorem lw_p26 : lw_okq (⟨"StageBallet$Program", "readWord", "()I"⟩, 7) := ⟨⟨by decide +kernel, by decide +kernel⟩, List.mem_of_getElem? (i := 710) (by decide +kernel), List.mem_of_getElem? (i := 1285) (by decide +kernel), List.mem_of_getElem? (i := 1286) (by decide +kernel)⟩
theorem lw_p27 : lw_okq (⟨"StageBallet$Program", "countMatching", "(Ljava/lang/String;)I"⟩, 7) := ⟨⟨by decide +kernel, by decide +kernel⟩, List.mem_of_getElem? (i := 710) (by decide +kernel), List.mem_of_getElem? (i := 1301) (by decide +kernel), List.mem_of_getElem? (i := 1302) (by decide +kernel)⟩
theorem lw_p28 : lw_okq (⟨"StageBallet$Program", "signAt", "(I)I"⟩, 7) := ⟨⟨by decide +kernel, by decide +kernel⟩, List.mem_of_getElem? (i := 710) (by decide +kernel), List.mem_of_getElem? (i := 1306) (by decide +kernel), List.mem_of_getElem? (i := 1307) (by decide +kernel)⟩
theorem lw_p29 : lw_okq (⟨"StageBallet$Program", "readPart", "(C)Z"⟩, 7) := ⟨⟨by decide +kernel, by decide +kernel⟩, List.mem_of_getElem? (i := 710) (by decide +kernel), List.mem_of_getElem? (i := 1323) (by decide +kernel), List.mem_of_getElem? (i := 1324) (by decide +kernel)⟩
theorem lw_p30 : lw_okq (⟨"StageBallet$Program", "readNumber", "(I)Z"⟩, 7) := ⟨⟨by decide +kernel, by decide +kernel⟩, List.mem_of_getElem? (i := 710) (by decide +kernel), List.mem_of_getElem? (i := 1327) (by decide +kernel), List.mem_of_getElem? (i := 1328) (by decide +kernel)⟩
theorem lw_p31 : lw_okq (⟨"StageBallet$Program", "keepArgument", "(I)V"⟩, 7) := ⟨⟨by decide +kernel, by decide +kernel⟩, List.mem_of_getElem? (i := 710) (by decide +kernel), List.mem_of_getElem? (i := 1334) (by decide +kernel), List.mem_of_getElem? (i := 1335) (by decide +kernel)⟩
def lw_privs_2 : List (MethodName × Nat) := [(⟨"StageBallet$ExitPlan", "costOf", "(II)I"⟩, 10), (⟨"StageBallet", "addPropFault", "(II)I"⟩, 13), (⟨"StageBallet", "pairFault", "(II)I"⟩, 13), (⟨"StageBallet", "addMoveFault", "(II)I"⟩, 13), (⟨"StageBallet", "addExitFault", "(II)I"⟩, 13), (⟨"StageBallet", "removePropFault", "(II)I"⟩, 13), (⟨"StageBallet$State", "rankOf", "(I)I"⟩, 15), (⟨"StageBallet", "unpairFault", "(I)I"⟩, 13), (⟨"StageBallet", "leaveFault", "()I"⟩, 13), (⟨"StageBallet$Program", "readCommand", "()Z"⟩, 7), (⟨"StageBallet$Program", "readWord", "()I"⟩, 7), (⟨"StageBallet$Program", "countMatching", "(Ljava/lang/String;)I"⟩, 7), (⟨"StageBallet$Program", "signAt", "(I)I"⟩, 7), (⟨"StageBallet$Program", "readPart", "(C)Z"⟩, 7), (⟨"StageBallet$Program", "readNumber", "(I)Z"⟩, 7), (⟨"StageBallet$Program", "keepArgument", "(I)V"⟩, 7)]
theorem lw_r2 : ∀ q ∈ lw_privs_2, lw_okq q := List.forall_mem_cons.mpr ⟨lw_p16, List.forall_mem_cons.mpr ⟨lw_p17, List.forall_mem_cons.mpr ⟨lw_p18, List.forall_mem_cons.mpr ⟨lw_p19, List.forall_mem_cons.mpr ⟨lw_p20, List.forall_mem_cons.mpr ⟨lw_p21, List.forall_mem_cons.mpr ⟨lw_p22, List.forall_mem_cons.mpr ⟨lw_p23, List.forall_mem_cons.mpr ⟨lw_p24, List.forall_mem_cons.mpr ⟨lw_p25, List.forall_mem_cons.mpr ⟨lw_p26, List.forall_mem_cons.mpr ⟨lw_p27, List.forall_mem_cons.mpr ⟨lw_p28, List.forall_mem_cons.mpr ⟨lw_p29, List.forall_mem_cons.mpr ⟨lw_p30, List.forall_mem_cons.mpr ⟨lw_p31, fun _ h => absurd h List.not_mem_nil⟩⟩⟩⟩⟩⟩⟩⟩⟩⟩⟩⟩⟩⟩⟩⟩
theorem lw_p32 : lw_okq (⟨"StageBallet$Program", "readMoves", "()V"⟩, 7) := ⟨⟨by decide +kernel, by decide +kernel⟩, List.mem_of_getElem? (i := 710) (by decide +kernel), List.mem_of_getElem? (i := 1339) (by decide +kernel), List.mem_of_getElem? (i := 1340) (by decide +kernel)⟩
theorem lw_p33 : lw_okq (⟨"StageBallet$Program", "readSign", "(C)Z"⟩, 7) := ⟨⟨by decide +kernel, by decide +kernel⟩, List.mem_of_getElem? (i := 710) (by decide +kernel), List.mem_of_getElem? (i := 1344) (by decide +kernel), List.mem_of_getElem? (i := 1345) (by decide +kernel)⟩
theorem lw_p34 : lw_okq (⟨"StageBallet", "commandFault", "(I)I"⟩, 13) := ⟨⟨by decide +kernel, by decide +kernel⟩, List.mem_of_getElem? (i := 256) (by decide +kernel), List.mem_of_getElem? (i := 1348) (by decide +kernel), List.mem_of_getElem? (i := 1349) (by decide +kernel)⟩
theorem lw_p35 : lw_okq (⟨"StageBallet", "execute", "(I)V"⟩, 13) := ⟨⟨by decide +kernel, by decide +kernel⟩, List.mem_of_getElem? (i := 256) (by decide +kernel), List.mem_of_getElem? (i := 1360) (by decide +kernel), List.mem_of_getElem? (i := 1361) (by decide +kernel)⟩
theorem lw_p36 : lw_okq (⟨"StageBallet", "rewriteFigure", "(III)V"⟩, 13) := ⟨⟨by decide +kernel, by decide +kernel⟩, List.mem_of_getElem? (i := 256) (by decide +kernel), List.mem_of_getElem? (i := 1364) (by decide +kernel), List.mem_of_getElem? (i := 1365) (by decide +kernel)⟩
theorem lw_p37 : lw_okq (⟨"StageBallet$Areas", "unite", "(IIJ)I"⟩, 2) := ⟨⟨by decide +kernel, by decide +kernel⟩, List.mem_of_getElem? (i := 617) (by decide +kernel), List.mem_of_getElem? (i := 1557) (by decide +kernel), List.mem_of_getElem? (i := 1558) (by decide +kernel)⟩
theorem lw_p38 : lw_okq (⟨"StageBallet$Areas", "rootOf", "(I)I"⟩, 2) := ⟨⟨by decide +kernel, by decide +kernel⟩, List.mem_of_getElem? (i := 617) (by decide +kernel), List.mem_of_getElem? (i := 1561) (by decide +kernel), List.mem_of_getElem? (i := 1562) (by decide +kernel)⟩
theorem lw_p39 : lw_okq (⟨"StageBallet$ExitPlan", "place", "(I)V"⟩, 10) := ⟨⟨by decide +kernel, by decide +kernel⟩, List.mem_of_getElem? (i := 469) (by decide +kernel), List.mem_of_getElem? (i := 1588) (by decide +kernel), List.mem_of_getElem? (i := 1589) (by decide +kernel)⟩
theorem lw_p40 : lw_okq (⟨"StageBallet$ExitPlan", "updateSlack", "(I)V"⟩, 10) := ⟨⟨by decide +kernel, by decide +kernel⟩, List.mem_of_getElem? (i := 469) (by decide +kernel), List.mem_of_getElem? (i := 1593) (by decide +kernel), List.mem_of_getElem? (i := 1594) (by decide +kernel)⟩
theorem lw_p41 : lw_okq (⟨"StageBallet$ExitPlan", "leastSlack", "()I"⟩, 10) := ⟨⟨by decide +kernel, by decide +kernel⟩, List.mem_of_getElem? (i := 469) (by decide +kernel), List.mem_of_getElem? (i := 1597) (by decide +kernel), List.mem_of_getElem? (i := 1598) (by decide +kernel)⟩
theorem lw_p42 : lw_okq (⟨"StageBallet$ExitPlan", "shiftPotentials", "(I)V"⟩, 10) := ⟨⟨by decide +kernel, by decide +kernel⟩, List.mem_of_getElem? (i := 469) (by decide +kernel), List.mem_of_getElem? (i := 1601) (by decide +kernel), List.mem_of_getElem? (i := 1602) (by decide +kernel)⟩
theorem lw_p43 : lw_okq (⟨"StageBallet$State", "isSoundDancer", "(I)Z"⟩, 15) := ⟨⟨by decide +kernel, by decide +kernel⟩, List.mem_of_getElem? (i := 529) (by decide +kernel), List.mem_of_getElem? (i := 1619) (by decide +kernel), List.mem_of_getElem? (i := 1620) (by decide +kernel)⟩
def lw_privs_3 : List (MethodName × Nat) := [(⟨"StageBallet$Program", "readMoves", "()V"⟩, 7), (⟨"StageBallet$Program", "readSign", "(C)Z"⟩, 7), (⟨"StageBallet", "commandFault", "(I)I"⟩, 13), (⟨"StageBallet", "execute", "(I)V"⟩, 13), (⟨"StageBallet", "rewriteFigure", "(III)V"⟩, 13), (⟨"StageBallet$Areas", "unite", "(IIJ)I"⟩, 2), (⟨"StageBallet$Areas", "rootOf", "(I)I"⟩, 2), (⟨"StageBallet$ExitPlan", "place", "(I)V"⟩, 10), (⟨"StageBallet$ExitPlan", "updateSlack", "(I)V"⟩, 10), (⟨"StageBallet$ExitPlan", "leastSlack", "()I"⟩, 10), (⟨"StageBallet$ExitPlan", "shiftPotentials", "(I)V"⟩, 10), (⟨"StageBallet$State", "isSoundDancer", "(I)Z"⟩, 15)]
theorem lw_r3 : ∀ q ∈ lw_privs_3, lw_okq q := List.forall_mem_cons.mpr ⟨lw_p32, List.forall_mem_cons.mpr ⟨lw_p33, List.forall_mem_cons.mpr ⟨lw_p34, List.forall_mem_cons.mpr ⟨lw_p35, List.forall_mem_cons.mpr ⟨lw_p36, List.forall_mem_cons.mpr ⟨lw_p37, List.forall_mem_cons.mpr ⟨lw_p38, List.forall_mem_cons.mpr ⟨lw_p39, List.forall_mem_cons.mpr ⟨lw_p40, List.forall_mem_cons.mpr ⟨lw_p41, List.forall_mem_cons.mpr ⟨lw_p42, List.forall_mem_cons.mpr ⟨lw_p43, fun _ h => absurd h List.not_mem_nil⟩⟩⟩⟩⟩⟩⟩⟩⟩⟩⟩⟩
def lw_privs : List (MethodName × Nat) := lw_privs_1 ++ (lw_privs_2 ++ (lw_privs_3))
def lw_tbl : List Cond := k2_sels lw_privs ++ tables_1
theorem lw_privs_ok : ∀ q ∈ lw_privs, lw_okq q := by
  show ∀ q ∈ lw_privs_1 ++ (lw_privs_2 ++ (lw_privs_3)), lw_okq q
  exact List.forall_mem_append.mpr ⟨lw_r1, List.forall_mem_append.mpr ⟨lw_r2, lw_r3⟩⟩
/-- the streams that the claim lets the run draw from -/
abbrev lw_cs : List Choice := [Jvm.Choice.named "NaN.bits"]
theorem lw_bits : nanBits ∈ lw_cs := by first | decide | exact List.mem_cons_self | simp [lw_cs, nanBits]
end
section
/-! ===== BEGIN words of one list among another's, by their places ===== -/
theorem goodIn_r {big : List Cond} (ws : List Cond) (ps : List Nat) (hp : ws = ps.filterMap (fun i => big[i]?)) (h : ws.all goodWord = true) : GoodIn big ws := by
  intro w hw
  have h1 := List.all_eq_true.mp h w hw
  rw [hp] at hw
  obtain ⟨i, -, hi⟩ := List.mem_filterMap.mp hw
  have hm : w ∈ big := by first | exact List.mem_of_getElem? hi | exact List.getElem?_mem hi
  exact ⟨hm, good_of_word h1⟩
theorem goodIn_app {big a b : List Cond} (ha : GoodIn big a) (hb : GoodIn big b) : GoodIn big (a ++ b) := fun w h => (List.mem_append.mp h).elim (ha w) (hb w)
theorem goodIn_ca {big a b : List Cond} {c : Cond} (ha : GoodIn big (c :: a)) (hb : GoodIn big b) : GoodIn big (c :: (a ++ b)) := fun w h => (List.mem_cons.mp h).elim (fun e => ha w (List.mem_cons.mpr (Or.inl e))) (fun h => (List.mem_append.mp h).elim (fun h => ha w (List.mem_cons.mpr (Or.inr h))) (hb w))
theorem goodIn_sub {big ws : List Cond} (hm : ∀ w ∈ ws, w ∈ big) (h : ws.all goodWord = true) : GoodIn big ws := fun w hw => ⟨hm w hw, good_of_word (List.all_eq_true.mp h w hw)⟩
/-! ===== END ===== -/
/-! ===== BEGIN exceptions that leave a method, and their catching by the caller (launches without stack traces) ===== -/
section VXA
/-! The laws vx_back, vx_callV, vx_callS, vx_callSW, vx_throw0, vx_throwS follow proofs of the library, with one case more: JvmDerived/Free/Laws.lean (Back.of_free), Shelf42/LK1.lean (callV, callS), Shelf/KitTraced.lean (throwNew0V, throwNewS). -/
/-- where a method has thrown q: the class by its name, the cell, what was written, the world -/
def vx_T (XC : String → State → State → Prop) (st : State) (q : Addr) (t : State) (mc ms : Nat) (free : Addr → Prop) : Prop :=
  ∃ (E : String) (ce : Cell) (L : List Loc), XC E st t ∧ t.heap[q]? = some ce ∧ ce.vm = .none ∧ st.vm.findClass E = some ce.cls ∧ st.WarmedH t.vm ∧ st.sameButNew ({ t with vm := st.vm } : State) L mc ms ∧ ∀ z ∈ L, free z.base
def vx_Q (Qc : Array Value → State → Outcome → State → Prop) (XC : String → State → State → Prop) (mc ms : Nat) (free : Addr → Prop) : Array Value → State → Outcome → State → Prop := fun a st o t =>
  (Qc a st o t ∧ ∃ L, FrameEnd st o t L mc ms ∧ ∀ q ∈ L, free q.base) ∨ ∃ q, o = .threw q ∧ vx_T XC st q t mc ms free
/-- a callee that returns or throws -/
def vx_Met (l : Launch) (y : MethodName) (ws : List Cond) (rm : Room) (Pc : Array Value → State → Prop) (Qc : Array Value → State → Outcome → State → Prop) (XC : String → State → State → Prop) (mc ms : Nat) (free : Addr → Prop) : Prop :=
  MetFree l y (headSpec ws rm) Pc (fun _ _ _ _ _ => True) (vx_Q Qc XC mc ms free)
def vx_Post (XC : String → State → State → Prop) (mc ms : Nat) (free : Addr → Prop) : Pt → Array Value → Addr → Pt → Prop := fun A a q B =>
  ∃ (g : JFrame) (mk : MethodId) (t : State) (L : List Loc) (E : String) (ce : Cell), B.U.heap = t.heap ∧ B.U.vm = t.vm ∧ XC E (A.U.calling g mk a) t ∧ t.heap[q]? = some ce ∧ ce.vm = .none ∧ A.U.vm.findClass E = some ce.cls ∧ B.locs = A.locs ++ L ∧ (∀ z ∈ L, free z.base) ∧ B.cells = A.cells + mc ∧ B.slots = A.slots + ms
def vx_Back (l : Launch) (R : Room) (p : Program) (e : Env) (below : List Frame) (s : State) (sargs : Array Value) (y : MethodName) (len W9 : Nat)
    (Pre : Pt → Array Value → Prop) (Post : Pt → Array Value → Option Value → Pt → Prop) (PostX : Pt → Array Value → Addr → Pt → Prop) : Prop :=
  ∀ (m : MethodId) (meth : Method) (c : Code) (A : Pt) (g : JFrame) (ig : Instr) (mk : MethodId) (a : Array Value),
    Stand p l e R s m sargs below meth c A.U A.locs A.cells A.slots → g.method = m → g.locals.size = c.maxLocals → decode c.code g.pc = .ok (ig, len) →
    2 * g.monitorRoom + (g.stack.map fun v => v.category).sum ≤ W9 → A.U.methodNamed? y = some mk → Pre A a →
    (∃ (v : Option Value) (B : Pt), Stand p l e R s m sargs below meth c B.U B.locs B.cells B.slots ∧ Post A a v B ∧
      Steps p.tables e below (doInvoke e (A.U.setTop g) [] mk a).1 (B.U.setTop { g with pc := g.pc + len, stack := v.toList ++ g.stack })) ∨
    (∃ (q : Addr) (B : Pt), Stand p l e R s m sargs below meth c B.U B.locs B.cells B.slots ∧ PostX A a q B ∧
      Steps p.tables e below (doInvoke e (A.U.setTop g) [] mk a).1 ((B.U.setTop g).pushFrame (.throwing q)))
section Payer
variable {l : Launch} {R : Room} {p : Program} {e : Env} {below : List Frame} {s : State} {sargs : Array Value} {y : MethodName} {len W9 : Nat}
theorem vx_back {ws : List Cond} {rm : Room} {Pc : Array Value → State → Prop} {Qc : Array Value → State → Outcome → State → Prop} {XC : String → State → State → Prop} {mc ms : Nat} {free : Addr → Prop} {bytes : ByteArray} {maxL : Nat} {ret : Option FieldType}
    (hM : vx_Met l y ws rm Pc Qc XC mc ms free) (hblind : FrameBlind Pc) (hrc : rm.cells = mc) (hrs : rm.slots = ms)
    (hframes : rm.frames + 1 ≤ R.frames) (hlocals : W9 + (maxL + 11) + rm.locals ≤ R.locals)
    (hws : ∀ w ∈ ws, ∀ a' U, s.WarmedH U.vm → w.before a' U = true) (hcode : Cond.code y bytes maxL ret ∈ ws) (hinit : ∀ a' U, s.WarmedH U.vm → (Cond.initialized y.cls).before a' U = true) :
    vx_Back l R p e below s sargs y len W9 (PreOf R mc ms Pc) (PostOf Qc mc ms free) (vx_Post XC mc ms free) := by
  intro m meth c A g ig mk a X hg hsize hdg hW hn hp
  have h1 : (headSpec ws rm).pre.before a A.U = true := atoms_intro fun w hw => hws w hw _ _ X.warmed
  have h2 : (Cond.code y bytes maxL ret).before a A.U = true := hws _ hcode _ _ X.warmed
  have h3 : (Cond.initialized y.cls).before a A.U = true := hinit _ _ X.warmed
  have h4 : A.cells + (headSpec ws rm).room.cells ≤ R.cells := by rw [show (headSpec ws rm).room.cells = mc from hrc]; exact hp.1
  have h5 : A.slots + (headSpec ws rm).room.slots ≤ R.slots := by rw [show (headSpec ws rm).room.slots = ms from hrs]; exact hp.2.1
  have hPc : Pc a (A.U.calling g mk a) := hblind _ _ _ _ hp.2.2
  obtain ⟨U, Ls, c0, s0⟩ := A
  dsimp only [Pt.U, Pt.locs, Pt.cells, Pt.slots] at h1 h2 h3 h4 h5 X hn hPc ⊢
  obtain ⟨methY, cY, hmY, hcY, -, hlY, -, -, -, -⟩ := Cond.code_spec hn h2
  obtain ⟨kY, hkY, -⟩ := className_of_methodNamed hn
  have hinitY : kY.init = .initialized := Cond.initialized_spec (findClass_of_methodNamed hn) hkY h3
  have h : At U g.method c below := by rw [hg]; exact X.here
  have hlocals9 : W9 + (maxL + 11) + (headSpec ws rm).room.locals ≤ R.locals := hlocals
  have happ : (headSpec ws rm).appliesLoose y e.platform (U.calling g mk a) = true :=
    Spec.appliesLoose_calling (g := g) h hdg hn hkY hinitY
      (X.room_calling (g := g) (R' := (headSpec ws rm).room) hsize hmY hcY hframes (by rw [hlY]; omega) h4 h5) h1
  obtain ⟨mid, hmid⟩ := h.above
  have hfr : (U.setTop g).frames = (.java g :: mid) ++ below := by rw [State.frames_setTop' g h.top, hmid]; rfl
  obtain ⟨o, s₂, hsteps, -, hend, hq⟩ := Steps.callFree hM p X.admits X.cas X.clock (acts := []) hfr happ hPc trivial
  have hq' : vx_Q Qc XC mc ms free a (U.calling g mk a) o s₂ := hq
  rw [State.frames_setTop' g h.top] at hend
  obtain ⟨g₀, hg0⟩ := Option.isSome_iff_exists.mp h.top
  obtain ⟨r, hr⟩ := State.topJava?_eq_some.mp hg0
  have hr' : (({ U with heap := s₂.heap, slotsUsed := s₂.slotsUsed } : State).setVm s₂.vm).frames = .java g₀ :: r := hr
  rcases hq' with ⟨hqc, L, hfe, hL⟩ | ⟨q, rfl, E, ce, L, hx, hce, hcv, hcl, hW₂, hsm, hL⟩
  · obtain ⟨⟨v, rfl⟩, hW₂, e2, q2, q3, q4, q5, q6⟩ := id hfe
    have e3 : s₂ = ({ (U.calling g mk a).setFrames s₂.frames with heap := s₂.heap, slotsUsed := s₂.slotsUsed } : State).setVm s₂.vm := by
      have : s₂ = ({ s₂ with vm := (U.calling g mk a).vm } : State).setVm s₂.vm := rfl
      rw [e2] at this
      exact this
    obtain ⟨c₂, i₂, len₂, hc₂, hd₂, hf₂⟩ := hend
    have hW' : U.WarmedH s₂.vm := hW₂
    have hcc : c₂ = c := by
      have h1 : s₂.code? g.method = U.code? g.method := by
        rw [State.code?_eq, State.code?_eq, hW'.alike.method?]
      exact Option.some.inj (hc₂.symm.trans (h1.trans h.code))
    subst hcc
    have hlen : len₂ = len := by rw [hdg] at hd₂; cases hd₂; rfl
    subst hlen
    have hs₂ : s₂ = (({ U with heap := s₂.heap, slotsUsed := s₂.slotsUsed } : State).setVm s₂.vm).setTop { g with pc := g.pc + len₂, stack := v.toList ++ g.stack } := by
      refine e3.trans ?_
      rw [hf₂, State.calling_eq h.top, State.setFrames_setFrames, State.setTop_of_frames _ hr', hr]
      rfl
    have hsame : U.sameButNew ({ U with heap := s₂.heap, slotsUsed := s₂.slotsUsed } : State) L mc ms := by
      refine ⟨?_, q2, q3, q4, q5, q6⟩
      obtain ⟨t, ht, -⟩ := State.frames_cons hr
      show ({ U with heap := s₂.heap, slotsUsed := s₂.slotsUsed } : State) = { U.setFrames U.frames with heap := s₂.heap, slotsUsed := s₂.slotsUsed }
      rw [State.setFrames_self ht]
    subst hg
    refine Or.inl ⟨v, ⟨(({ U with heap := s₂.heap, slotsUsed := s₂.slotsUsed } : State).setVm s₂.vm), Ls ++ L, c0 + mc, s0 + ms⟩,
      ⟨X.admits, X.cas, X.clock, X.frames, X.room, X.hears, X.method, X.code, (X.here.setHeapUsed s₂.heap s₂.slotsUsed).setVm hW'.alike, X.tail, State.WarmedH.trans X.warmed hW', X.limits, X.bytes, X.same.trans (hsame.setVm s.vm)⟩,
      ⟨g, mk, s₂, L, rfl, rfl, hqc, rfl, hL, rfl, rfl⟩, ?_⟩
    show Steps p.tables e below _ ((({ U with heap := s₂.heap, slotsUsed := s₂.slotsUsed } : State).setVm s₂.vm).setTop { g with pc := g.pc + len₂, stack := v.toList ++ g.stack })
    rw [← hs₂]
    exact hsteps
  · obtain ⟨e2, q2, q3, q4, q5, q6⟩ := id hsm
    have e3 : s₂ = ({ (U.calling g mk a).setFrames s₂.frames with heap := s₂.heap, slotsUsed := s₂.slotsUsed } : State).setVm s₂.vm := by
      have : s₂ = ({ s₂ with vm := (U.calling g mk a).vm } : State).setVm s₂.vm := rfl
      rw [e2] at this
      exact this
    have hf₂ : s₂.frames = .throwing q :: .java g :: U.frames.tail := hend
    have hW' : U.WarmedH s₂.vm := hW₂
    have hs₂ : s₂ = ((({ U with heap := s₂.heap, slotsUsed := s₂.slotsUsed } : State).setVm s₂.vm).setTop g).pushFrame (.throwing q) := by
      refine e3.trans ?_
      rw [hf₂, State.calling_eq h.top, State.setFrames_setFrames, State.pushFrame, State.frames_setTop _ hr', State.setTop_of_frames _ hr', State.setFrames_setFrames, hr]
      rfl
    have hsame : U.sameButNew ({ U with heap := s₂.heap, slotsUsed := s₂.slotsUsed } : State) L mc ms := by
      refine ⟨?_, q2, q3, q4, q5, q6⟩
      obtain ⟨t, ht, -⟩ := State.frames_cons hr
      show ({ U with heap := s₂.heap, slotsUsed := s₂.slotsUsed } : State) = { U.setFrames U.frames with heap := s₂.heap, slotsUsed := s₂.slotsUsed }
      rw [State.setFrames_self ht]
    subst hg
    refine Or.inr ⟨q, ⟨(({ U with heap := s₂.heap, slotsUsed := s₂.slotsUsed } : State).setVm s₂.vm), Ls ++ L, c0 + mc, s0 + ms⟩,
      ⟨X.admits, X.cas, X.clock, X.frames, X.room, X.hears, X.method, X.code, (X.here.setHeapUsed s₂.heap s₂.slotsUsed).setVm hW'.alike, X.tail, State.WarmedH.trans X.warmed hW', X.limits, X.bytes, X.same.trans (hsame.setVm s.vm)⟩,
      ⟨g, mk, s₂, L, E, ce, rfl, rfl, hx, hce, hcv, hcl, rfl, hL, rfl, rfl⟩, ?_⟩
    show Steps p.tables e below _ (((({ U with heap := s₂.heap, slotsUsed := s₂.slotsUsed } : State).setVm s₂.vm).setTop g).pushFrame (.throwing q))
    rw [← hs₂]
    exact hsteps
end Payer
section Calls
variable {p : Program} {l : Launch} {e : Env} {R : Room} {s : State} {m : MethodId} {args : Array Value} {below : List Frame} {meth : Method} {c : Code} {T : State} {locs : List Loc} {cells slots : Nat}
theorem vx_callV (X : Stand p l e R s m args below meth c T locs cells slots) (hexec : p.tables.exec = Jvm.exec) {own C : String} {index : Nat} {y : MethodName} {bytes : ByteArray} {maxL : Nat} {ret : Option FieldType}
    (hown : s.vm.findClass own = some m.cls) (hlink : (Cond.methodLink own index y).before args s = true) (hinst : (Cond.instanceMethod y).before args s = true) (hsel : (Cond.selects C y y).before args s = true)
    (hcode : (Cond.code y bytes maxL ret).before args s = true) (hy : y.cls ≠ "java/lang/invoke/MethodHandle" ∧ y.cls ≠ "java/lang/invoke/VarHandle")
    {W9 : Nat} {Pre : Pt → Array Value → Prop} {Post : Pt → Array Value → Option Value → Pt → Prop} {PostX : Pt → Array Value → Addr → Pt → Prop} (hK : vx_Back l R p e below s args y 3 W9 Pre Post PostX)
    {b : Addr} {cellB : Cell} (hcell : T.heap[b]? = some cellB) (hobj : cellB.vm.isStatics = false) (hcls : s.vm.findClass C = some cellB.cls)
    {g : JFrame} (hg : g.method = m) (hsize : g.locals.size = c.maxLocals) {argsL rest : List Value} (hlen : ∀ sig, parseMethodDescriptor y.desc = some sig → argsL.length = sig.parameters.length)
    (hstack : g.stack = argsL.reverse ++ .ref b :: rest) (hW : 2 * g.monitorRoom + (rest.map fun v => v.category).sum ≤ W9) (hdg : decode c.code g.pc = .ok (.invokevirtual index, 3))
    (hpre : ∀ vm₁, s.WarmedH vm₁ → Pre ⟨T.setVm vm₁, locs, cells, slots⟩ (Value.ref b :: argsL).toArray) :
    (∃ (v : Option Value) (vm₁ : Vm) (B : Pt), s.WarmedH vm₁ ∧ Stand p l e R s m args below meth c B.U B.locs B.cells B.slots ∧ Post ⟨T.setVm vm₁, locs, cells, slots⟩ (Value.ref b :: argsL).toArray v B ∧
      ∀ target, Steps p.tables e below (B.U.setTop { g with pc := g.pc + 3, stack := v.toList ++ rest }) target → Steps p.tables e below (T.setTop g) target) ∨
    (∃ (q : Addr) (vm₁ : Vm) (B : Pt), s.WarmedH vm₁ ∧ Stand p l e R s m args below meth c B.U B.locs B.cells B.slots ∧ PostX ⟨T.setVm vm₁, locs, cells, slots⟩ (Value.ref b :: argsL).toArray q B ∧
      Steps p.tables e below (T.setTop g) ((B.U.setTop { g with stack := rest }).pushFrame (.throwing q))) := by
  obtain ⟨mk, methM, hnamed, hmethM, hstM, habM⟩ := Cond.instanceMethod_spec hinst
  obtain ⟨methM', cM, hmethM', -, -, -, -, -, -, hsigM⟩ := Cond.code_spec hnamed hcode
  cases hmethM.symm.trans hmethM'
  obtain ⟨c2, r2, m2, q1, q2, q3, q4, kP, hkP, hkPi⟩ := Cond.selects_spec hsel
  cases hcls.symm.trans q1
  cases (State.methodFound?_of_named hnamed hy).symm.trans q2
  cases hnamed.symm.trans q3
  have hselP : selectMethod e.platform s.vm cellB.cls mk = .method mk := by rw [Launch.admits_selectMethod X.admits]; exact q4
  obtain ⟨vm₁, X₁, hstep₁⟩ := X.invokevirtual hexec hown hlink hnamed hmethM hstM hkP hkPi hy (a := b) (cell := cellB) hcell
    (fun z h => by rw [h] at hobj; cases hobj) hselP hmethM habM hkP hkPi (g := g) hg (argsL := argsL) (rest := rest) (hlen _ hsigM) hstack hdg
  rcases hK m meth c ⟨T.setVm vm₁, locs, cells, slots⟩ { g with stack := rest } (.invokevirtual index) mk (Value.ref b :: argsL).toArray X₁ hg hsize hdg hW (X₁.named hnamed) (hpre vm₁ X₁.warmed) with ⟨v, B, X', hpost, hsteps⟩ | ⟨q, B, X', hpost, hsteps⟩
  · exact Or.inl ⟨v, vm₁, B, X₁.warmed, X', hpost, fun target h => hstep₁ _ fun acts => by rw [doInvoke_state]; exact hsteps.trans h⟩
  · exact Or.inr ⟨q, vm₁, B, X₁.warmed, X', hpost, hstep₁ _ fun acts => by rw [doInvoke_state]; exact hsteps⟩
theorem vx_callS (X : Stand p l e R s m args below meth c T locs cells slots) (hexec : p.tables.exec = Jvm.exec) {own : String} {index : Nat} {y : MethodName} {bytes : ByteArray} {maxL : Nat} {ret : Option FieldType}
    (hown : s.vm.findClass own = some m.cls) (hlink : (Cond.methodLink own index y).before args s = true) (hstat : (Cond.static y).before args s = true) (hinit : (Cond.initialized y.cls).before args s = true)
    (hcode : (Cond.code y bytes maxL ret).before args s = true) (hy : y.cls ≠ "java/lang/invoke/MethodHandle" ∧ y.cls ≠ "java/lang/invoke/VarHandle")
    {W9 : Nat} {Pre : Pt → Array Value → Prop} {Post : Pt → Array Value → Option Value → Pt → Prop} {PostX : Pt → Array Value → Addr → Pt → Prop} (hK : vx_Back l R p e below s args y 3 W9 Pre Post PostX)
    {g : JFrame} (hg : g.method = m) (hsize : g.locals.size = c.maxLocals) {argsL rest : List Value} (hlen : ∀ sig, parseMethodDescriptor y.desc = some sig → argsL.length = sig.parameters.length)
    (hstack : g.stack = argsL.reverse ++ rest) (hW : 2 * g.monitorRoom + (rest.map fun v => v.category).sum ≤ W9) (hdg : decode c.code g.pc = .ok (.invokestatic index, 3))
    (hpre : ∀ vm₁, s.WarmedH vm₁ → Pre ⟨T.setVm vm₁, locs, cells, slots⟩ argsL.toArray) :
    (∃ (v : Option Value) (vm₁ : Vm) (B : Pt), s.WarmedH vm₁ ∧ Stand p l e R s m args below meth c B.U B.locs B.cells B.slots ∧ Post ⟨T.setVm vm₁, locs, cells, slots⟩ argsL.toArray v B ∧
      ∀ target, Steps p.tables e below (B.U.setTop { g with pc := g.pc + 3, stack := v.toList ++ rest }) target → Steps p.tables e below (T.setTop g) target) ∨
    (∃ (q : Addr) (vm₁ : Vm) (B : Pt), s.WarmedH vm₁ ∧ Stand p l e R s m args below meth c B.U B.locs B.cells B.slots ∧ PostX ⟨T.setVm vm₁, locs, cells, slots⟩ argsL.toArray q B ∧
      Steps p.tables e below (T.setTop g) ((B.U.setTop { g with stack := rest }).pushFrame (.throwing q))) := by
  obtain ⟨mk, hnamed⟩ := Cond.code_named hcode
  obtain ⟨methM, cM, hmethM, -, -, -, -, -, -, hsigM⟩ := Cond.code_spec hnamed hcode
  have hstatic : methM.isStatic = true := Cond.static_spec hnamed hmethM hstat
  obtain ⟨kP, hkP, -⟩ := className_of_methodNamed hnamed
  have hinitP : kP.init = .initialized := Cond.initialized_spec (findClass_of_methodNamed hnamed) hkP hinit
  obtain ⟨vm₁, X₁, hstep₁⟩ := X.invokestatic hexec hown hlink hnamed hmethM hstatic hkP hinitP hy (g := g) hg (argsL := argsL) (rest := rest) (hlen _ hsigM) hstack hdg
  rcases hK m meth c ⟨T.setVm vm₁, locs, cells, slots⟩ { g with stack := rest } (.invokestatic index) mk argsL.toArray X₁ hg hsize hdg hW (X₁.named hnamed) (hpre vm₁ X₁.warmed) with ⟨v, B, X', hpost, hsteps⟩ | ⟨q, B, X', hpost, hsteps⟩
  · exact Or.inl ⟨v, vm₁, B, X₁.warmed, X', hpost, fun target h => hstep₁ _ fun acts => by rw [doInvoke_state]; exact hsteps.trans h⟩
  · exact Or.inr ⟨q, vm₁, B, X₁.warmed, X', hpost, hstep₁ _ fun acts => by rw [doInvoke_state]; exact hsteps⟩
end Calls
theorem vx_cls {s : State} {T : State} {vm₁ : Vm} {E : String} {k : ClassId} (hW : s.WarmedH vm₁) (h : (T.setVm vm₁).vm.findClass E = some k) : s.vm.findClass E = some k := by
  have h1 : vm₁.findClass E = some k := h
  rw [hW.alike.findClass] at h1
  exact h1
/-- the method's frame g, with q thrown over it -/
def vx_W (p : Program) (l : Launch) (e : Env) (R : Room) (s : State) (m : MethodId) (args : Array Value) (below : List Frame) (meth : Method) (c : Code) (H : Heap) (locs : List Loc) (cells slots : Nat) (Q : State → Prop) (g : JFrame) (q : Addr) : Prop :=
  ∀ T : State, T.heap = H → Stand p l e R s m args below meth c T locs cells slots → ∃ t, Steps p.tables e below ((T.setTop g).pushFrame (.throwing q)) t ∧ Q t
def vx_Run (p : Program) (l : Launch) (e : Env) (R : Room) (s : State) (m : MethodId) (args : Array Value) (below : List Frame) (meth : Method) (c : Code) (H : Heap) (locs : List Loc) (cells slots mc ms : Nat) (g : JFrame) (rest : List Value) (Qa : State → Outcome → State → Prop) (XC : String → State → State → Prop) (free : Addr → Prop) : Prop :=
  ∀ T : State, T.heap = H → Stand p l e R s m args below meth c T locs cells slots →
    (∃ (v : Option Value) (st₀ t T' : State) (L : List Loc), st₀.heap = H ∧ Stand p l e R s m args below meth c T' (locs ++ L) (cells + mc) (slots + ms) ∧ (∀ q ∈ L, free q.base) ∧ T'.heap = t.heap ∧ T'.vm = t.vm ∧ Qa st₀ (.returned v) t ∧
      Goes p e below T g T' { g with pc := g.pc + 3, stack := v.toList ++ rest }) ∨
    (∃ (q : Addr) (st₀ t T' : State) (L : List Loc) (E : String) (ce : Cell), st₀.heap = H ∧ Stand p l e R s m args below meth c T' (locs ++ L) (cells + mc) (slots + ms) ∧ (∀ z ∈ L, free z.base) ∧ T'.heap = t.heap ∧ T'.vm = t.vm ∧ XC E st₀ t ∧ t.heap[q]? = some ce ∧ ce.vm = .none ∧ s.vm.findClass E = some ce.cls ∧
      Steps p.tables e below (T.setTop g) ((T'.setTop { g with stack := rest }).pushFrame (.throwing q)))
def vx_X {S : Type} (px : S → Prop) (B : String → S → State → Prop) (A : Nat → Prop) : String → State → State → Prop := fun E st t => ∃ u : S, px u ∧ B E u t ∧ va_F A st t
section Runs
variable {p : Program} {l : Launch} {e : Env} {R : Room} {s : State} {m : MethodId} {args : Array Value} {below : List Frame} {meth : Method} {c : Code} {H : Heap} {locs : List Loc} {cells slots : Nat}
variable {y : MethodName} {bytes cc : ByteArray} {maxL nL mc ms n index : Nat} {ret : Option FieldType} {ws : List Cond} {rm : Room} {Pc : Array Value → State → Prop} {Qc : Array Value → State → Outcome → State → Prop} {XC : String → State → State → Prop} {free : Addr → Prop} {Ts : List Cond} {own C : String} {b : Addr} {As rest : List Value} {g : JFrame}
theorem vx_callBack (cb : CallB R s args own index y bytes maxL ret ws rm mc ms n) (hM : vx_Met l y ws rm Pc Qc XC mc ms free) (hbl : FrameBlind Pc) : vx_Back l R p e below s args y 3 8 (PreOf R mc ms Pc) (PostOf Qc mc ms free) (vx_Post XC mc ms free) := by
  obtain ⟨hrc, hrs, hfr, hlo, hws, hcw, -, hini, -⟩ := cb
  exact vx_back (bytes := bytes) (maxL := maxL) (ret := ret) hM hbl hrc hrs hfr hlo hws hcw (fun a' U hW => word_at hW (Or.inl (by first | rfl | simp [Cond.onTables, Cond.keeps, Cond.steady])) hini)
theorem vx_runV (S : CallFix p m c cc nL s args Ts own) (hM : vx_Met l y ws rm Pc Qc XC mc ms free) (cw : CallW R s args own C index y bytes maxL ret ws rm mc ms n) (hp : PreV s H C b Pc As)
    (hg : g.method = m) (hn : As.length = n) (hsize : g.locals.size = nL) (hstack : g.stack = As.reverse ++ .ref b :: rest) (hW : 2 * g.monitorRoom + (rest.map fun v => v.category).sum ≤ 8) (hdg : decode cc g.pc = .ok (.invokevirtual index, 3)) (hf : cells + mc ≤ R.cells ∧ slots + ms ≤ R.slots) :
    vx_Run p l e R s m args below meth c H locs cells slots mc ms g rest (Qc (Value.ref b :: As).toArray) XC free := by
  have hK : vx_Back l R p e below s args y 3 8 (PreOf R mc ms Pc) (PostOf Qc mc ms free) (vx_Post XC mc ms free) := vx_callBack cw.1 hM hp.1
  obtain ⟨⟨-, -, -, -, -, -, hcode, -, hy, hlen, hl⟩, hin, hse⟩ := cw
  obtain ⟨hx, hb, hml, ho, -⟩ := S
  obtain ⟨-, ⟨cellB, hcB, hoB, hclB⟩, hPc⟩ := hp
  intro T hT X
  rcases vx_callV X hx (C := C) (bytes := bytes) (maxL := maxL) (ret := ret) ho hl hin hse hcode hy hK (by rw [hT]; exact hcB) hoB hclB hg (hsize.trans hml.symm) (argsL := As) (rest := rest) (fun sig h => hn.trans (hlen sig h)) hstack hW (by rw [hb]; exact hdg)
    (fun vm₁ hW₁ => ⟨hf.1, hf.2, hPc (T.setVm vm₁) hT hW₁⟩) with ⟨v, vm₁, ⟨U', l2, c2, s2⟩, hW₁, X', ⟨g', mk, t, L, e1, e2, hq, h1, hL, h2, h3⟩, st⟩ | ⟨q, vm₁, ⟨U', l2, c2, s2⟩, hW₁, X', ⟨g', mk, t, L, E, ce, e1, e2, hq, hce, hcv, hcl, h1, hL, h2, h3⟩, st⟩
  · dsimp only [Pt.U, Pt.locs, Pt.cells, Pt.slots] at X' e1 e2 h1 h2 h3 st
    subst h1; subst h2; subst h3
    exact Or.inl ⟨v, (T.setVm vm₁).calling g' mk (Value.ref b :: As).toArray, t, U', L, hT, X', hL, e1, e2, hq, st⟩
  · dsimp only [Pt.U, Pt.locs, Pt.cells, Pt.slots] at X' e1 e2 h1 h2 h3 st hcl
    subst h1; subst h2; subst h3
    exact Or.inr ⟨q, (T.setVm vm₁).calling g' mk (Value.ref b :: As).toArray, t, U', L, E, ce, hT, X', hL, e1, e2, hq, hce, hcv, vx_cls hW₁ hcl, st⟩
theorem vx_runS (S : CallFix p m c cc nL s args Ts own) (hM : vx_Met l y ws rm Pc Qc XC mc ms free) (cw : CallB R s args own index y bytes maxL ret ws rm mc ms n ∧ (Cond.static y).before args s = true) (hp : PreS s H Pc As)
    (hg : g.method = m) (hn : As.length = n) (hsize : g.locals.size = nL) (hstack : g.stack = As.reverse ++ rest) (hW : 2 * g.monitorRoom + (rest.map fun v => v.category).sum ≤ 8) (hdg : decode cc g.pc = .ok (.invokestatic index, 3)) (hf : cells + mc ≤ R.cells ∧ slots + ms ≤ R.slots) :
    vx_Run p l e R s m args below meth c H locs cells slots mc ms g rest (Qc As.toArray) XC free := by
  have hK : vx_Back l R p e below s args y 3 8 (PreOf R mc ms Pc) (PostOf Qc mc ms free) (vx_Post XC mc ms free) := vx_callBack cw.1 hM hp.1
  obtain ⟨⟨-, -, -, -, -, -, hcode, hini, hy, hlen, hl⟩, hstt⟩ := cw
  obtain ⟨hx, hb, hml, ho, -⟩ := S
  intro T hT X
  rcases vx_callS X hx (bytes := bytes) (maxL := maxL) (ret := ret) ho hl hstt hini hcode hy hK hg (hsize.trans hml.symm) (argsL := As) (rest := rest) (fun sig h => hn.trans (hlen sig h)) hstack hW (by rw [hb]; exact hdg)
    (fun vm₁ hW₁ => ⟨hf.1, hf.2, hp.2 (T.setVm vm₁) hT hW₁⟩) with ⟨v, vm₁, ⟨U', l2, c2, s2⟩, hW₁, X', ⟨g', mk, t, L, e1, e2, hq, h1, hL, h2, h3⟩, st⟩ | ⟨q, vm₁, ⟨U', l2, c2, s2⟩, hW₁, X', ⟨g', mk, t, L, E, ce, e1, e2, hq, hce, hcv, hcl, h1, hL, h2, h3⟩, st⟩
  · dsimp only [Pt.U, Pt.locs, Pt.cells, Pt.slots] at X' e1 e2 h1 h2 h3 st
    subst h1; subst h2; subst h3
    exact Or.inl ⟨v, (T.setVm vm₁).calling g' mk As.toArray, t, U', L, hT, X', hL, e1, e2, hq, st⟩
  · dsimp only [Pt.U, Pt.locs, Pt.cells, Pt.slots] at X' e1 e2 h1 h2 h3 st hcl
    subst h1; subst h2; subst h3
    exact Or.inr ⟨q, (T.setVm vm₁).calling g' mk As.toArray, t, U', L, E, ce, hT, X', hL, e1, e2, hq, hce, hcv, vx_cls hW₁ hcl, st⟩
end Runs
section Rows
variable {p : Program} {l : Launch} {e : Env} {R : Room} {s : State} {m : MethodId} {args : Array Value} {below : List Frame} {meth : Method} {c : Code} {H : Heap} {locs : List Loc} {cells slots : Nat} {Q : State → Prop}
variable {mc ms : Nat} {free : Addr → Prop} {A0 A1 : Nat → Prop} {H0 : Heap} {a : Array Value} {pc : Nat} {ls : Array Slot} {st0 rest : List Value}
theorem vx_keep {st₀ t T' : State} {L : List Loc} (h0 : st₀.heap = H) (e1 : T'.heap = t.heap) (hS : va_S A0 H0 H locs) (hA : ∀ q, q < H.size → A1 q → A0 q) (hf : ∀ q, free q → A0 q) (hL : ∀ q ∈ L, free q.base) (hF : va_F A1 st₀ t) :
    H.size ≤ T'.heap.size ∧ (∀ q : Nat, q < H.size → ¬ A1 q → T'.heap[q]? = H[q]?) ∧ va_S A0 H0 T'.heap (locs ++ L) := by
  obtain ⟨hz, hk⟩ := hF
  rw [h0] at hz hk
  exact ⟨by rw [e1]; exact hz, fun q h1 h2 => by rw [e1]; exact hk q h1 h2,
    ⟨Nat.le_trans hS.1 (by rw [e1]; exact hz), fun q h1 h2 => by rw [e1, hk q (Nat.lt_of_lt_of_le h1 hS.1) (fun z => h2 (hA q (Nat.lt_of_lt_of_le h1 hS.1) z))]; exact hS.2.1 q h1 h2, fun q hq => by
      rcases List.mem_append.mp hq with h | h
      · exact hS.2.2 q h
      · exact hf _ (hL q h)⟩⟩
theorem vx_calli {S SX : Type} {post : Int32 → S → Prop} {px : SX → Prop} {B : S → State → Prop} {BX : String → SX → State → Prop} {AX : Nat → Prop} (hr : vx_Run p l e R s m args below meth c H locs cells slots mc ms (F0 m pc ls st0) rest (va_Qi post B A1 a) (vx_X px BX AX) free) (hS : va_S A0 H0 H locs) (hA : ∀ q, q < H.size → A1 q → A0 q) (hf : ∀ q, free q → A0 q) (hAX : ∀ q, q < H.size → AX q → A0 q)
    (kx : ∀ (E : String) (ce : Cell) (q9 : Addr) (u : SX) (t : State) (H1 : Heap) (locs1 : List Loc), t.heap = H1 → s.vm.Alike t.vm → px u → BX E u t → H.size ≤ H1.size → (∀ q : Nat, q < H.size → ¬ AX q → H1[q]? = H[q]?) → va_S A0 H0 H1 locs1 → H1[q9]? = some ce → ce.vm = .none → s.vm.findClass E = some ce.cls → vx_W p l e R s m args below meth c H1 locs1 (cells + mc) (slots + ms) Q (F0 m pc ls rest) q9)
    (kk : ∀ (r : Int32) (u : S) (t : State) (H1 : Heap) (locs1 : List Loc), t.heap = H1 → s.vm.Alike t.vm → post r u → B u t → H.size ≤ H1.size → (∀ q : Nat, q < H.size → ¬ A1 q → H1[q]? = H[q]?) → va_S A0 H0 H1 locs1 → W p l e R s m args below meth c H1 locs1 (cells + mc) (slots + ms) Q (F0 m (pc + 3) ls (.int r :: rest))) : W p l e R s m args below meth c H locs cells slots Q (F0 m pc ls st0) := by
  intro T hT X
  rcases hr T hT X with ⟨v, st₀, t, T', L, h0, X', hL, e1, e2, ⟨⟨r, u, hv, hp, hb⟩, hF⟩, st⟩ | ⟨q, st₀, t, T', L, E, ce, h0, X', hL, e1, e2, ⟨u, hp, hb, hF⟩, hce, hcv, hcl, st⟩
  · cases hv
    obtain ⟨k1, k2, k3⟩ := vx_keep h0 e1 hS hA hf hL hF
    obtain ⟨t2, a1, b1⟩ := kk r u t T'.heap (locs ++ L) e1.symm (by rw [← e2]; exact X'.warmed.alike) hp hb k1 k2 k3 T' rfl X'
    exact ⟨t2, st t2 a1, b1⟩
  · obtain ⟨k1, k2, k3⟩ := vx_keep h0 e1 hS hAX hf hL hF
    obtain ⟨t2, a1, b1⟩ := kx E ce q u t T'.heap (locs ++ L) e1.symm (by rw [← e2]; exact X'.warmed.alike) hp hb k1 k2 k3 (by rw [e1]; exact hce) hcv hcl T' rfl X'
    exact ⟨t2, st.trans a1, b1⟩
theorem vx_calll {S SX : Type} {post : Int64 → S → Prop} {px : SX → Prop} {B : S → State → Prop} {BX : String → SX → State → Prop} {AX : Nat → Prop} (hr : vx_Run p l e R s m args below meth c H locs cells slots mc ms (F0 m pc ls st0) rest (va_Ql post B A1 a) (vx_X px BX AX) free) (hS : va_S A0 H0 H locs) (hA : ∀ q, q < H.size → A1 q → A0 q) (hf : ∀ q, free q → A0 q) (hAX : ∀ q, q < H.size → AX q → A0 q)
    (kx : ∀ (E : String) (ce : Cell) (q9 : Addr) (u : SX) (t : State) (H1 : Heap) (locs1 : List Loc), t.heap = H1 → s.vm.Alike t.vm → px u → BX E u t → H.size ≤ H1.size → (∀ q : Nat, q < H.size → ¬ AX q → H1[q]? = H[q]?) → va_S A0 H0 H1 locs1 → H1[q9]? = some ce → ce.vm = .none → s.vm.findClass E = some ce.cls → vx_W p l e R s m args below meth c H1 locs1 (cells + mc) (slots + ms) Q (F0 m pc ls rest) q9)
    (kk : ∀ (r : Int64) (u : S) (t : State) (H1 : Heap) (locs1 : List Loc), t.heap = H1 → s.vm.Alike t.vm → post r u → B u t → H.size ≤ H1.size → (∀ q : Nat, q < H.size → ¬ A1 q → H1[q]? = H[q]?) → va_S A0 H0 H1 locs1 → W p l e R s m args below meth c H1 locs1 (cells + mc) (slots + ms) Q (F0 m (pc + 3) ls (.long r :: rest))) : W p l e R s m args below meth c H locs cells slots Q (F0 m pc ls st0) := by
  intro T hT X
  rcases hr T hT X with ⟨v, st₀, t, T', L, h0, X', hL, e1, e2, ⟨⟨r, u, hv, hp, hb⟩, hF⟩, st⟩ | ⟨q, st₀, t, T', L, E, ce, h0, X', hL, e1, e2, ⟨u, hp, hb, hF⟩, hce, hcv, hcl, st⟩
  · cases hv
    obtain ⟨k1, k2, k3⟩ := vx_keep h0 e1 hS hA hf hL hF
    obtain ⟨t2, a1, b1⟩ := kk r u t T'.heap (locs ++ L) e1.symm (by rw [← e2]; exact X'.warmed.alike) hp hb k1 k2 k3 T' rfl X'
    exact ⟨t2, st t2 a1, b1⟩
  · obtain ⟨k1, k2, k3⟩ := vx_keep h0 e1 hS hAX hf hL hF
    obtain ⟨t2, a1, b1⟩ := kx E ce q u t T'.heap (locs ++ L) e1.symm (by rw [← e2]; exact X'.warmed.alike) hp hb k1 k2 k3 (by rw [e1]; exact hce) hcv hcl T' rfl X'
    exact ⟨t2, st.trans a1, b1⟩
theorem vx_callf {S SX : Type} {post : UInt32 → S → Prop} {px : SX → Prop} {B : S → State → Prop} {BX : String → SX → State → Prop} {AX : Nat → Prop} (hr : vx_Run p l e R s m args below meth c H locs cells slots mc ms (F0 m pc ls st0) rest (va_Qf post B A1 a) (vx_X px BX AX) free) (hS : va_S A0 H0 H locs) (hA : ∀ q, q < H.size → A1 q → A0 q) (hf : ∀ q, free q → A0 q) (hAX : ∀ q, q < H.size → AX q → A0 q)
    (kx : ∀ (E : String) (ce : Cell) (q9 : Addr) (u : SX) (t : State) (H1 : Heap) (locs1 : List Loc), t.heap = H1 → s.vm.Alike t.vm → px u → BX E u t → H.size ≤ H1.size → (∀ q : Nat, q < H.size → ¬ AX q → H1[q]? = H[q]?) → va_S A0 H0 H1 locs1 → H1[q9]? = some ce → ce.vm = .none → s.vm.findClass E = some ce.cls → vx_W p l e R s m args below meth c H1 locs1 (cells + mc) (slots + ms) Q (F0 m pc ls rest) q9)
    (kk : ∀ (r : UInt32) (u : S) (t : State) (H1 : Heap) (locs1 : List Loc), t.heap = H1 → s.vm.Alike t.vm → post r u → B u t → H.size ≤ H1.size → (∀ q : Nat, q < H.size → ¬ A1 q → H1[q]? = H[q]?) → va_S A0 H0 H1 locs1 → W p l e R s m args below meth c H1 locs1 (cells + mc) (slots + ms) Q (F0 m (pc + 3) ls (.float r :: rest))) : W p l e R s m args below meth c H locs cells slots Q (F0 m pc ls st0) := by
  intro T hT X
  rcases hr T hT X with ⟨v, st₀, t, T', L, h0, X', hL, e1, e2, ⟨⟨r, u, hv, hp, hb⟩, hF⟩, st⟩ | ⟨q, st₀, t, T', L, E, ce, h0, X', hL, e1, e2, ⟨u, hp, hb, hF⟩, hce, hcv, hcl, st⟩
  · cases hv
    obtain ⟨k1, k2, k3⟩ := vx_keep h0 e1 hS hA hf hL hF
    obtain ⟨t2, a1, b1⟩ := kk r u t T'.heap (locs ++ L) e1.symm (by rw [← e2]; exact X'.warmed.alike) hp hb k1 k2 k3 T' rfl X'
    exact ⟨t2, st t2 a1, b1⟩
  · obtain ⟨k1, k2, k3⟩ := vx_keep h0 e1 hS hAX hf hL hF
    obtain ⟨t2, a1, b1⟩ := kx E ce q u t T'.heap (locs ++ L) e1.symm (by rw [← e2]; exact X'.warmed.alike) hp hb k1 k2 k3 (by rw [e1]; exact hce) hcv hcl T' rfl X'
    exact ⟨t2, st.trans a1, b1⟩
theorem vx_calld {S SX : Type} {post : UInt64 → S → Prop} {px : SX → Prop} {B : S → State → Prop} {BX : String → SX → State → Prop} {AX : Nat → Prop} (hr : vx_Run p l e R s m args below meth c H locs cells slots mc ms (F0 m pc ls st0) rest (va_Qd post B A1 a) (vx_X px BX AX) free) (hS : va_S A0 H0 H locs) (hA : ∀ q, q < H.size → A1 q → A0 q) (hf : ∀ q, free q → A0 q) (hAX : ∀ q, q < H.size → AX q → A0 q)
    (kx : ∀ (E : String) (ce : Cell) (q9 : Addr) (u : SX) (t : State) (H1 : Heap) (locs1 : List Loc), t.heap = H1 → s.vm.Alike t.vm → px u → BX E u t → H.size ≤ H1.size → (∀ q : Nat, q < H.size → ¬ AX q → H1[q]? = H[q]?) → va_S A0 H0 H1 locs1 → H1[q9]? = some ce → ce.vm = .none → s.vm.findClass E = some ce.cls → vx_W p l e R s m args below meth c H1 locs1 (cells + mc) (slots + ms) Q (F0 m pc ls rest) q9)
    (kk : ∀ (r : UInt64) (u : S) (t : State) (H1 : Heap) (locs1 : List Loc), t.heap = H1 → s.vm.Alike t.vm → post r u → B u t → H.size ≤ H1.size → (∀ q : Nat, q < H.size → ¬ A1 q → H1[q]? = H[q]?) → va_S A0 H0 H1 locs1 → W p l e R s m args below meth c H1 locs1 (cells + mc) (slots + ms) Q (F0 m (pc + 3) ls (.double r :: rest))) : W p l e R s m args below meth c H locs cells slots Q (F0 m pc ls st0) := by
  intro T hT X
  rcases hr T hT X with ⟨v, st₀, t, T', L, h0, X', hL, e1, e2, ⟨⟨r, u, hv, hp, hb⟩, hF⟩, st⟩ | ⟨q, st₀, t, T', L, E, ce, h0, X', hL, e1, e2, ⟨u, hp, hb, hF⟩, hce, hcv, hcl, st⟩
  · cases hv
    obtain ⟨k1, k2, k3⟩ := vx_keep h0 e1 hS hA hf hL hF
    obtain ⟨t2, a1, b1⟩ := kk r u t T'.heap (locs ++ L) e1.symm (by rw [← e2]; exact X'.warmed.alike) hp hb k1 k2 k3 T' rfl X'
    exact ⟨t2, st t2 a1, b1⟩
  · obtain ⟨k1, k2, k3⟩ := vx_keep h0 e1 hS hAX hf hL hF
    obtain ⟨t2, a1, b1⟩ := kx E ce q u t T'.heap (locs ++ L) e1.symm (by rw [← e2]; exact X'.warmed.alike) hp hb k1 k2 k3 (by rw [e1]; exact hce) hcv hcl T' rfl X'
    exact ⟨t2, st.trans a1, b1⟩
theorem vx_callv {S SX : Type} {post : S → Prop} {px : SX → Prop} {B : S → State → Prop} {BX : String → SX → State → Prop} {AX : Nat → Prop} (hr : vx_Run p l e R s m args below meth c H locs cells slots mc ms (F0 m pc ls st0) rest (va_Qv post B A1 a) (vx_X px BX AX) free) (hS : va_S A0 H0 H locs) (hA : ∀ q, q < H.size → A1 q → A0 q) (hf : ∀ q, free q → A0 q) (hAX : ∀ q, q < H.size → AX q → A0 q)
    (kx : ∀ (E : String) (ce : Cell) (q9 : Addr) (u : SX) (t : State) (H1 : Heap) (locs1 : List Loc), t.heap = H1 → s.vm.Alike t.vm → px u → BX E u t → H.size ≤ H1.size → (∀ q : Nat, q < H.size → ¬ AX q → H1[q]? = H[q]?) → va_S A0 H0 H1 locs1 → H1[q9]? = some ce → ce.vm = .none → s.vm.findClass E = some ce.cls → vx_W p l e R s m args below meth c H1 locs1 (cells + mc) (slots + ms) Q (F0 m pc ls rest) q9)
    (kk : ∀ (u : S) (t : State) (H1 : Heap) (locs1 : List Loc), t.heap = H1 → s.vm.Alike t.vm → post u → B u t → H.size ≤ H1.size → (∀ q : Nat, q < H.size → ¬ A1 q → H1[q]? = H[q]?) → va_S A0 H0 H1 locs1 → W p l e R s m args below meth c H1 locs1 (cells + mc) (slots + ms) Q (F0 m (pc + 3) ls (rest))) : W p l e R s m args below meth c H locs cells slots Q (F0 m pc ls st0) := by
  intro T hT X
  rcases hr T hT X with ⟨v, st₀, t, T', L, h0, X', hL, e1, e2, ⟨⟨u, hv, hp, hb⟩, hF⟩, st⟩ | ⟨q, st₀, t, T', L, E, ce, h0, X', hL, e1, e2, ⟨u, hp, hb, hF⟩, hce, hcv, hcl, st⟩
  · cases hv
    obtain ⟨k1, k2, k3⟩ := vx_keep h0 e1 hS hA hf hL hF
    obtain ⟨t2, a1, b1⟩ := kk u t T'.heap (locs ++ L) e1.symm (by rw [← e2]; exact X'.warmed.alike) hp hb k1 k2 k3 T' rfl X'
    exact ⟨t2, st t2 a1, b1⟩
  · obtain ⟨k1, k2, k3⟩ := vx_keep h0 e1 hS hAX hf hL hF
    obtain ⟨t2, a1, b1⟩ := kx E ce q u t T'.heap (locs ++ L) e1.symm (by rw [← e2]; exact X'.warmed.alike) hp hb k1 k2 k3 (by rw [e1]; exact hce) hcv hcl T' rfl X'
    exact ⟨t2, st.trans a1, b1⟩
/-- caught by the row x of this method's table; the rows ahead don't take it -/
theorem vx_catch {own name : String} {E : String} {ce : Cell} {q : Addr} (hown : s.vm.findClass own = some m.cls) (pre : List ExceptionTableEntry) (x : ExceptionTableEntry) (suf : List ExceptionTableEntry) (hsplit : c.exceptionTable.toList = pre ++ x :: suf)
    (hpass : ∀ z ∈ pre, covers z pc = false ∨ (z.catchType ≠ 0 ∧ ∃ nm : String, (Cond.classLink own z.catchType nm).before args s = true ∧ va_Nc E nm s)) (hx : covers x pc = true) (h0 : x.catchType ≠ 0)
    (hlink : (Cond.classLink own x.catchType name).before args s = true) (hcast : (Cond.castable E name).before args s = true) (hcell : H[q]? = some ce) (hv : ce.vm = .none) (hcl : s.vm.findClass E = some ce.cls)
    (kk : W p l e R s m args below meth c H locs cells slots Q (F0 m x.handlerPc ls [.ref q])) : vx_W p l e R s m args below meth c H locs cells slots Q (F0 m pc ls rest) q := by
  intro T hT X
  have hpl : e.platform.magicAccessors = ({} : Platform).magicAccessors := by rw [X.admits.platform]
  obtain ⟨c3, c4, hc3, hc4, hasg⟩ := Cond.castable_spec hcast
  cases Option.some.inj (hc3.symm.trans hcl)
  obtain ⟨c5, hc5, hcl5⟩ := Cond.classLink_spec hown hlink e.platform hpl
  cases Option.some.inj (hc4.symm.trans hc5)
  obtain ⟨vm', X', st⟩ := X.thenCaughtThrough q (g := F0 m pc ls rest) rfl (Steps.refl _) (by rw [hT]; exact hcell) (by rw [hv]; rfl) (by obtain ⟨k9, h9, -⟩ := Vm.findClass_spec hcl; exact ⟨k9, h9⟩) pre x suf hsplit
    (fun z hz => by
      rcases hpass z hz with h | ⟨hz0, nm, hl1, hn1⟩
      · exact Or.inl h
      · obtain ⟨c6, hc6, hcl6⟩ := Cond.classLink_spec hown hl1 e.platform hpl
        obtain ⟨a8, b8, h1, h2, h3⟩ := hn1
        cases Option.some.inj (h1.symm.trans hcl)
        cases Option.some.inj (h2.symm.trans hc6)
        exact Or.inr ⟨hz0, _, hcl6, h3⟩) hx (Or.inr ⟨h0, c4, hcl5, hasg⟩)
  obtain ⟨t, a1, b1⟩ := kk (T.setVm vm') hT X'
  exact ⟨t, st.trans a1, b1⟩
end Rows
section Ends
variable {p : Program} {l : Launch} {e : Env} {R : Room} {s : State} {m : MethodId} {args : Array Value} {below : List Frame} {meth : Method} {c : Code} {H : Heap} {locs : List Loc} {cells slots : Nat} {Q : State → Prop}
variable {mc ms : Nat} {free : Addr → Prop} {A0 A1 : Nat → Prop} {H0 : Heap} {a : Array Value} {ls : Array Slot} {st0 rest : List Value}
variable {Qc : Array Value → State → Outcome → State → Prop} {XC : String → State → State → Prop}
/-- what a body that may throw owes at its end -/
def vx_MQ (below : List Frame) (Qc : Array Value → State → Outcome → State → Prop) (XC : String → State → State → Prop) (a : Array Value) (s : State) (mc ms : Nat) (free : Addr → Prop) : State → Prop := fun t =>
  ∃ o, t.status = .running ∧ Ended t below o ∧ vx_Q Qc XC mc ms free a s o t
theorem vx_ret {g : JFrame} {mc ms : Nat} (k : W p l e R s m args below meth c H locs cells slots (MQ below Qc args s mc ms free) g) : W p l e R s m args below meth c H locs cells slots (vx_MQ below Qc XC args s mc ms free) g := by
  intro T hT X
  obtain ⟨t, a1, o, b1, b2, b3, b4⟩ := k T hT X
  exact ⟨t, a1, o, b1, b2, Or.inl ⟨b3, b4⟩⟩
/-- not caught here: it goes on to the caller -/
theorem vx_widen {g : JFrame} {q : Addr} {k n : Nat} (h1 : cells ≤ k) (h2 : slots ≤ n) (kk : vx_W p l e R s m args below meth c H locs k n Q g q) : vx_W p l e R s m args below meth c H locs cells slots Q g q := fun T hT X => kk T hT (stand_widen X h1 h2)
theorem vx_out {pc : Nat} {E : String} {ce : Cell} {q : Addr} {mc ms : Nat} (hout : ∀ x ∈ c.exceptionTable.toList, covers x pc = false) (hlocks : meth.locks = false) (hcell : H[q]? = some ce) (hv : ce.vm = .none) (hcl : s.vm.findClass E = some ce.cls)
    (hx : ∀ t : State, t.heap = H → s.vm.Alike t.vm → XC E s t) (hf : ∀ z ∈ locs, free z.base) (hc : cells ≤ mc) (hs : slots ≤ ms) :
    vx_W p l e R s m args below meth c H locs cells slots (vx_MQ below Qc XC args s mc ms free) (F0 m pc ls rest) q := by
  intro T hT X
  obtain ⟨st1, hrun, hend, hW, hsm⟩ := X.leaveThrown q (g := F0 m pc ls rest) rfl rfl rfl hout hlocks
  have hcell9 : (T.setFrames (.throwing q :: below)).heap[q]? = some ce := by
    show T.heap[q]? = some ce
    rw [hT]; exact hcell
  exact ⟨_, st1, .threw q, hrun, hend, Or.inr ⟨q, rfl, E, ce, locs, hx _ hT hW.alike, hcell9, hv, hcl, hW, hsm.mono hc hs, hf⟩⟩
theorem vx_frame {U : State} {k n : Nat} (h : s.sameButNew ({ U with vm := s.vm } : State) locs k n) : s.heap.size ≤ U.heap.size ∧ ∀ q : Nat, q < s.heap.size → (∀ z ∈ locs, z.base ≠ q) → U.heap[q]? = s.heap[q]? := by
  obtain ⟨-, h2, -, -, -, h6⟩ := h
  refine ⟨h2, fun q hq hz => ?_⟩
  obtain ⟨c9, e1, e2, e3, e4⟩ := h6 q _ (Array.getElem?_eq_getElem hq)
  have hs : c9.slots = (s.heap[q]).slots := Array.ext_getElem? fun i => e4 i fun hm => hz _ hm rfl
  have h9 : c9 = s.heap[q] := by
    rw [hs] at e2
    exact e2
  have e5 : U.heap[q]? = some c9 := e1
  rw [e5, h9, Array.getElem?_eq_getElem hq]
/-- the words of a throw but the four that speak of the heap -/
def vx_no (w : Cond) : Bool := decide (w ≠ .isRef (.static Bundle.tN "UNASSIGNED_STACK" Bundle.steD)) && decide (w ≠ .isRef (.static Bundle.tN "SUPPRESSED_SENTINEL" Bundle.listD)) && decide (w ≠ .laysStatic Bundle.tN "UNASSIGNED_STACK" Bundle.steD) && decide (w ≠ .laysStatic Bundle.tN "SUPPRESSED_SENTINEL" Bundle.listD)
def vx_at0 (own : String) (ic : Nat) (X : String) (names : List String) : List Cond := (Bundle.ownAtoms0 own ic X names).filter vx_no
def vx_atS (own : String) (ic : Nat) (X : String) (names : List String) : List Cond := (Bundle.ownAtoms own ic X names).filter vx_no
/-- a word that the tables alone decide, or a good one -/
def vx_ot (w : Cond) : Bool := w.onTables || goodWord w
theorem vx_ot_at {args a' : Array Value} {s U : State} {w : Cond} (hW : s.WarmedH U.vm) (hvm : s.vm = U.vm) (hg : vx_ot w = true) (h : w.before args s = true) : w.before a' U = true := by
  simp only [vx_ot, Bool.or_eq_true] at hg
  rcases hg with hg | hg
  · exact va_tabs hg hvm h
  · exact word_at hW (good_of_word hg) h
/-- a list's words: the good ones out of the method's own list, the others by premises of their own -/
theorem vx_hat {args : Array Value} {s : State} {L B : List Cond} (h1 : ∀ w ∈ L.filter goodWord, w.before args s = true) (h2 : ∀ w ∈ L.filter (fun w => !goodWord w), w ∈ B) (h3 : ∀ w ∈ B, w.before args s = true) : ∀ w ∈ L, w.before args s = true := by
  intro w hw
  by_cases g : goodWord w = true
  · exact h1 w (List.mem_filter.mpr ⟨hw, g⟩)
  · refine h3 w (h2 w (List.mem_filter.mpr ⟨hw, ?_⟩))
    show (!goodWord w) = true
    cases hgw : goodWord w
    · rfl
    · exact absurd hgw g
theorem vx_c {args : Array Value} {s : State} {w : Cond} {B : List Cond} (h : w.before args s = true) (t : ∀ w ∈ B, w.before args s = true) : ∀ w' ∈ w :: B, w'.before args s = true := fun w' h' => (List.mem_cons.mp h').elim (fun e => by rw [e]; exact h) (t w')
theorem vx_n {args : Array Value} {s : State} : ∀ w ∈ ([] : List Cond), w.before args s = true := fun _ h => nomatch h
theorem vx_own {args : Array Value} {s : State} {L : List Cond} (h1 : ∀ w ∈ L.filter vx_no, w.before args s = true)
    (hU : (Cond.isRef (.static Bundle.tN "UNASSIGNED_STACK" Bundle.steD)).before args s = true) (hN : (Cond.isRef (.static Bundle.tN "SUPPRESSED_SENTINEL" Bundle.listD)).before args s = true)
    (lU : (Cond.laysStatic Bundle.tN "UNASSIGNED_STACK" Bundle.steD).before args s = true) (lN : (Cond.laysStatic Bundle.tN "SUPPRESSED_SENTINEL" Bundle.listD).before args s = true) : ∀ w ∈ L, w.before args s = true := by
  intro w hw
  by_cases e1 : w = .isRef (.static Bundle.tN "UNASSIGNED_STACK" Bundle.steD)
  · rw [e1]; exact hU
  · by_cases e2 : w = .isRef (.static Bundle.tN "SUPPRESSED_SENTINEL" Bundle.listD)
    · rw [e2]; exact hN
    · by_cases e3 : w = .laysStatic Bundle.tN "UNASSIGNED_STACK" Bundle.steD
      · rw [e3]; exact lU
      · by_cases e4 : w = .laysStatic Bundle.tN "SUPPRESSED_SENTINEL" Bundle.listD
        · rw [e4]; exact lN
        · exact h1 w (List.mem_filter.mpr ⟨hw, by unfold vx_no; rw [decide_eq_true e1, decide_eq_true e2, decide_eq_true e3, decide_eq_true e4]; rfl⟩)
/-- where a static field lies, its class's statics cell in H -/
def vx_L (C n d : String) (A : Nat → Prop) (U : State) (H : Heap) : Prop := ∃ (c : ClassId) (k : Class) (i : Nat) (f : Field) (a : Nat) (cell : Cell), U.vm.findClass C = some c ∧ U.fieldFound? C n d = some (c, k, i, f) ∧ f.isStatic = true ∧ k.statics = some a ∧ H[a]? = some cell ∧ cell.vm.isStatics = true ∧ cell.cls = c ∧ f.slot < cell.slots.size ∧ k.staticTypes[f.slot]? = some f.type ∧ ¬ A a
theorem vx_L.moved {C n d : String} {A : Nat → Prop} {u U : State} {H : Heap} (hvm : u.vm.Alike U.vm) (h : vx_L C n d A u H) : vx_L C n d A U H := by
  obtain ⟨c, k, i, f, a, cell, h1, h2, h3, h4, h5, h6, h7, h8, h9, h10⟩ := h
  obtain ⟨k', hi', he⟩ := State.fieldFound?_setVm hvm h2
  exact ⟨c, k', i, f, a, cell, by rw [hvm.findClass]; exact h1, hi', h3, by rw [he]; exact h4, h5, h6, h7, h8, by rw [he]; exact h9, h10⟩
theorem vx_L.kept {C n d : String} {A : Nat → Prop} {U : State} {H H1 : Heap} (h : vx_L C n d A U H) (hq : ∀ a : Nat, a < H.size → ¬ A a → H1[a]? = H[a]?) : vx_L C n d A U H1 := by
  obtain ⟨c, k, i, f, a, cell, h1, h2, h3, h4, h5, h6, h7, h8, h9, h10⟩ := h
  exact ⟨c, k, i, f, a, cell, h1, h2, h3, h4, by rw [hq a (Array.getElem?_eq_some_iff.mp h5).1 h10]; exact h5, h6, h7, h8, h9, h10⟩
theorem vx_L.narrow {C n d : String} {A B : Nat → Prop} {U : State} {H : Heap} (h : vx_L C n d A U H) (hAB : ∀ q, B q → A q) : vx_L C n d B U H := by
  obtain ⟨c, k, i, f, a, cell, h1, h2, h3, h4, h5, h6, h7, h8, h9, h10⟩ := h
  exact ⟨c, k, i, f, a, cell, h1, h2, h3, h4, h5, h6, h7, h8, h9, fun z => h10 (hAB _ z)⟩
theorem vx_L.word {C n d : String} {A : Nat → Prop} {s : State} {args : Array Value} (h : vx_L C n d A s s.heap) : (Cond.laysStatic C n d).before args s = true := by
  obtain ⟨c, k, i, f, a, cell, h1, h2, h3, h4, h5, h6, h7, h8, h9, -⟩ := h
  show (Cond.laysStatic C n d).holds args s none s [] = true
  exact Cond.laysStatic_of h1 h2 h3 h4 h5 h6 h7 h8 h9
/-- .. and what it holds: null or some reference -/
def vx_Zq (C n d : String) (A : Nat → Prop) (U : State) (H : Heap) : Prop := va_Zq C n d A U H ∧ vx_L C n d A U H
theorem vx_Zq.moved {C n d : String} {A : Nat → Prop} {u U : State} {H : Heap} (hvm : u.vm.Alike U.vm) (h : vx_Zq C n d A u H) : vx_Zq C n d A U H := ⟨va_Zq.moved hvm h.1, vx_L.moved hvm h.2⟩
theorem vx_Zq.kept {C n d : String} {A : Nat → Prop} {U : State} {H H1 : Heap} (h : vx_Zq C n d A U H) (hq : ∀ a : Nat, a < H.size → ¬ A a → H1[a]? = H[a]?) : vx_Zq C n d A U H1 := ⟨va_Zq.kept h.1 hq, vx_L.kept h.2 hq⟩
theorem vx_Zq.narrow {C n d : String} {A B : Nat → Prop} {U : State} {H : Heap} (h : vx_Zq C n d A U H) (hAB : ∀ q, B q → A q) : vx_Zq C n d B U H := ⟨va_Zq.narrow h.1 hAB, vx_L.narrow h.2 hAB⟩
theorem vx_Zqof {args : Array Value} {s : State} {C n d : String} {A : Nat → Prop} (hl : (Cond.laysStatic C n d).before args s = true) (hini : (Cond.initialized C).before args s = true) (h : (Cond.isRef (.static C n d)).before args s = true) (hA : ∀ a : Nat, a < s.heap.size → ¬ A a) : vx_Zq C n d A s s.heap := by
  refine ⟨va_Zqof hl hini h hA, ?_⟩
  obtain ⟨c, k, i, f, a, cell, h1, h2, h3, h4, h5, h6, h7, h8, h9⟩ := Cond.laysStatic_spec hl
  exact ⟨c, k, i, f, a, cell, h1, h2, h3, h4, h5, h6, h7, h8, h9, hA a (Array.getElem?_eq_some_iff.mp h5).1⟩
theorem vx_isRef {C n d : String} {v : Value} {A : Nat → Prop} {s : State} {args : Array Value} (h : va_Z C n d v A s s.heap) (hv : v.isRef = true) : (Cond.isRef (.static C n d)).before args s = true := by
  obtain ⟨cf, kf, fi, f, a, cell, h1, h2, h3, h4, h5, h6, h7, -⟩ := h
  have he : (Term.static C n d).eval args s none [] s = some v := by
    simp [Term.eval, State.fieldNamed?, h1, h2, h4, h5, h6, h7]
  simp only [Cond.before, Cond.holds, Cond.value, he]
  cases v <;> simp_all [Value.isRef]
theorem vx_isRefq {C n d : String} {A : Nat → Prop} {s : State} {args : Array Value} (h : va_Zq C n d A s s.heap) : (Cond.isRef (.static C n d)).before args s = true := by
  rcases h with h | ⟨t, h⟩
  · exact vx_isRef h rfl
  · exact vx_isRef h rfl
/-- the same frame, seen from here: as if the method were called anew in this heap -/
theorem vx_rebase {T : State} (X : Stand p l e R s m args below meth c T locs cells slots) {R' : Room} (hf : R'.frames ≤ R.frames) (hl : R'.locals ≤ R.locals) (hc : cells + R'.cells ≤ R.cells) (hs : slots + R'.slots ≤ R.slots) :
    Stand p l e R' ((T.setVm s.vm).setFrames (.invoking m args :: below)) m args below meth c T [] 0 0 := by
  have htop : (T.setVm s.vm).topJava?.isSome := X.here.top
  have hF : ((T.setVm s.vm).setFrames (.invoking m args :: below)).frames = .invoking m args :: below := State.frames_setFrames _ (State.cur_lt_of_top htop)
  obtain ⟨g₀, hg0⟩ := Option.isSome_iff_exists.mp htop
  obtain ⟨r, hr⟩ := State.topJava?_eq_some.mp hg0
  have hl9 : e.platform.stackLimits (T.setVm s.vm).me = e.platform.stackLimits s.me := X.limits
  have hb9 : (T.setVm s.vm).me.stackBytes = s.me.stackBytes := X.bytes
  refine ⟨X.admits, X.cas, X.clock, hF, ?_, X.hears, X.method, X.code, X.here, X.tail, X.warmed, ?_, ?_, ?_⟩
  · have h := X.room
    have hU : ((T.setVm s.vm).setFrames (.invoking m args :: below)).localsInUse = s.localsInUse := by
      rw [State.localsInUse_invoking hF (meth := meth) (c := c) X.method X.code, State.localsInUse_invoking X.frames X.method X.code]
    simp only [State.hasRoom, Bool.and_eq_true, decide_eq_true_eq] at h ⊢
    obtain ⟨⟨⟨⟨h1, h2, h3, h4, h5, h6⟩, h7⟩, h8⟩, h9⟩ := h
    rw [X.frames, List.length_cons] at h2 h3
    have q1 := X.heapSize
    have q2 := X.used
    simp only [hF, hU, List.length_cons, State.stackLimits_setFrames, State.stackBytes_setFrames, hl9, hb9]
    refine ⟨⟨⟨⟨by omega, by omega, by omega, by omega, by omega, h6⟩, ?_⟩, ?_⟩, X.book⟩
    · show T.heap.size + R'.cells ≤ e.platform.maxCells
      omega
    · show T.slotsUsed + R'.slots ≤ e.platform.maxSlots
      omega
  · rw [State.stackLimits_setFrames]; rfl
  · rw [State.stackBytes_setFrames]; rfl
  · refine ⟨?_, Nat.le_refl _, Nat.le_refl _, ?_, ?_, fun a c9 h9 => ⟨c9, h9, rfl, rfl, fun _ _ => rfl⟩⟩
    · obtain ⟨t, ht, -⟩ := State.frames_cons hr
      show T.setVm s.vm = { ((T.setVm s.vm).setFrames (.invoking m args :: below)).setFrames (T.setVm s.vm).frames with heap := T.heap, slotsUsed := T.slotsUsed }
      rw [State.setFrames_setFrames, State.setFrames_self ht]
      rfl
    · show T.slotsUsed = T.slotsUsed + ((T.heap.toList.drop T.heap.size).map (·.slots.size)).sum
      rw [List.drop_eq_nil_of_le (Nat.le_of_eq Array.length_toList)]
      rfl
    · show ((T.heap.toList.drop T.heap.size).map (·.slots.size)).sum ≤ 0
      rw [List.drop_eq_nil_of_le (Nat.le_of_eq Array.length_toList)]
      exact Nat.le_refl _
/-- 'throw new E()': new; dup; invokespecial; athrow -/
theorem vx_throw0 {cc : ByteArray} {pc : Nat} (hexec : p.tables.exec = Jvm.exec) (hb : c.code = cc) (hl : l.stackTraces = false) {own cls : String} {names : List String} {ik ic mc ms : Nat} {A : Nat → Prop}
    (hown : s.vm.findClass own = some m.cls) (hcls : Bundle.fit cls = true) (hnames : ∀ n ∈ names, Bundle.fit n = true)
    (hk : (Cond.classLink own ik cls).before args s = true) (hini : (Cond.initialized cls).before args s = true) (hat : ∀ w ∈ vx_at0 own ic cls names, w.before args s = true)
    (hgood : ∀ w ∈ Cond.classLink own ik cls :: Cond.initialized cls :: vx_at0 own ic cls names, vx_ot w = true)
    (hU : vx_Zq Bundle.tN "UNASSIGNED_STACK" Bundle.steD A s s.heap) (hN : vx_Zq Bundle.tN "SUPPRESSED_SENTINEL" Bundle.listD A s s.heap) (hS : va_S A s.heap H locs) (hsize : ls.size = c.maxLocals)
    (d0 : decode cc pc = .ok (.new ik, 3)) (d3 : decode cc (pc + 3) = .ok (.dup, 1)) (d4 : decode cc (pc + 4) = .ok (.invokespecial ic, 3)) (d7 : decode cc (pc + 7) = .ok (.athrow, 1))
    (hout : ∀ x ∈ c.exceptionTable.toList, covers x (pc + 7) = false)
    (hRframes : names.length + 3 < R.frames) (hRlocals : (rest.map fun v => v.category).sum + (13 * (names.length + 1) + 42) ≤ R.locals) (hRcells : cells + 1 ≤ R.cells) (hRslots : slots + 6 ≤ R.slots) (hlocks : meth.locks = false)
    (hx : ∀ t : State, s.vm.Alike t.vm → H.size ≤ t.heap.size → (∀ q : Nat, q < H.size → t.heap[q]? = H[q]?) → XC cls s t)
    (hf : ∀ z ∈ locs, free z.base) (hc : cells + 1 ≤ mc) (hs : slots + 6 ≤ ms) :
    W p l e R s m args below meth c H locs cells slots (vx_MQ below Qc XC args s mc ms free) (F0 m pc ls rest) := by
  intro T hT X
  have htr : e.platform.stackTraces = false := (show e.platform.stackTraces = l.stackTraces by rw [X.admits.platform]).trans hl
  have Y := vx_rebase X (R' := { frames := R.frames, locals := R.locals, cells := 1, slots := 6 }) (Nat.le_refl _) (Nat.le_refl _) hRcells hRslots
  obtain ⟨s', hA⟩ : ∃ z, z = (T.setVm s.vm).setFrames (.invoking m args :: below) := ⟨_, rfl⟩
  rw [← hA] at Y
  have hvm : s'.vm = s.vm := by rw [hA]; rfl
  have hhp : s'.heap = H := by rw [hA]; exact hT
  have hW0 : s.WarmedH s'.vm := by rw [hvm]; exact State.WarmedH.refl s
  have hat' : ∀ w ∈ vx_at0 own ic cls names, w.before args s' = true := fun w hw => vx_ot_at hW0 hvm.symm (hgood w (List.mem_cons_of_mem _ (List.mem_cons_of_mem _ hw))) (hat w hw)
  have hk' : (Cond.classLink own ik cls).before args s' = true := vx_ot_at hW0 hvm.symm (hgood _ List.mem_cons_self) hk
  have hini' : (Cond.initialized cls).before args s' = true := vx_ot_at hW0 hvm.symm (hgood _ (List.mem_cons_of_mem _ List.mem_cons_self)) hini
  have hU' : vx_Zq Bundle.tN "UNASSIGNED_STACK" Bundle.steD A s' s'.heap := by rw [hhp]; exact vx_Zq.moved hW0.alike (hU.kept hS.2.1)
  have hN' : vx_Zq Bundle.tN "SUPPRESSED_SENTINEL" Bundle.listD A s' s'.heap := by rw [hhp]; exact vx_Zq.moved hW0.alike (hN.kept hS.2.1)
  have h : ∀ w ∈ Bundle.ownAtoms0 own ic cls names, w.before args s' = true := vx_own hat' (vx_isRefq hU'.1) (vx_isRefq hN'.1) hU'.2.word hN'.2.word
  have hown' : s'.vm.findClass own = some m.cls := by rw [hvm]; exact hown
  have hins : (Cond.instantiable cls 6).before args s' = true := h _ (by simp [Bundle.ownAtoms0])
  obtain ⟨vm₁, cX, kX, hfX, hkX, -, -, X₁, st1⟩ := Y.newCold hexec (own := own) (C := cls) (index := ik) (n := 6) hown' hk' hins hini'
    (g := F0 m pc ls rest) rfl (by rw [hb]; exact d0) (Nat.le_refl _) (Nat.le_refl _)
  generalize hT1 : (T.setVm vm₁).pushCell { cls := cX, slots := kX.instanceTypes.map defaultValue, vm := .none } = T1 at X₁ st1
  have hcat : (Value.ref T.heap.size).category = 1 := rfl
  have hcellA : T1.heap[T.heap.size]? = some (freshCell cX kX) := by rw [← hT1]; exact State.heap_pushCell_size _ _
  have d3' : decode c.code (pc + 3) = .ok (.dup, 1) := by rw [hb]; exact d3
  obtain ⟨U, hsteps, hrun, hend, hW, hsame, ce, hce, hO⟩ := X₁.ctorThrow0 hexec htr (own := own) (cls := cls) (names := names) (ic := ic) hown' hcls hnames h (fun x hx => nomatch hx) hfX hkX hcellA (by rw [hhp, hT]; exact Nat.le_refl _)
    (g := { method := m, pc := pc + 4, locals := ls, stack := .ref T.heap.size :: .ref T.heap.size :: rest, locked := none }) rfl hsize rfl rfl (rest := rest) rfl
    (by rw [hb]; exact d4) (by rw [hb]; exact d7) hout hRframes (by simp only [List.map_cons, List.sum_cons, hcat]; omega) hlocks
  obtain ⟨f1, f2⟩ := vx_frame hsame
  rw [hhp] at f1 f2
  have hWs : s.WarmedH U.vm := State.WarmedH.trans hW0 hW
  have hcl : s.vm.findClass cls = some ce.cls := by
    have h9 := hO.cls
    rw [hvm] at h9
    exact h9
  have hall : s.sameButNew ({ U with vm := s.vm } : State) locs mc ms := by
    subst hA
    obtain ⟨e1, e2⟩ := hsame
    rw [State.setFrames_setFrames] at e1
    have h2 : (T.setVm s.vm).sameButNew ({ U with vm := s.vm } : State) [] (0 + 1) (0 + 6) := ⟨e1, e2⟩
    have h3 := X.same.trans h2
    rw [List.append_nil] at h3
    exact h3.mono hc hs
  refine ⟨U, ?_, .threw T.heap.size, hrun, hend, Or.inr ⟨T.heap.size, rfl, cls, ce, locs, hx U hWs.alike f1 (fun q hq => f2 q hq (fun z hz => nomatch hz)), hce, hO.vm, hcl, hWs, hall, hf⟩⟩
  refine st1 _ ?_
  show Steps p.tables e below (T1.setTop { method := m, pc := pc + 3, locals := ls, stack := .ref T.heap.size :: rest, locked := none }) _
  jvm_step X₁.here [X₁.here.top, hexec, d3', Value.category]
  exact hsteps
/-- 'throw new E("text")': new; dup; ldc; invokespecial; athrow -/
theorem vx_throwS {cc : ByteArray} {pc : Nat} (hexec : p.tables.exec = Jvm.exec) (hb : c.code = cc) (hl : l.stackTraces = false) {own cls text : String} {names : List String} {ik is ic mc ms sa : Nat} {A : Nat → Prop}
    (hown : s.vm.findClass own = some m.cls) (hcls : Bundle.fit cls = true) (hnames : ∀ n ∈ names, Bundle.fit n = true)
    (hk : (Cond.classLink own ik cls).before args s = true) (hini : (Cond.initialized cls).before args s = true) (hstr : vk_R own is text sa s) (hat : ∀ w ∈ vx_atS own ic cls names, w.before args s = true)
    (hgood : ∀ w ∈ Cond.classLink own ik cls :: Cond.initialized cls :: vx_atS own ic cls names, vx_ot w = true)
    (hU : vx_Zq Bundle.tN "UNASSIGNED_STACK" Bundle.steD A s s.heap) (hN : vx_Zq Bundle.tN "SUPPRESSED_SENTINEL" Bundle.listD A s s.heap) (hS : va_S A s.heap H locs) (hsize : ls.size = c.maxLocals)
    (d0 : decode cc pc = .ok (.new ik, 3)) (d3 : decode cc (pc + 3) = .ok (.dup, 1)) (d4 : decode cc (pc + 4) = .ok (.ldc is, 2)) (d6 : decode cc (pc + 6) = .ok (.invokespecial ic, 3)) (d9 : decode cc (pc + 9) = .ok (.athrow, 1))
    (hout : ∀ x ∈ c.exceptionTable.toList, covers x (pc + 9) = false)
    (hRframes : names.length + 3 < R.frames) (hRlocals : (rest.map fun v => v.category).sum + (13 * (names.length + 1) + 43) ≤ R.locals) (hRcells : cells + 1 ≤ R.cells) (hRslots : slots + 6 ≤ R.slots) (hlocks : meth.locks = false)
    (hx : ∀ t : State, s.vm.Alike t.vm → H.size ≤ t.heap.size → (∀ q : Nat, q < H.size → t.heap[q]? = H[q]?) → XC cls s t)
    (hf : ∀ z ∈ locs, free z.base) (hc : cells + 1 ≤ mc) (hs : slots + 6 ≤ ms) :
    W p l e R s m args below meth c H locs cells slots (vx_MQ below Qc XC args s mc ms free) (F0 m pc ls rest) := by
  intro T hT X
  have htr : e.platform.stackTraces = false := (show e.platform.stackTraces = l.stackTraces by rw [X.admits.platform]).trans hl
  have Y := vx_rebase X (R' := { frames := R.frames, locals := R.locals, cells := 1, slots := 6 }) (Nat.le_refl _) (Nat.le_refl _) hRcells hRslots
  obtain ⟨s', hA⟩ : ∃ z, z = (T.setVm s.vm).setFrames (.invoking m args :: below) := ⟨_, rfl⟩
  rw [← hA] at Y
  have hvm : s'.vm = s.vm := by rw [hA]; rfl
  have hhp : s'.heap = H := by rw [hA]; exact hT
  have hW0 : s.WarmedH s'.vm := by rw [hvm]; exact State.WarmedH.refl s
  have hat' : ∀ w ∈ vx_atS own ic cls names, w.before args s' = true := fun w hw => vx_ot_at hW0 hvm.symm (hgood w (List.mem_cons_of_mem _ (List.mem_cons_of_mem _ hw))) (hat w hw)
  have hk' : (Cond.classLink own ik cls).before args s' = true := vx_ot_at hW0 hvm.symm (hgood _ List.mem_cons_self) hk
  have hini' : (Cond.initialized cls).before args s' = true := vx_ot_at hW0 hvm.symm (hgood _ (List.mem_cons_of_mem _ List.mem_cons_self)) hini
  have hU' : vx_Zq Bundle.tN "UNASSIGNED_STACK" Bundle.steD A s' s'.heap := by rw [hhp]; exact vx_Zq.moved hW0.alike (hU.kept hS.2.1)
  have hN' : vx_Zq Bundle.tN "SUPPRESSED_SENTINEL" Bundle.listD A s' s'.heap := by rw [hhp]; exact vx_Zq.moved hW0.alike (hN.kept hS.2.1)
  have h : ∀ w ∈ Bundle.ownAtoms own ic cls names, w.before args s' = true := vx_own hat' (vx_isRefq hU'.1) (vx_isRefq hN'.1) hU'.2.word hN'.2.word
  have hown' : s'.vm.findClass own = some m.cls := by rw [hvm]; exact hown
  have hins : (Cond.instantiable cls 6).before args s' = true := h _ (by simp [Bundle.ownAtoms])
  obtain ⟨vm₁, cX, kX, hfX, hkX, -, -, X₁, st1⟩ := Y.newCold hexec (own := own) (C := cls) (index := ik) (n := 6) hown' hk' hins hini'
    (g := F0 m pc ls rest) rfl (by rw [hb]; exact d0) (Nat.le_refl _) (Nat.le_refl _)
  generalize hT1 : (T.setVm vm₁).pushCell { cls := cX, slots := kX.instanceTypes.map defaultValue, vm := .none } = T1 at X₁ st1
  have hcat : (Value.ref T.heap.size).category = 1 := rfl
  have hcellA : T1.heap[T.heap.size]? = some (freshCell cX kX) := by rw [← hT1]; exact State.heap_pushCell_size _ _
  have d3' : decode c.code (pc + 3) = .ok (.dup, 1) := by rw [hb]; exact d3
  have d4' : decode c.code (pc + 4) = .ok (.ldc is, 2) := by rw [hb]; exact d4
  have hstr' : vk_R own is text sa s' := vk_R.warm hW0 hstr
  obtain ⟨U, hsteps, hrun, hend, hW, hsame, ce, hce, hO⟩ := X₁.ctorThrowS hexec htr (own := own) (cls := cls) (names := names) (ic := ic) hown' hcls hnames h (fun x hx => nomatch hx) hfX hkX hcellA (by rw [hhp, hT]; exact Nat.le_refl _) (msg := .ref sa) rfl
    (g := { method := m, pc := pc + 6, locals := ls, stack := .ref sa :: .ref T.heap.size :: .ref T.heap.size :: rest, locked := none }) rfl hsize rfl rfl (rest := rest) rfl
    (by rw [hb]; exact d6) (by rw [hb]; exact d9) hout hRframes (by simp only [List.map_cons, List.sum_cons, hcat]; omega) hlocks
  obtain ⟨f1, f2⟩ := vx_frame hsame
  rw [hhp] at f1 f2
  have hWs : s.WarmedH U.vm := State.WarmedH.trans hW0 hW
  have hcl : s.vm.findClass cls = some ce.cls := by
    have h9 := hO.cls
    rw [hvm] at h9
    exact h9
  have hall : s.sameButNew ({ U with vm := s.vm } : State) locs mc ms := by
    subst hA
    obtain ⟨e1, e2⟩ := hsame
    rw [State.setFrames_setFrames] at e1
    have h2 : (T.setVm s.vm).sameButNew ({ U with vm := s.vm } : State) [] (0 + 1) (0 + 6) := ⟨e1, e2⟩
    have h3 := X.same.trans h2
    rw [List.append_nil] at h3
    exact h3.mono hc hs
  refine ⟨U, ?_, .threw T.heap.size, hrun, hend, Or.inr ⟨T.heap.size, rfl, cls, ce, locs, hx U hWs.alike f1 (fun q hq => f2 q hq (fun z hz => nomatch hz)), hce, hO.vm, hcl, hWs, hall, hf⟩⟩
  refine st1 _ ?_
  show Steps p.tables e below (T1.setTop { method := m, pc := pc + 3, locals := ls, stack := .ref T.heap.size :: rest, locked := none }) _
  jvm_step X₁.here [X₁.here.top, hexec, d3', Value.category]
  exact X₁.ldcString hexec (own := own) (text := text) (index := is) (a := sa) hown' hstr'.1 hstr'.2
    (g := { method := m, pc := pc + 4, locals := ls, stack := .ref T.heap.size :: .ref T.heap.size :: rest, locked := none }) rfl d4' _ hsteps
/-- 'throw new E("text")', the text by a wide index -/
theorem vx_throwSW {cc : ByteArray} {pc : Nat} (hexec : p.tables.exec = Jvm.exec) (hb : c.code = cc) (hl : l.stackTraces = false) {own cls text : String} {names : List String} {ik is ic mc ms sa : Nat} {A : Nat → Prop}
    (hown : s.vm.findClass own = some m.cls) (hcls : Bundle.fit cls = true) (hnames : ∀ n ∈ names, Bundle.fit n = true)
    (hk : (Cond.classLink own ik cls).before args s = true) (hini : (Cond.initialized cls).before args s = true) (hstr : vk_R own is text sa s) (hat : ∀ w ∈ vx_atS own ic cls names, w.before args s = true)
    (hgood : ∀ w ∈ Cond.classLink own ik cls :: Cond.initialized cls :: vx_atS own ic cls names, vx_ot w = true)
    (hU : vx_Zq Bundle.tN "UNASSIGNED_STACK" Bundle.steD A s s.heap) (hN : vx_Zq Bundle.tN "SUPPRESSED_SENTINEL" Bundle.listD A s s.heap) (hS : va_S A s.heap H locs) (hsize : ls.size = c.maxLocals)
    (d0 : decode cc pc = .ok (.new ik, 3)) (d3 : decode cc (pc + 3) = .ok (.dup, 1)) (d4 : decode cc (pc + 4) = .ok (.ldc_w is, 3)) (d7 : decode cc (pc + 7) = .ok (.invokespecial ic, 3)) (d10 : decode cc (pc + 10) = .ok (.athrow, 1))
    (hout : ∀ x ∈ c.exceptionTable.toList, covers x (pc + 10) = false)
    (hRframes : names.length + 3 < R.frames) (hRlocals : (rest.map fun v => v.category).sum + (13 * (names.length + 1) + 43) ≤ R.locals) (hRcells : cells + 1 ≤ R.cells) (hRslots : slots + 6 ≤ R.slots) (hlocks : meth.locks = false)
    (hx : ∀ t : State, s.vm.Alike t.vm → H.size ≤ t.heap.size → (∀ q : Nat, q < H.size → t.heap[q]? = H[q]?) → XC cls s t)
    (hf : ∀ z ∈ locs, free z.base) (hc : cells + 1 ≤ mc) (hs : slots + 6 ≤ ms) :
    W p l e R s m args below meth c H locs cells slots (vx_MQ below Qc XC args s mc ms free) (F0 m pc ls rest) := by
  intro T hT X
  have htr : e.platform.stackTraces = false := (show e.platform.stackTraces = l.stackTraces by rw [X.admits.platform]).trans hl
  have Y := vx_rebase X (R' := { frames := R.frames, locals := R.locals, cells := 1, slots := 6 }) (Nat.le_refl _) (Nat.le_refl _) hRcells hRslots
  obtain ⟨s', hA⟩ : ∃ z, z = (T.setVm s.vm).setFrames (.invoking m args :: below) := ⟨_, rfl⟩
  rw [← hA] at Y
  have hvm : s'.vm = s.vm := by rw [hA]; rfl
  have hhp : s'.heap = H := by rw [hA]; exact hT
  have hW0 : s.WarmedH s'.vm := by rw [hvm]; exact State.WarmedH.refl s
  have hat' : ∀ w ∈ vx_atS own ic cls names, w.before args s' = true := fun w hw => vx_ot_at hW0 hvm.symm (hgood w (List.mem_cons_of_mem _ (List.mem_cons_of_mem _ hw))) (hat w hw)
  have hk' : (Cond.classLink own ik cls).before args s' = true := vx_ot_at hW0 hvm.symm (hgood _ List.mem_cons_self) hk
  have hini' : (Cond.initialized cls).before args s' = true := vx_ot_at hW0 hvm.symm (hgood _ (List.mem_cons_of_mem _ List.mem_cons_self)) hini
  have hU' : vx_Zq Bundle.tN "UNASSIGNED_STACK" Bundle.steD A s' s'.heap := by rw [hhp]; exact vx_Zq.moved hW0.alike (hU.kept hS.2.1)
  have hN' : vx_Zq Bundle.tN "SUPPRESSED_SENTINEL" Bundle.listD A s' s'.heap := by rw [hhp]; exact vx_Zq.moved hW0.alike (hN.kept hS.2.1)
  have h : ∀ w ∈ Bundle.ownAtoms own ic cls names, w.before args s' = true := vx_own hat' (vx_isRefq hU'.1) (vx_isRefq hN'.1) hU'.2.word hN'.2.word
  have hown' : s'.vm.findClass own = some m.cls := by rw [hvm]; exact hown
  have hins : (Cond.instantiable cls 6).before args s' = true := h _ (by simp [Bundle.ownAtoms])
  obtain ⟨vm₁, cX, kX, hfX, hkX, -, -, X₁, st1⟩ := Y.newCold hexec (own := own) (C := cls) (index := ik) (n := 6) hown' hk' hins hini'
    (g := F0 m pc ls rest) rfl (by rw [hb]; exact d0) (Nat.le_refl _) (Nat.le_refl _)
  generalize hT1 : (T.setVm vm₁).pushCell { cls := cX, slots := kX.instanceTypes.map defaultValue, vm := .none } = T1 at X₁ st1
  have hcat : (Value.ref T.heap.size).category = 1 := rfl
  have hcellA : T1.heap[T.heap.size]? = some (freshCell cX kX) := by rw [← hT1]; exact State.heap_pushCell_size _ _
  have d3' : decode c.code (pc + 3) = .ok (.dup, 1) := by rw [hb]; exact d3
  have d4' : decode c.code (pc + 4) = .ok (.ldc_w is, 3) := by rw [hb]; exact d4
  have hstr' : vk_R own is text sa s' := vk_R.warm hW0 hstr
  obtain ⟨U, hsteps, hrun, hend, hW, hsame, ce, hce, hO⟩ := X₁.ctorThrowS hexec htr (own := own) (cls := cls) (names := names) (ic := ic) hown' hcls hnames h (fun x hx => nomatch hx) hfX hkX hcellA (by rw [hhp, hT]; exact Nat.le_refl _) (msg := .ref sa) rfl
    (g := { method := m, pc := pc + 7, locals := ls, stack := .ref sa :: .ref T.heap.size :: .ref T.heap.size :: rest, locked := none }) rfl hsize rfl rfl (rest := rest) rfl
    (by rw [hb]; exact d7) (by rw [hb]; exact d10) hout hRframes (by simp only [List.map_cons, List.sum_cons, hcat]; omega) hlocks
  obtain ⟨f1, f2⟩ := vx_frame hsame
  rw [hhp] at f1 f2
  have hWs : s.WarmedH U.vm := State.WarmedH.trans hW0 hW
  have hcl : s.vm.findClass cls = some ce.cls := by
    have h9 := hO.cls
    rw [hvm] at h9
    exact h9
  have hall : s.sameButNew ({ U with vm := s.vm } : State) locs mc ms := by
    subst hA
    obtain ⟨e1, e2⟩ := hsame
    rw [State.setFrames_setFrames] at e1
    have h2 : (T.setVm s.vm).sameButNew ({ U with vm := s.vm } : State) [] (0 + 1) (0 + 6) := ⟨e1, e2⟩
    have h3 := X.same.trans h2
    rw [List.append_nil] at h3
    exact h3.mono hc hs
  refine ⟨U, ?_, .threw T.heap.size, hrun, hend, Or.inr ⟨T.heap.size, rfl, cls, ce, locs, hx U hWs.alike f1 (fun q hq => f2 q hq (fun z hz => nomatch hz)), hce, hO.vm, hcl, hWs, hall, hf⟩⟩
  refine st1 _ ?_
  show Steps p.tables e below (T1.setTop { method := m, pc := pc + 3, locals := ls, stack := .ref T.heap.size :: rest, locked := none }) _
  jvm_step X₁.here [X₁.here.top, hexec, d3', Value.category]
  exact X₁.ldcStringW hexec (own := own) (text := text) (index := is) (a := sa) hown' hstr'.1 hstr'.2
    (g := { method := m, pc := pc + 4, locals := ls, stack := .ref T.heap.size :: .ref T.heap.size :: rest, locked := none }) rfl d4' _ hsteps
end Ends
section Bodies
variable {l : Launch}
theorem vx_ofW {y : MethodName} {ws ws' : List Cond} {rm : Room} {Pc : Array Value → State → Prop} {Qc : Array Value → State → Outcome → State → Prop} {XC : String → State → State → Prop} {mc ms : Nat} {free : Addr → Prop} {cc : ByteArray} {maxL : Nat} {ret : Option FieldType}
    (hy : plainName y.cls = true) (hw : ws = Cond.code y cc maxL ret :: ws')
    (body : ∀ p e s m args below meth c s₁, BodyLoose p l y (headSpec ws rm) cc maxL ret e s m args below meth c s₁ → c.maxLocals = maxL → (∀ x ∈ c.exceptionTable.toList, False) → Pc args s →
      W p l e (headSpec ws rm).room s m args below meth c s.heap [] 0 0 (vx_MQ below Qc XC args s mc ms free) (entryFrame m args maxL)) : vx_Met l y ws rm Pc Qc XC mc ms free := by
  refine MetFree.of_bodyS (code := cc) (maxLocals := maxL) (ret := ret) hy ?_ ?_
  · intro args s m h hn
    obtain ⟨meth, c, h1, h2, h3, h4, h5, h6, -, -⟩ := Cond.code_spec hn (atoms_spec (ws := ws) h _ (by rw [hw]; exact List.mem_cons_self))
    exact ⟨meth, c, h1, h2, h3, h4, h5, h6⟩
  · intro p e s m args below meth c s₁ B hml hP _
    have hh0 : s₁.heap = s.heap := by rw [B.state]; rfl
    have ht : ∀ x ∈ c.exceptionTable.toList, False := by
      obtain ⟨meth9, c9, h1, h2, -, -, -, -, h7, -⟩ := Cond.code_spec B.named (atoms_spec (ws := ws) B.pre _ (by rw [hw]; exact List.mem_cons_self))
      cases Option.some.inj (h1.symm.trans B.method)
      cases Option.some.inj (h2.symm.trans (Stand.of_body B).code)
      intro x hx
      rw [Array.isEmpty_iff.mp h7] at hx
      cases hx
    obtain ⟨t, a1, o, b1, b2, b3⟩ := body p e s m args below meth c s₁ B hml ht hP s₁ hh0 (Stand.of_body B)
    exact ⟨t, o, a1, b1, b2, b3⟩
/-- the table of a body with handlers -/
theorem vx_table {p : Program} {x y : MethodName} {S : Spec} {cc bytes : ByteArray} {maxL maxL' : Nat} {ret ret' : Option FieldType} {e : Env} {s s₁ : State} {m : MethodId} {args : Array Value} {below : List Frame} {meth : Method} {c : Code} {hh : List (Nat × Nat × Nat × Nat)}
    (B : BodyLoose p l y S cc maxL ret e s m args below meth c s₁) (h : (Cond.codeWith y bytes maxL' ret' hh).before args s = true) : c.exceptionTable.toList = tableOf hh := by
  obtain ⟨m9, meth9, c9, hn9, h1, h2, -, -, h6, -⟩ := Cond.codeWith_spec h
  cases Option.some.inj (hn9.symm.trans B.named)
  cases Option.some.inj (h1.symm.trans B.method)
  cases Option.some.inj (h2.symm.trans (Stand.of_body B).code)
  rw [← h6, table_eq]
end Bodies
end VXA
/-! ===== END ===== -/
/-! ===== BEGIN a static call of a method with an exception table ===== -/
section VXS
variable {p : Program} {l : Launch} {e : Env} {R : Room} {s : State} {m : MethodId} {args : Array Value} {below : List Frame} {meth : Method} {c : Code} {T : State} {H : Heap} {locs : List Loc} {cells slots : Nat}
abbrev vx_CSW (R : Room) (s : State) (args : Array Value) (own : String) (index : Nat) (y : MethodName) (bytes : ByteArray) (maxL : Nat) (ret : Option FieldType) (hh : List (Nat × Nat × Nat × Nat)) (ws : List Cond) (rm : Room) (mc ms n : Nat) : Prop :=
  (rm.cells = mc ∧ rm.slots = ms ∧ rm.frames + 1 ≤ R.frames ∧ 8 + (maxL + 11) + rm.locals ≤ R.locals ∧ (∀ w ∈ ws, ∀ (a' : Array Value) (U : State), s.WarmedH U.vm → w.before a' U = true) ∧ Cond.codeWith y bytes maxL ret hh ∈ ws) ∧
  (Cond.codeWith y bytes maxL ret hh).before args s = true ∧ (Cond.initialized y.cls).before args s = true ∧ (y.cls ≠ "java/lang/invoke/MethodHandle" ∧ y.cls ≠ "java/lang/invoke/VarHandle") ∧
  (∀ sig, parseMethodDescriptor y.desc = some sig → n = sig.parameters.length) ∧ (Cond.methodLink own index y).before args s = true ∧ (Cond.static y).before args s = true
theorem vx_cwSW {own : String} {index maxL mc ms : Nat} {y : MethodName} {bytes : ByteArray} {ret : Option FieldType} {hh : List (Nat × Nat × Nat × Nat)} {Ts ws ws' : List Cond} {rm : Room} (n : Nat) (ht : ∀ w ∈ Ts, w.before args s = true) (hT : GoodIn Ts (va_wsS own index y ws)) (hw : ws = Cond.codeWith y bytes maxL ret hh :: ws') (hrc : rm.cells = mc) (hrs : rm.slots = ms)
    (hd : y.cls ≠ "java/lang/invoke/MethodHandle" ∧ y.cls ≠ "java/lang/invoke/VarHandle" ∧ (parseMethodDescriptor y.desc).map (fun d => d.parameters.length) = some n) (hR : rm.frames + 1 ≤ R.frames ∧ 8 + (maxL + 11) + rm.locals ≤ R.locals) :
    vx_CSW R s args own index y bytes maxL ret hh ws rm mc ms n := by
  have ok : ∀ w ∈ va_wsS own index y ws, w.before args s = true := fun w h => ht w (hT w h).1
  have hG : GoodIn Ts ws := fun w h => hT w (by unfold va_wsS; exact List.mem_append_right _ h)
  have hc : Cond.codeWith y bytes maxL ret hh ∈ ws := by rw [hw]; exact List.mem_cons_self
  refine ⟨⟨hrc, hrs, hR.1, hR.2, pay_in ht hG, hc⟩, ht _ (hG _ hc).1, ok _ (by simp [va_wsS]), ⟨hd.1, hd.2.1⟩, fun sig h => ?_, ok _ (by simp [va_wsS]), ok _ (by simp [va_wsS])⟩
  have h2 := hd.2.2
  rw [h] at h2
  exact (Option.some.inj h2).symm
theorem vx_callSW (X : Stand p l e R s m args below meth c T locs cells slots) (hexec : p.tables.exec = Jvm.exec) {own : String} {index : Nat} {y : MethodName} {bytes : ByteArray} {maxL : Nat} {ret : Option FieldType} {hh : List (Nat × Nat × Nat × Nat)}
    (hown : s.vm.findClass own = some m.cls) (hlink : (Cond.methodLink own index y).before args s = true) (hstat : (Cond.static y).before args s = true) (hinit : (Cond.initialized y.cls).before args s = true)
    (hcode : (Cond.codeWith y bytes maxL ret hh).before args s = true) (hy : y.cls ≠ "java/lang/invoke/MethodHandle" ∧ y.cls ≠ "java/lang/invoke/VarHandle")
    {W9 : Nat} {Pre : Pt → Array Value → Prop} {Post : Pt → Array Value → Option Value → Pt → Prop} (hK : Back l R p e below s args y 3 W9 Pre Post)
    {g : JFrame} (hg : g.method = m) (hsize : g.locals.size = c.maxLocals) {argsL rest : List Value} (hlen : ∀ sig, parseMethodDescriptor y.desc = some sig → argsL.length = sig.parameters.length)
    (hstack : g.stack = argsL.reverse ++ rest) (hW : 2 * g.monitorRoom + (rest.map fun v => v.category).sum ≤ W9) (hdg : decode c.code g.pc = .ok (.invokestatic index, 3))
    (hpre : ∀ vm₁, s.WarmedH vm₁ → Pre ⟨T.setVm vm₁, locs, cells, slots⟩ argsL.toArray) :
    ∃ (v : Option Value) (vm₁ : Vm) (B : Pt), s.WarmedH vm₁ ∧ Stand p l e R s m args below meth c B.U B.locs B.cells B.slots ∧ Post ⟨T.setVm vm₁, locs, cells, slots⟩ argsL.toArray v B ∧
      ∀ target, Steps p.tables e below (B.U.setTop { g with pc := g.pc + 3, stack := v.toList ++ rest }) target → Steps p.tables e below (T.setTop g) target := by
  obtain ⟨mk, methM, cM, hnamed, hmethM, -, -, -, -, -, -, hsigM⟩ := Cond.codeWith_spec hcode
  have hstatic : methM.isStatic = true := Cond.static_spec hnamed hmethM hstat
  obtain ⟨kP, hkP, -⟩ := className_of_methodNamed hnamed
  have hinitP : kP.init = .initialized := Cond.initialized_spec (findClass_of_methodNamed hnamed) hkP hinit
  obtain ⟨vm₁, X₁, hstep₁⟩ := X.invokestatic hexec hown hlink hnamed hmethM hstatic hkP hinitP hy (g := g) hg (argsL := argsL) (rest := rest) (hlen _ hsigM) hstack hdg
  obtain ⟨v, B, X', hpost, hsteps⟩ := hK m meth c ⟨T.setVm vm₁, locs, cells, slots⟩ { g with stack := rest } (.invokestatic index) mk argsL.toArray X₁ hg hsize hdg hW (X₁.named hnamed) (hpre vm₁ X₁.warmed)
  exact ⟨v, vm₁, B, X₁.warmed, X', hpost, fun target h => hstep₁ _ fun acts => by rw [doInvoke_state]; exact hsteps.trans h⟩
theorem vx_runSW {y : MethodName} {bytes cc : ByteArray} {maxL nL mc ms n index : Nat} {ret : Option FieldType} {hh : List (Nat × Nat × Nat × Nat)} {ws : List Cond} {rm : Room} {Pc : Array Value → State → Prop} {Qc : Array Value → State → Outcome → State → Prop} {free : Addr → Prop} {Ts : List Cond} {own : String} {As rest : List Value} {g : JFrame}
    (S : CallFix p m c cc nL s args Ts own) (hM : Met l y ws rm Pc Qc mc ms free) (cw : vx_CSW R s args own index y bytes maxL ret hh ws rm mc ms n) (hp : PreS s H Pc As)
    (hg : g.method = m) (hn : As.length = n) (hsize : g.locals.size = nL) (hstack : g.stack = As.reverse ++ rest) (hW : 2 * g.monitorRoom + (rest.map fun v => v.category).sum ≤ 8) (hdg : decode cc g.pc = .ok (.invokestatic index, 3)) (hf : cells + mc ≤ R.cells ∧ slots + ms ≤ R.slots) :
    va_Run p l e R s m args below meth c H locs cells slots mc ms g rest (Qc As.toArray) (free) := by
  obtain ⟨⟨hrc, hrs, hfr, hlo, hws, hcw⟩, hcode, hini, hy, hlen, hl, hstt⟩ := cw
  have hK : Back l R p e below s args y 3 8 (PreOf R mc ms Pc) (PostOf Qc mc ms free) := va_backW (hh := hh) (bytes := bytes) (maxL := maxL) (ret := ret) hM hp.1 hrc hrs hfr hlo hws hcw (fun a' U hW => word_at hW (Or.inl (by first | rfl | simp [Cond.onTables, Cond.keeps, Cond.steady])) hini)
  obtain ⟨hx, hb, hml, ho, -⟩ := S
  intro T hT X
  obtain ⟨v, vm₁, ⟨U', l2, c2, s2⟩, hW₁, X', ⟨g', mk, t, L, e1, e2, hq, h1, hL, h2, h3⟩, st⟩ := vx_callSW X hx (hh := hh) (bytes := bytes) (maxL := maxL) (ret := ret) ho hl hstt hini hcode hy hK hg (hsize.trans hml.symm) (argsL := As) (rest := rest) (fun sig h => hn.trans (hlen sig h)) hstack hW (by rw [hb]; exact hdg)
    (fun vm₁ hW₁ => ⟨hf.1, hf.2, hp.2 (T.setVm vm₁) hT hW₁⟩)
  dsimp only [Pt.U, Pt.locs, Pt.cells, Pt.slots] at X' e1 e2 h1 h2 h3 st
  subst h1; subst h2; subst h3
  exact ⟨v, (T.setVm vm₁).calling g' mk As.toArray, t, U', L, hT, X', hL, e1, e2, hq, st⟩
/-- not caught here, past rows that name other classes: it goes on to the caller -/
theorem vx_outP {p : Program} {l : Launch} {e : Env} {R : Room} {s : State} {m : MethodId} {args : Array Value} {below : List Frame} {meth : Method} {c : Code} {H : Heap} {locs : List Loc} {cells slots : Nat} {free : Addr → Prop} {ls : Array Slot} {rest : List Value} {Qc : Array Value → State → Outcome → State → Prop} {XC : String → State → State → Prop}
    {pc : Nat} {own E : String} {ce : Cell} {q : Addr} {mc ms : Nat} (hown : s.vm.findClass own = some m.cls) (hlocks : meth.locks = false)
    (hpass : ∀ z ∈ c.exceptionTable.toList, covers z pc = false ∨ (z.catchType ≠ 0 ∧ ∃ nm : String, (Cond.classLink own z.catchType nm).before args s = true ∧ va_Nc E nm s)) (hcell : H[q]? = some ce) (hv : ce.vm = .none) (hcl : s.vm.findClass E = some ce.cls)
    (hx : ∀ t : State, t.heap = H → s.vm.Alike t.vm → XC E s t) (hf : ∀ z ∈ locs, free z.base) (hc : cells ≤ mc) (hs : slots ≤ ms) :
    vx_W p l e R s m args below meth c H locs cells slots (vx_MQ below Qc XC args s mc ms free) (F0 m pc ls rest) q := by
  intro T hT X
  have hpl : e.platform.magicAccessors = ({} : Platform).magicAccessors := by rw [X.admits.platform]
  obtain ⟨vm', hW', X', st⟩ := X.outThrough hlocks q (g := F0 m pc ls rest) rfl rfl rfl (cell := ce) (by rw [hT]; exact hcell) (by rw [hv]; rfl)
    (by obtain ⟨k9, h9, -⟩ := Vm.findClass_spec hcl; exact ⟨k9, h9⟩) (fun z hz => by
      rcases hpass z hz with h | ⟨hz0, nm, hl1, hn1⟩
      · exact Or.inl h
      · obtain ⟨c6, hc6, hcl6⟩ := Cond.classLink_spec hown hl1 e.platform hpl
        obtain ⟨a8, b8, h1, h2, h3⟩ := hn1
        cases Option.some.inj (h1.symm.trans hcl)
        cases Option.some.inj (h2.symm.trans hc6)
        exact Or.inr ⟨hz0, _, hcl6, h3⟩)
  obtain ⟨g₀, hfr⟩ := X'.frames_eq
  have hcell9 : ((T.setVm vm').setFrames (.throwing q :: below)).heap[q]? = some ce := by
    show T.heap[q]? = some ce
    rw [hT]; exact hcell
  have hend : Ended ((T.setVm vm').setFrames (.throwing q :: below)) below (.threw q) := State.frames_setFrames _ (State.cur_lt_of_frames hfr)
  refine ⟨(T.setVm vm').setFrames (.throwing q :: below), ?_, .threw q, X'.here.running, hend, Or.inr ⟨q, rfl, E, ce, locs, hx _ hT (X'.ends _).1.alike, hcell9, hv, hcl, (X'.ends _).1, (X'.ends _).2.mono hc hs, hf⟩⟩
  rw [X.pushThrowing_eq]
  exact st
/-- a thing of a world lies in the heap -/
theorem vx_lt {D : va_G} {cl : List vw_C} {ws : va_W} {H1 : Heap} (h : va_P D cl ws H1) {k : Nat} {q : Nat × va_E} (hk : ws[k]? = some q) : q.1 < H1.size := (h k q hk).lt
end VXS
/-! ===== END ===== -/
/-! ===== BEGIN methods with a table of their own: called by a name, returning or throwing ===== -/
section VXH
/-! vx_backW, vx_callVX, vx_callSX, vx_callVW, vx_runVW, vx_runVX, vx_runSX, vx_ofWH follow the same proofs as their sisters above (Free/Laws.lean, Shelf42/LK1.lean); vx_outP calls Shelf42/NT130.lean (outThrough). -/
section
variable {l : Launch} {R : Room} {p : Program} {e : Env} {below : List Frame} {s : State} {sargs : Array Value} {y : MethodName} {len W9 : Nat}
theorem vx_backW {ws : List Cond} {rm : Room} {Pc : Array Value → State → Prop} {Qc : Array Value → State → Outcome → State → Prop} {XC : String → State → State → Prop} {mc ms : Nat} {free : Addr → Prop} {bytes : ByteArray} {maxL : Nat} {ret : Option FieldType} {hh : List (Nat × Nat × Nat × Nat)}
    (hM : vx_Met l y ws rm Pc Qc XC mc ms free) (hblind : FrameBlind Pc) (hrc : rm.cells = mc) (hrs : rm.slots = ms)
    (hframes : rm.frames + 1 ≤ R.frames) (hlocals : W9 + (maxL + 11) + rm.locals ≤ R.locals)
    (hws : ∀ w ∈ ws, ∀ a' U, s.WarmedH U.vm → w.before a' U = true) (hcode : Cond.codeWith y bytes maxL ret hh ∈ ws) (hinit : ∀ a' U, s.WarmedH U.vm → (Cond.initialized y.cls).before a' U = true) :
    vx_Back l R p e below s sargs y len W9 (PreOf R mc ms Pc) (PostOf Qc mc ms free) (vx_Post XC mc ms free) := by
  intro m meth c A g ig mk a X hg hsize hdg hW hn hp
  have h1 : (headSpec ws rm).pre.before a A.U = true := atoms_intro fun w hw => hws w hw _ _ X.warmed
  have h2 : (Cond.codeWith y bytes maxL ret hh).before a A.U = true := hws _ hcode _ _ X.warmed
  have h3 : (Cond.initialized y.cls).before a A.U = true := hinit _ _ X.warmed
  have h4 : A.cells + (headSpec ws rm).room.cells ≤ R.cells := by rw [show (headSpec ws rm).room.cells = mc from hrc]; exact hp.1
  have h5 : A.slots + (headSpec ws rm).room.slots ≤ R.slots := by rw [show (headSpec ws rm).room.slots = ms from hrs]; exact hp.2.1
  have hPc : Pc a (A.U.calling g mk a) := hblind _ _ _ _ hp.2.2
  obtain ⟨U, Ls, c0, s0⟩ := A
  dsimp only [Pt.U, Pt.locs, Pt.cells, Pt.slots] at h1 h2 h3 h4 h5 X hn hPc ⊢
  obtain ⟨m9, methY, cY, hn9, hmY, hcY, -, hlY, -⟩ := Cond.codeWith_spec h2
  cases Option.some.inj (hn9.symm.trans hn)
  obtain ⟨kY, hkY, -⟩ := className_of_methodNamed hn
  have hinitY : kY.init = .initialized := Cond.initialized_spec (findClass_of_methodNamed hn) hkY h3
  have h : At U g.method c below := by rw [hg]; exact X.here
  have hlocals9 : W9 + (maxL + 11) + (headSpec ws rm).room.locals ≤ R.locals := hlocals
  have happ : (headSpec ws rm).appliesLoose y e.platform (U.calling g mk a) = true :=
    Spec.appliesLoose_calling (g := g) h hdg hn hkY hinitY
      (X.room_calling (g := g) (R' := (headSpec ws rm).room) hsize hmY hcY hframes (by rw [hlY]; omega) h4 h5) h1
  obtain ⟨mid, hmid⟩ := h.above
  have hfr : (U.setTop g).frames = (.java g :: mid) ++ below := by rw [State.frames_setTop' g h.top, hmid]; rfl
  obtain ⟨o, s₂, hsteps, -, hend, hq⟩ := Steps.callFree hM p X.admits X.cas X.clock (acts := []) hfr happ hPc trivial
  have hq' : vx_Q Qc XC mc ms free a (U.calling g mk a) o s₂ := hq
  rw [State.frames_setTop' g h.top] at hend
  obtain ⟨g₀, hg0⟩ := Option.isSome_iff_exists.mp h.top
  obtain ⟨r, hr⟩ := State.topJava?_eq_some.mp hg0
  have hr' : (({ U with heap := s₂.heap, slotsUsed := s₂.slotsUsed } : State).setVm s₂.vm).frames = .java g₀ :: r := hr
  rcases hq' with ⟨hqc, L, hfe, hL⟩ | ⟨q, rfl, E, ce, L, hx, hce, hcv, hcl, hW₂, hsm, hL⟩
  · obtain ⟨⟨v, rfl⟩, hW₂, e2, q2, q3, q4, q5, q6⟩ := id hfe
    have e3 : s₂ = ({ (U.calling g mk a).setFrames s₂.frames with heap := s₂.heap, slotsUsed := s₂.slotsUsed } : State).setVm s₂.vm := by
      have : s₂ = ({ s₂ with vm := (U.calling g mk a).vm } : State).setVm s₂.vm := rfl
      rw [e2] at this
      exact this
    obtain ⟨c₂, i₂, len₂, hc₂, hd₂, hf₂⟩ := hend
    have hW' : U.WarmedH s₂.vm := hW₂
    have hcc : c₂ = c := by
      have h1 : s₂.code? g.method = U.code? g.method := by
        rw [State.code?_eq, State.code?_eq, hW'.alike.method?]
      exact Option.some.inj (hc₂.symm.trans (h1.trans h.code))
    subst hcc
    have hlen : len₂ = len := by rw [hdg] at hd₂; cases hd₂; rfl
    subst hlen
    have hs₂ : s₂ = (({ U with heap := s₂.heap, slotsUsed := s₂.slotsUsed } : State).setVm s₂.vm).setTop { g with pc := g.pc + len₂, stack := v.toList ++ g.stack } := by
      refine e3.trans ?_
      rw [hf₂, State.calling_eq h.top, State.setFrames_setFrames, State.setTop_of_frames _ hr', hr]
      rfl
    have hsame : U.sameButNew ({ U with heap := s₂.heap, slotsUsed := s₂.slotsUsed } : State) L mc ms := by
      refine ⟨?_, q2, q3, q4, q5, q6⟩
      obtain ⟨t, ht, -⟩ := State.frames_cons hr
      show ({ U with heap := s₂.heap, slotsUsed := s₂.slotsUsed } : State) = { U.setFrames U.frames with heap := s₂.heap, slotsUsed := s₂.slotsUsed }
      rw [State.setFrames_self ht]
    subst hg
    refine Or.inl ⟨v, ⟨(({ U with heap := s₂.heap, slotsUsed := s₂.slotsUsed } : State).setVm s₂.vm), Ls ++ L, c0 + mc, s0 + ms⟩,
      ⟨X.admits, X.cas, X.clock, X.frames, X.room, X.hears, X.method, X.code, (X.here.setHeapUsed s₂.heap s₂.slotsUsed).setVm hW'.alike, X.tail, State.WarmedH.trans X.warmed hW', X.limits, X.bytes, X.same.trans (hsame.setVm s.vm)⟩,
      ⟨g, mk, s₂, L, rfl, rfl, hqc, rfl, hL, rfl, rfl⟩, ?_⟩
    show Steps p.tables e below _ ((({ U with heap := s₂.heap, slotsUsed := s₂.slotsUsed } : State).setVm s₂.vm).setTop { g with pc := g.pc + len₂, stack := v.toList ++ g.stack })
    rw [← hs₂]
    exact hsteps
  · obtain ⟨e2, q2, q3, q4, q5, q6⟩ := id hsm
    have e3 : s₂ = ({ (U.calling g mk a).setFrames s₂.frames with heap := s₂.heap, slotsUsed := s₂.slotsUsed } : State).setVm s₂.vm := by
      have : s₂ = ({ s₂ with vm := (U.calling g mk a).vm } : State).setVm s₂.vm := rfl
      rw [e2] at this
      exact this
    have hf₂ : s₂.frames = .throwing q :: .java g :: U.frames.tail := hend
    have hW' : U.WarmedH s₂.vm := hW₂
    have hs₂ : s₂ = ((({ U with heap := s₂.heap, slotsUsed := s₂.slotsUsed } : State).setVm s₂.vm).setTop g).pushFrame (.throwing q) := by
      refine e3.trans ?_
      rw [hf₂, State.calling_eq h.top, State.setFrames_setFrames, State.pushFrame, State.frames_setTop _ hr', State.setTop_of_frames _ hr', State.setFrames_setFrames, hr]
      rfl
    have hsame : U.sameButNew ({ U with heap := s₂.heap, slotsUsed := s₂.slotsUsed } : State) L mc ms := by
      refine ⟨?_, q2, q3, q4, q5, q6⟩
      obtain ⟨t, ht, -⟩ := State.frames_cons hr
      show ({ U with heap := s₂.heap, slotsUsed := s₂.slotsUsed } : State) = { U.setFrames U.frames with heap := s₂.heap, slotsUsed := s₂.slotsUsed }
      rw [State.setFrames_self ht]
    subst hg
    refine Or.inr ⟨q, ⟨(({ U with heap := s₂.heap, slotsUsed := s₂.slotsUsed } : State).setVm s₂.vm), Ls ++ L, c0 + mc, s0 + ms⟩,
      ⟨X.admits, X.cas, X.clock, X.frames, X.room, X.hears, X.method, X.code, (X.here.setHeapUsed s₂.heap s₂.slotsUsed).setVm hW'.alike, X.tail, State.WarmedH.trans X.warmed hW', X.limits, X.bytes, X.same.trans (hsame.setVm s.vm)⟩,
      ⟨g, mk, s₂, L, E, ce, rfl, rfl, hx, hce, hcv, hcl, rfl, hL, rfl, rfl⟩, ?_⟩
    show Steps p.tables e below _ (((({ U with heap := s₂.heap, slotsUsed := s₂.slotsUsed } : State).setVm s₂.vm).setTop g).pushFrame (.throwing q))
    rw [← hs₂]
    exact hsteps
end
variable {p : Program} {l : Launch} {e : Env} {R : Room} {s : State} {m : MethodId} {args : Array Value} {below : List Frame} {meth : Method} {c : Code} {T : State} {H : Heap} {locs : List Loc} {cells slots : Nat}
theorem vx_callVX (X : Stand p l e R s m args below meth c T locs cells slots) (hexec : p.tables.exec = Jvm.exec) {own C : String} {index : Nat} {y : MethodName} {bytes : ByteArray} {maxL : Nat} {ret : Option FieldType} {hh : List (Nat × Nat × Nat × Nat)}
    (hown : s.vm.findClass own = some m.cls) (hlink : (Cond.methodLink own index y).before args s = true) (hinst : (Cond.instanceMethod y).before args s = true) (hsel : (Cond.selects C y y).before args s = true)
    (hcode : (Cond.codeWith y bytes maxL ret hh).before args s = true) (hy : y.cls ≠ "java/lang/invoke/MethodHandle" ∧ y.cls ≠ "java/lang/invoke/VarHandle")
    {W9 : Nat} {Pre : Pt → Array Value → Prop} {Post : Pt → Array Value → Option Value → Pt → Prop} {PostX : Pt → Array Value → Addr → Pt → Prop} (hK : vx_Back l R p e below s args y 3 W9 Pre Post PostX)
    {b : Addr} {cellB : Cell} (hcell : T.heap[b]? = some cellB) (hobj : cellB.vm.isStatics = false) (hcls : s.vm.findClass C = some cellB.cls)
    {g : JFrame} (hg : g.method = m) (hsize : g.locals.size = c.maxLocals) {argsL rest : List Value} (hlen : ∀ sig, parseMethodDescriptor y.desc = some sig → argsL.length = sig.parameters.length)
    (hstack : g.stack = argsL.reverse ++ .ref b :: rest) (hW : 2 * g.monitorRoom + (rest.map fun v => v.category).sum ≤ W9) (hdg : decode c.code g.pc = .ok (.invokevirtual index, 3))
    (hpre : ∀ vm₁, s.WarmedH vm₁ → Pre ⟨T.setVm vm₁, locs, cells, slots⟩ (Value.ref b :: argsL).toArray) :
    (∃ (v : Option Value) (vm₁ : Vm) (B : Pt), s.WarmedH vm₁ ∧ Stand p l e R s m args below meth c B.U B.locs B.cells B.slots ∧ Post ⟨T.setVm vm₁, locs, cells, slots⟩ (Value.ref b :: argsL).toArray v B ∧
      ∀ target, Steps p.tables e below (B.U.setTop { g with pc := g.pc + 3, stack := v.toList ++ rest }) target → Steps p.tables e below (T.setTop g) target) ∨
    (∃ (q : Addr) (vm₁ : Vm) (B : Pt), s.WarmedH vm₁ ∧ Stand p l e R s m args below meth c B.U B.locs B.cells B.slots ∧ PostX ⟨T.setVm vm₁, locs, cells, slots⟩ (Value.ref b :: argsL).toArray q B ∧
      Steps p.tables e below (T.setTop g) ((B.U.setTop { g with stack := rest }).pushFrame (.throwing q))) := by
  obtain ⟨mk, methM, hnamed, hmethM, hstM, habM⟩ := Cond.instanceMethod_spec hinst
  obtain ⟨m8, methM', cM, hn8, hmethM', -, -, -, -, -, -, hsigM⟩ := Cond.codeWith_spec hcode
  cases Option.some.inj (hn8.symm.trans hnamed)
  cases hmethM.symm.trans hmethM'
  obtain ⟨c2, r2, m2, q1, q2, q3, q4, kP, hkP, hkPi⟩ := Cond.selects_spec hsel
  cases hcls.symm.trans q1
  cases (State.methodFound?_of_named hnamed hy).symm.trans q2
  cases hnamed.symm.trans q3
  have hselP : selectMethod e.platform s.vm cellB.cls mk = .method mk := by rw [Launch.admits_selectMethod X.admits]; exact q4
  obtain ⟨vm₁, X₁, hstep₁⟩ := X.invokevirtual hexec hown hlink hnamed hmethM hstM hkP hkPi hy (a := b) (cell := cellB) hcell
    (fun z h => by rw [h] at hobj; cases hobj) hselP hmethM habM hkP hkPi (g := g) hg (argsL := argsL) (rest := rest) (hlen _ hsigM) hstack hdg
  rcases hK m meth c ⟨T.setVm vm₁, locs, cells, slots⟩ { g with stack := rest } (.invokevirtual index) mk (Value.ref b :: argsL).toArray X₁ hg hsize hdg hW (X₁.named hnamed) (hpre vm₁ X₁.warmed) with ⟨v, B, X', hpost, hsteps⟩ | ⟨q, B, X', hpost, hsteps⟩
  · exact Or.inl ⟨v, vm₁, B, X₁.warmed, X', hpost, fun target h => hstep₁ _ fun acts => by rw [doInvoke_state]; exact hsteps.trans h⟩
  · exact Or.inr ⟨q, vm₁, B, X₁.warmed, X', hpost, hstep₁ _ fun acts => by rw [doInvoke_state]; exact hsteps⟩
theorem vx_callSX (X : Stand p l e R s m args below meth c T locs cells slots) (hexec : p.tables.exec = Jvm.exec) {own : String} {index : Nat} {y : MethodName} {bytes : ByteArray} {maxL : Nat} {ret : Option FieldType} {hh : List (Nat × Nat × Nat × Nat)}
    (hown : s.vm.findClass own = some m.cls) (hlink : (Cond.methodLink own index y).before args s = true) (hstat : (Cond.static y).before args s = true) (hinit : (Cond.initialized y.cls).before args s = true)
    (hcode : (Cond.codeWith y bytes maxL ret hh).before args s = true) (hy : y.cls ≠ "java/lang/invoke/MethodHandle" ∧ y.cls ≠ "java/lang/invoke/VarHandle")
    {W9 : Nat} {Pre : Pt → Array Value → Prop} {Post : Pt → Array Value → Option Value → Pt → Prop} {PostX : Pt → Array Value → Addr → Pt → Prop} (hK : vx_Back l R p e below s args y 3 W9 Pre Post PostX)
    {g : JFrame} (hg : g.method = m) (hsize : g.locals.size = c.maxLocals) {argsL rest : List Value} (hlen : ∀ sig, parseMethodDescriptor y.desc = some sig → argsL.length = sig.parameters.length)
    (hstack : g.stack = argsL.reverse ++ rest) (hW : 2 * g.monitorRoom + (rest.map fun v => v.category).sum ≤ W9) (hdg : decode c.code g.pc = .ok (.invokestatic index, 3))
    (hpre : ∀ vm₁, s.WarmedH vm₁ → Pre ⟨T.setVm vm₁, locs, cells, slots⟩ argsL.toArray) :
    (∃ (v : Option Value) (vm₁ : Vm) (B : Pt), s.WarmedH vm₁ ∧ Stand p l e R s m args below meth c B.U B.locs B.cells B.slots ∧ Post ⟨T.setVm vm₁, locs, cells, slots⟩ argsL.toArray v B ∧
      ∀ target, Steps p.tables e below (B.U.setTop { g with pc := g.pc + 3, stack := v.toList ++ rest }) target → Steps p.tables e below (T.setTop g) target) ∨
    (∃ (q : Addr) (vm₁ : Vm) (B : Pt), s.WarmedH vm₁ ∧ Stand p l e R s m args below meth c B.U B.locs B.cells B.slots ∧ PostX ⟨T.setVm vm₁, locs, cells, slots⟩ argsL.toArray q B ∧
      Steps p.tables e below (T.setTop g) ((B.U.setTop { g with stack := rest }).pushFrame (.throwing q))) := by
  obtain ⟨mk, methM, cM, hnamed, hmethM, -, -, -, -, -, -, hsigM⟩ := Cond.codeWith_spec hcode
  have hstatic : methM.isStatic = true := Cond.static_spec hnamed hmethM hstat
  obtain ⟨kP, hkP, -⟩ := className_of_methodNamed hnamed
  have hinitP : kP.init = .initialized := Cond.initialized_spec (findClass_of_methodNamed hnamed) hkP hinit
  obtain ⟨vm₁, X₁, hstep₁⟩ := X.invokestatic hexec hown hlink hnamed hmethM hstatic hkP hinitP hy (g := g) hg (argsL := argsL) (rest := rest) (hlen _ hsigM) hstack hdg
  rcases hK m meth c ⟨T.setVm vm₁, locs, cells, slots⟩ { g with stack := rest } (.invokestatic index) mk argsL.toArray X₁ hg hsize hdg hW (X₁.named hnamed) (hpre vm₁ X₁.warmed) with ⟨v, B, X', hpost, hsteps⟩ | ⟨q, B, X', hpost, hsteps⟩
  · exact Or.inl ⟨v, vm₁, B, X₁.warmed, X', hpost, fun target h => hstep₁ _ fun acts => by rw [doInvoke_state]; exact hsteps.trans h⟩
  · exact Or.inr ⟨q, vm₁, B, X₁.warmed, X', hpost, hstep₁ _ fun acts => by rw [doInvoke_state]; exact hsteps⟩
theorem vx_callVW (X : Stand p l e R s m args below meth c T locs cells slots) (hexec : p.tables.exec = Jvm.exec) {own C : String} {index : Nat} {y : MethodName} {bytes : ByteArray} {maxL : Nat} {ret : Option FieldType} {hh : List (Nat × Nat × Nat × Nat)}
    (hown : s.vm.findClass own = some m.cls) (hlink : (Cond.methodLink own index y).before args s = true) (hinst : (Cond.instanceMethod y).before args s = true) (hsel : (Cond.selects C y y).before args s = true)
    (hcode : (Cond.codeWith y bytes maxL ret hh).before args s = true) (hy : y.cls ≠ "java/lang/invoke/MethodHandle" ∧ y.cls ≠ "java/lang/invoke/VarHandle")
    {W9 : Nat} {Pre : Pt → Array Value → Prop} {Post : Pt → Array Value → Option Value → Pt → Prop} (hK : Back l R p e below s args y 3 W9 Pre Post)
    {b : Addr} {cellB : Cell} (hcell : T.heap[b]? = some cellB) (hobj : cellB.vm.isStatics = false) (hcls : s.vm.findClass C = some cellB.cls)
    {g : JFrame} (hg : g.method = m) (hsize : g.locals.size = c.maxLocals) {argsL rest : List Value} (hlen : ∀ sig, parseMethodDescriptor y.desc = some sig → argsL.length = sig.parameters.length)
    (hstack : g.stack = argsL.reverse ++ .ref b :: rest) (hW : 2 * g.monitorRoom + (rest.map fun v => v.category).sum ≤ W9) (hdg : decode c.code g.pc = .ok (.invokevirtual index, 3))
    (hpre : ∀ vm₁, s.WarmedH vm₁ → Pre ⟨T.setVm vm₁, locs, cells, slots⟩ (Value.ref b :: argsL).toArray) :
    ∃ (v : Option Value) (vm₁ : Vm) (B : Pt), s.WarmedH vm₁ ∧ Stand p l e R s m args below meth c B.U B.locs B.cells B.slots ∧ Post ⟨T.setVm vm₁, locs, cells, slots⟩ (Value.ref b :: argsL).toArray v B ∧
      ∀ target, Steps p.tables e below (B.U.setTop { g with pc := g.pc + 3, stack := v.toList ++ rest }) target → Steps p.tables e below (T.setTop g) target := by
  obtain ⟨mk, methM, hnamed, hmethM, hstM, habM⟩ := Cond.instanceMethod_spec hinst
  obtain ⟨m8, methM', cM, hn8, hmethM', -, -, -, -, -, -, hsigM⟩ := Cond.codeWith_spec hcode
  cases Option.some.inj (hn8.symm.trans hnamed)
  cases hmethM.symm.trans hmethM'
  obtain ⟨c2, r2, m2, q1, q2, q3, q4, kP, hkP, hkPi⟩ := Cond.selects_spec hsel
  cases hcls.symm.trans q1
  cases (State.methodFound?_of_named hnamed hy).symm.trans q2
  cases hnamed.symm.trans q3
  have hselP : selectMethod e.platform s.vm cellB.cls mk = .method mk := by rw [Launch.admits_selectMethod X.admits]; exact q4
  obtain ⟨vm₁, X₁, hstep₁⟩ := X.invokevirtual hexec hown hlink hnamed hmethM hstM hkP hkPi hy (a := b) (cell := cellB) hcell
    (fun z h => by rw [h] at hobj; cases hobj) hselP hmethM habM hkP hkPi (g := g) hg (argsL := argsL) (rest := rest) (hlen _ hsigM) hstack hdg
  obtain ⟨v, B, X', hpost, hsteps⟩ := hK m meth c ⟨T.setVm vm₁, locs, cells, slots⟩ { g with stack := rest } (.invokevirtual index) mk (Value.ref b :: argsL).toArray X₁ hg hsize hdg hW (X₁.named hnamed) (hpre vm₁ X₁.warmed)
  exact ⟨v, vm₁, B, X₁.warmed, X', hpost, fun target h => hstep₁ _ fun acts => by rw [doInvoke_state]; exact hsteps.trans h⟩
abbrev vx_CVW (R : Room) (s : State) (args : Array Value) (own C : String) (index : Nat) (y : MethodName) (bytes : ByteArray) (maxL : Nat) (ret : Option FieldType) (hh : List (Nat × Nat × Nat × Nat)) (ws : List Cond) (rm : Room) (mc ms n : Nat) : Prop :=
  (rm.cells = mc ∧ rm.slots = ms ∧ rm.frames + 1 ≤ R.frames ∧ 8 + (maxL + 11) + rm.locals ≤ R.locals ∧ (∀ w ∈ ws, ∀ (a' : Array Value) (U : State), s.WarmedH U.vm → w.before a' U = true) ∧ Cond.codeWith y bytes maxL ret hh ∈ ws) ∧
  (Cond.codeWith y bytes maxL ret hh).before args s = true ∧ (Cond.initialized y.cls).before args s = true ∧ (y.cls ≠ "java/lang/invoke/MethodHandle" ∧ y.cls ≠ "java/lang/invoke/VarHandle") ∧
  (∀ sig, parseMethodDescriptor y.desc = some sig → n = sig.parameters.length) ∧ (Cond.methodLink own index y).before args s = true ∧ (Cond.instanceMethod y).before args s = true ∧ (Cond.selects C y y).before args s = true
theorem vx_cwVW {own C : String} {index maxL mc ms : Nat} {y : MethodName} {bytes : ByteArray} {ret : Option FieldType} {hh : List (Nat × Nat × Nat × Nat)} {Ts ws ws' : List Cond} {rm : Room} (n : Nat) (ht : ∀ w ∈ Ts, w.before args s = true) (hT : GoodIn Ts (wsV own index C y ws)) (hw : ws = Cond.codeWith y bytes maxL ret hh :: ws') (hrc : rm.cells = mc) (hrs : rm.slots = ms)
    (hd : y.cls = C ∧ y.cls ≠ "java/lang/invoke/MethodHandle" ∧ y.cls ≠ "java/lang/invoke/VarHandle" ∧ (parseMethodDescriptor y.desc).map (fun d => d.parameters.length) = some n) (hR : rm.frames + 1 ≤ R.frames ∧ 8 + (maxL + 11) + rm.locals ≤ R.locals) :
    vx_CVW R s args own C index y bytes maxL ret hh ws rm mc ms n := by
  obtain ⟨hC, hd⟩ := hd
  subst hC
  have ok : ∀ w ∈ wsV own index y.cls y ws, w.before args s = true := fun w h => ht w (hT w h).1
  have hG : GoodIn Ts ws := fun w h => hT w (by unfold wsV; exact List.mem_append_right _ h)
  have hc : Cond.codeWith y bytes maxL ret hh ∈ ws := by rw [hw]; exact List.mem_cons_self
  refine ⟨⟨hrc, hrs, hR.1, hR.2, pay_in ht hG, hc⟩, ht _ (hG _ hc).1, ok _ (by simp [wsV]), ⟨hd.1, hd.2.1⟩, fun sig h => ?_, ok _ (by simp [wsV]), ok _ (by simp [wsV]), ok _ (by simp [wsV])⟩
  have h2 := hd.2.2
  rw [h] at h2
  exact (Option.some.inj h2).symm
theorem vx_runVW {y : MethodName} {bytes cc : ByteArray} {maxL nL mc ms n index : Nat} {ret : Option FieldType} {hh : List (Nat × Nat × Nat × Nat)} {ws : List Cond} {rm : Room} {Pc : Array Value → State → Prop} {Qc : Array Value → State → Outcome → State → Prop} {free : Addr → Prop} {Ts : List Cond} {own C : String} {b : Addr} {As rest : List Value} {g : JFrame}
    (S : CallFix p m c cc nL s args Ts own) (hM : Met l y ws rm Pc Qc mc ms free) (cw : vx_CVW R s args own C index y bytes maxL ret hh ws rm mc ms n) (hp : PreV s H C b Pc As)
    (hg : g.method = m) (hn : As.length = n) (hsize : g.locals.size = nL) (hstack : g.stack = As.reverse ++ .ref b :: rest) (hW : 2 * g.monitorRoom + (rest.map fun v => v.category).sum ≤ 8) (hdg : decode cc g.pc = .ok (.invokevirtual index, 3)) (hf : cells + mc ≤ R.cells ∧ slots + ms ≤ R.slots) :
    va_Run p l e R s m args below meth c H locs cells slots mc ms g rest (Qc (Value.ref b :: As).toArray) free := by
  obtain ⟨⟨hrc, hrs, hfr, hlo, hws, hcw⟩, hcode, hini, hy, hlen, hl, hin, hse⟩ := cw
  have hK : Back l R p e below s args y 3 8 (PreOf R mc ms Pc) (PostOf Qc mc ms free) := va_backW (hh := hh) (bytes := bytes) (maxL := maxL) (ret := ret) hM hp.1 hrc hrs hfr hlo hws hcw (fun a' U hW => word_at hW (Or.inl (by first | rfl | simp [Cond.onTables, Cond.keeps, Cond.steady])) hini)
  obtain ⟨hx, hb, hml, ho, -⟩ := S
  obtain ⟨-, ⟨cellB, hcB, hoB, hclB⟩, hPc⟩ := hp
  intro T hT X
  obtain ⟨v, vm₁, ⟨U', l2, c2, s2⟩, hW₁, X', ⟨g', mk, t, L, e1, e2, hq, h1, hL, h2, h3⟩, st⟩ := vx_callVW X hx (C := C) (hh := hh) (bytes := bytes) (maxL := maxL) (ret := ret) ho hl hin hse hcode hy hK (by rw [hT]; exact hcB) hoB hclB hg (hsize.trans hml.symm) (argsL := As) (rest := rest) (fun sig h => hn.trans (hlen sig h)) hstack hW (by rw [hb]; exact hdg)
    (fun vm₁ hW₁ => ⟨hf.1, hf.2, hPc (T.setVm vm₁) hT hW₁⟩)
  dsimp only [Pt.U, Pt.locs, Pt.cells, Pt.slots] at X' e1 e2 h1 h2 h3 st
  subst h1; subst h2; subst h3
  exact ⟨v, (T.setVm vm₁).calling g' mk (Value.ref b :: As).toArray, t, U', L, hT, X', hL, e1, e2, hq, st⟩
section
variable {y : MethodName} {bytes cc : ByteArray} {maxL nL mc ms n index : Nat} {ret : Option FieldType} {ws : List Cond} {rm : Room} {Pc : Array Value → State → Prop} {Qc : Array Value → State → Outcome → State → Prop} {XC : String → State → State → Prop} {free : Addr → Prop} {Ts : List Cond} {own C : String} {b : Addr} {As rest : List Value} {g : JFrame}
theorem vx_runVX {hh : List (Nat × Nat × Nat × Nat)} (S : CallFix p m c cc nL s args Ts own) (hM : vx_Met l y ws rm Pc Qc XC mc ms free) (cw : vx_CVW R s args own C index y bytes maxL ret hh ws rm mc ms n) (hp : PreV s H C b Pc As)
    (hg : g.method = m) (hn : As.length = n) (hsize : g.locals.size = nL) (hstack : g.stack = As.reverse ++ .ref b :: rest) (hW : 2 * g.monitorRoom + (rest.map fun v => v.category).sum ≤ 8) (hdg : decode cc g.pc = .ok (.invokevirtual index, 3)) (hf : cells + mc ≤ R.cells ∧ slots + ms ≤ R.slots) :
    vx_Run p l e R s m args below meth c H locs cells slots mc ms g rest (Qc (Value.ref b :: As).toArray) XC free := by
  obtain ⟨⟨hrc, hrs, hfr, hlo, hws, hcw⟩, hcode, hini, hy, hlen, hl, hin, hse⟩ := cw
  have hK : vx_Back l R p e below s args y 3 8 (PreOf R mc ms Pc) (PostOf Qc mc ms free) (vx_Post XC mc ms free) := vx_backW (hh := hh) (bytes := bytes) (maxL := maxL) (ret := ret) hM hp.1 hrc hrs hfr hlo hws hcw (fun a' U hW => word_at hW (Or.inl (by first | rfl | simp [Cond.onTables, Cond.keeps, Cond.steady])) hini)
  obtain ⟨hx, hb, hml, ho, -⟩ := S
  obtain ⟨-, ⟨cellB, hcB, hoB, hclB⟩, hPc⟩ := hp
  intro T hT X
  rcases vx_callVX X hx (C := C) (hh := hh) (bytes := bytes) (maxL := maxL) (ret := ret) ho hl hin hse hcode hy hK (by rw [hT]; exact hcB) hoB hclB hg (hsize.trans hml.symm) (argsL := As) (rest := rest) (fun sig h => hn.trans (hlen sig h)) hstack hW (by rw [hb]; exact hdg)
    (fun vm₁ hW₁ => ⟨hf.1, hf.2, hPc (T.setVm vm₁) hT hW₁⟩) with ⟨v, vm₁, ⟨U', l2, c2, s2⟩, hW₁, X', ⟨g', mk, t, L, e1, e2, hq, h1, hL, h2, h3⟩, st⟩ | ⟨q, vm₁, ⟨U', l2, c2, s2⟩, hW₁, X', ⟨g', mk, t, L, E, ce, e1, e2, hq, hce, hcv, hcl, h1, hL, h2, h3⟩, st⟩
  · dsimp only [Pt.U, Pt.locs, Pt.cells, Pt.slots] at X' e1 e2 h1 h2 h3 st
    subst h1; subst h2; subst h3
    exact Or.inl ⟨v, (T.setVm vm₁).calling g' mk (Value.ref b :: As).toArray, t, U', L, hT, X', hL, e1, e2, hq, st⟩
  · dsimp only [Pt.U, Pt.locs, Pt.cells, Pt.slots] at X' e1 e2 h1 h2 h3 st hcl
    subst h1; subst h2; subst h3
    exact Or.inr ⟨q, (T.setVm vm₁).calling g' mk (Value.ref b :: As).toArray, t, U', L, E, ce, hT, X', hL, e1, e2, hq, hce, hcv, vx_cls hW₁ hcl, st⟩
theorem vx_runSX {hh : List (Nat × Nat × Nat × Nat)} (S : CallFix p m c cc nL s args Ts own) (hM : vx_Met l y ws rm Pc Qc XC mc ms free) (cw : vx_CSW R s args own index y bytes maxL ret hh ws rm mc ms n) (hp : PreS s H Pc As)
    (hg : g.method = m) (hn : As.length = n) (hsize : g.locals.size = nL) (hstack : g.stack = As.reverse ++ rest) (hW : 2 * g.monitorRoom + (rest.map fun v => v.category).sum ≤ 8) (hdg : decode cc g.pc = .ok (.invokestatic index, 3)) (hf : cells + mc ≤ R.cells ∧ slots + ms ≤ R.slots) :
    vx_Run p l e R s m args below meth c H locs cells slots mc ms g rest (Qc As.toArray) XC free := by
  obtain ⟨⟨hrc, hrs, hfr, hlo, hws, hcw⟩, hcode, hini, hy, hlen, hl, hstt⟩ := cw
  have hK : vx_Back l R p e below s args y 3 8 (PreOf R mc ms Pc) (PostOf Qc mc ms free) (vx_Post XC mc ms free) := vx_backW (hh := hh) (bytes := bytes) (maxL := maxL) (ret := ret) hM hp.1 hrc hrs hfr hlo hws hcw (fun a' U hW => word_at hW (Or.inl (by first | rfl | simp [Cond.onTables, Cond.keeps, Cond.steady])) hini)
  obtain ⟨hx, hb, hml, ho, -⟩ := S
  intro T hT X
  rcases vx_callSX X hx (hh := hh) (bytes := bytes) (maxL := maxL) (ret := ret) ho hl hstt hini hcode hy hK hg (hsize.trans hml.symm) (argsL := As) (rest := rest) (fun sig h => hn.trans (hlen sig h)) hstack hW (by rw [hb]; exact hdg)
    (fun vm₁ hW₁ => ⟨hf.1, hf.2, hp.2 (T.setVm vm₁) hT hW₁⟩) with ⟨v, vm₁, ⟨U', l2, c2, s2⟩, hW₁, X', ⟨g', mk, t, L, e1, e2, hq, h1, hL, h2, h3⟩, st⟩ | ⟨q, vm₁, ⟨U', l2, c2, s2⟩, hW₁, X', ⟨g', mk, t, L, E, ce, e1, e2, hq, hce, hcv, hcl, h1, hL, h2, h3⟩, st⟩
  · dsimp only [Pt.U, Pt.locs, Pt.cells, Pt.slots] at X' e1 e2 h1 h2 h3 st
    subst h1; subst h2; subst h3
    exact Or.inl ⟨v, (T.setVm vm₁).calling g' mk As.toArray, t, U', L, hT, X', hL, e1, e2, hq, st⟩
  · dsimp only [Pt.U, Pt.locs, Pt.cells, Pt.slots] at X' e1 e2 h1 h2 h3 st hcl
    subst h1; subst h2; subst h3
    exact Or.inr ⟨q, (T.setVm vm₁).calling g' mk As.toArray, t, U', L, E, ce, hT, X', hL, e1, e2, hq, hce, hcv, vx_cls hW₁ hcl, st⟩
end
end VXH
theorem vx_ofWH {l : Launch} {y : MethodName} {ws ws' : List Cond} {rm : Room} {Pc : Array Value → State → Prop} {Qc : Array Value → State → Outcome → State → Prop} {XC : String → State → State → Prop} {mc ms : Nat} {free : Addr → Prop} {cc : ByteArray} {maxL : Nat} {ret : Option FieldType} {hh : List (Nat × Nat × Nat × Nat)}
    (hy : plainName y.cls = true) (hw : ws = Cond.codeWith y cc maxL ret hh :: ws')
    (body : ∀ p e s m args below meth c s₁, BodyLoose p l y (headSpec ws rm) cc maxL ret e s m args below meth c s₁ → c.maxLocals = maxL → Pc args s →
      W p l e (headSpec ws rm).room s m args below meth c s.heap [] 0 0 (vx_MQ below Qc XC args s mc ms free) (entryFrame m args maxL)) : vx_Met l y ws rm Pc Qc XC mc ms free := by
  refine MetFree.of_bodyS (code := cc) (maxLocals := maxL) (ret := ret) hy ?_ ?_
  · intro args s m h hn
    obtain ⟨m9, meth, c, hn9, h1, h2, h3, h4, -, h5, h6, -⟩ := Cond.codeWith_spec (atoms_spec (ws := ws) h _ (by rw [hw]; exact List.mem_cons_self))
    cases hn.symm.trans hn9
    exact ⟨meth, c, h1, h2, h3, h4, h5, h6⟩
  · intro p e s m args below meth c s₁ B hml hP _
    have hh0 : s₁.heap = s.heap := by rw [B.state]; rfl
    obtain ⟨t, a1, o, b1, b2, b3⟩ := body p e s m args below meth c s₁ B hml hP s₁ hh0 (Stand.of_body B)
    exact ⟨t, o, a1, b1, b2, b3⟩
/-! ===== END ===== -/
/-! ===== BEGIN what the machine throws by itself, no traces kept ===== -/
section VXM
set_option maxHeartbeats 1000000 in
/-- the machine throws cls with the message text, no traces kept: from its note over the frame g to 'throwing' over the same frame (follows the proofs of Stand.vmThrowsMessage, Shelf/KitTracedVmS.lean, and Stand.throwsMessageColdBareV, StandMessageColdV.lean, without the step out of the frame) -/
theorem vx_vmAt {p : Program} {l : Launch} {e : Env} {R : Room} {s : State} {m₀ : MethodId} {args : Array Value} {below : List Frame} {meth : Method} {c : Code} {W : State} {locs : List Loc} {cells slots : Nat}
    (X : Stand p l e R s m₀ args below meth c W locs cells slots) (hexec : p.tables.exec = Jvm.exec) (htr : e.platform.stackTraces = false) {cls : String} {names : List String} {text : String}
    (hcls : Bundle.fit cls = true) (hnames : ∀ n ∈ names, Bundle.fit n = true) (hsoe : (cls == "java/lang/StackOverflowError") = false) (hoom : (cls == "java/lang/OutOfMemoryError") = false)
    (h : ∀ a ∈ Bundle.messageArmAtoms cls names, a.before args s = true)
    (hlocs : ∀ x ∈ locs, ∀ cell, s.heap[x.base]? = some cell → cell.vm.isStatics = false)
    (htext : (text == notModelled) = false) (hlimit : ¬ (stringBytes (stringToUtf16 text)).size > e.platform.arrayLengthLimit) (hheap : ¬ (stringBytes (stringToUtf16 text)).size * componentBytes .byte > e.platform.maxHeapBytes)
    {g : JFrame} (hg : g.method = m₀) (hsize : g.locals.size = c.maxLocals)
    (hRframes : names.length + 4 < R.frames) (hRlocals : 2 * g.monitorRoom + (g.stack.map fun v => v.category).sum + 10240 ≤ R.locals) (hshort : 13 * names.length + 55 ≤ 10240)
    (hRcells : cells + 3 ≤ R.cells) (hRslots : slots + ((stringBytes (stringToUtf16 text)).size + 4 + 6) ≤ R.slots) (hlocks : meth.locks = false) :
    ∃ (S : State) (q : Addr) (ce : Cell), (∀ target, Steps p.tables e below ((S.setTop g).pushFrame (.throwing q)) target → Steps p.tables e below ((W.setTop g).pushFrame (.throwNew cls (some text) none)) target) ∧
      Stand p l e R s m₀ args below meth c S locs (cells + 3) (slots + ((stringBytes (stringToUtf16 text)).size + 4 + 6)) ∧ S.heap[q]? = some ce ∧ s.vm.findClass cls = some ce.cls ∧ ce.vm = .none := by
  have howns : e.platform.frameOwnsMonitors = true := by rw [X.admits.platform]
  have hfin : e.platform.finalization = false := by rw [X.admits.platform]
  have hpl : e.platform.magicAccessors = ({} : Platform).magicAccessors := by rw [X.admits.platform]
  have a : ∀ x, x ∈ Bundle.messageArmAtoms cls names → x.holds args s none s [] = true := fun x hx => h x hx
  obtain ⟨T, Z0, L, -, Y⟩ := ThrowableC.of_atoms (args := args) howns hfin hpl (fun x hx => h x (by simp [Bundle.messageArmAtoms, hx]))
  obtain ⟨Z, M, LZ, LM, hnZ⟩ := Init0T.ofS_atoms (args := args) hpl L Y (fun x hx => h x (by simp [Bundle.messageArmAtoms, hx]))
  obtain ⟨P1, Ps, hlen, L1, hL, hP1m, hlink1, hlink⟩ := Bundle.chainS (args := args) hpl hnZ names cls hcls hnames (fun x hx => h x (by simp [Bundle.messageArmAtoms, hx]))
  obtain ⟨Zs, LZs, hn4, hfitv, hfitc⟩ := StringT.of_atoms (args := args) (fun x hx => h x (by simp [Bundle.messageArmAtoms, hx]))
  have hfound : s.vm.findClass cls = some P1.m.cls := findClass_of_methodNamed hP1m
  obtain ⟨c1, kX, hc1, hk, hord, -, -, hn6⟩ := Cond.instantiable_spec (a (.instantiable cls 6) (by simp [Bundle.messageArmAtoms]))
  cases Option.some.inj (hc1.symm.trans hfound)
  have hinit := Cond.initialized_spec hfound hk (a (.initialized cls) (by simp [Bundle.messageArmAtoms]))
  have hctor : kX.findMethod "<init>" "(Ljava/lang/String;)V" = some P1.m.idx := findMethod_of_methodNamed hP1m hk
  have hsel0 : selectMethod e.platform s.vm P1.m.cls T.fill0 = .method T.fill0 := by
    obtain ⟨c2, r2, m2, q1, q2, q3, q4, -⟩ := Cond.selects_spec (a (.selects cls Bundle.tFill0 Bundle.tFill0) (by simp [Bundle.messageArmAtoms]))
    cases Option.some.inj (q1.symm.trans hfound)
    cases Option.some.inj (q2.symm.trans (State.methodFound?_of_named Y.fill0 (by decide)))
    cases Option.some.inj (q3.symm.trans Y.fill0)
    rw [Launch.admits_selectMethod X.admits]; exact q4
  have hselF : selectMethod e.platform s.vm P1.m.cls T.fill = .method T.fill := by
    obtain ⟨c2, r2, m2, q1, q2, q3, q4, -⟩ := Cond.selects_spec (a (.selects cls Bundle.tFill Bundle.tFill) (by simp [Bundle.messageArmAtoms]))
    cases Option.some.inj (q1.symm.trans hfound)
    cases Option.some.inj (q2.symm.trans (State.methodFound?_of_named Y.fill (by decide)))
    cases Option.some.inj (q3.symm.trans Y.fill)
    rw [Launch.admits_selectMethod X.admits]; exact q4
  obtain ⟨cellS0, hcS0, hiss⟩ := Y.statics
  obtain ⟨u0, hu0⟩ := Cond.staticRefV Y.unassigned L.unassignedStatic L.statics hcS0 hiss (a (.isRef (.static Bundle.tN "UNASSIGNED_STACK" Bundle.steD)) (by simp [Bundle.messageArmAtoms]))
  obtain ⟨sen, hsen⟩ := Cond.staticRefV Y.sentinel L.sentinelStatic L.statics hcS0 hiss (a (.isRef (.static Bundle.tN "SUPPRESSED_SENTINEL" Bundle.listD)) (by simp [Bundle.messageArmAtoms]))
  obtain ⟨ci198, i198, fB, hk198, hg198, ha198, hsB, -, hnB, htB, hffB⟩ := Cond.ownField (t := .object "java/lang/Object") Y.found L.cls (by decide +kernel) (a (.fieldLink Bundle.tN 198 Bundle.tN "backtrace" "Ljava/lang/Object;") (by simp [Bundle.messageArmAtoms])) (a (.lays Bundle.tN Bundle.tN "backtrace" "Ljava/lang/Object;") (by simp [Bundle.messageArmAtoms])) e.platform hpl
  obtain ⟨cellS, hcS', heS, -, hkeep⟩ := X.same.2.2.2.2.2 T.aS cellS0 hcS0
  have hcellS : W.heap[T.aS]? = some cellS := hcS'
  have hout' : ∀ i, (⟨T.aS, i⟩ : Loc) ∉ locs := fun i hmem => by
    have := hlocs _ hmem cellS0 hcS0
    rw [hiss] at this; cases this
  have hknownS : cellS.vm ≠ .unknown := by
    rw [heS]; intro hu
    rw [show cellS0.vm = .unknown from hu] at hiss
    cases hiss
  have hvU : cellS.slots[T.fUnassigned.slot]? = some u0.v := by rw [hkeep _ (hout' _)]; exact hu0
  have hvSen : cellS.slots[T.fSentinel.slot]? = some sen.v := by rw [hkeep _ (hout' _)]; exact hsen
  obtain ⟨iM, hffM⟩ := Y.msg
  obtain ⟨tyC, dC, hdC, hdnC⟩ := Cond.laysAt hfound hk Y.cause (a (.lays cls Bundle.tN "cause" "Ljava/lang/Throwable;") (by simp [Bundle.messageArmAtoms]))
  obtain ⟨tyS, dS, hdS, hdnS⟩ := Cond.laysAt hfound hk Y.stack (a (.lays cls Bundle.tN "stackTrace" Bundle.steD) (by simp [Bundle.messageArmAtoms]))
  obtain ⟨tyP, dP, hdP, hdnP⟩ := Cond.laysAt hfound hk Y.supp (a (.lays cls Bundle.tN "suppressedExceptions" Bundle.listD) (by simp [Bundle.messageArmAtoms]))
  obtain ⟨tyM, dM, hdM, hdnM⟩ := Cond.laysAt hfound hk hffM (a (.lays cls Bundle.tN "detailMessage" "Ljava/lang/String;") (by simp [Bundle.messageArmAtoms]))
  obtain ⟨tyB, dB, hdB, hdnB⟩ := Cond.laysAt hfound hk hffB (a (.lays cls Bundle.tN "backtrace" "Ljava/lang/Object;") (by simp [Bundle.messageArmAtoms]))
  have bC := Cond.laysApart hdB hdC hdnB hdnC (by rw [hnB, Y.causeName]; decide)
  have bS := Cond.laysApart hdB hdS hdnB hdnS (by rw [hnB, Y.stackName]; decide)
  have bP := Cond.laysApart hdB hdP hdnB hdnP (by rw [hnB, Y.suppName]; decide)
  have hbk : ((preparedCellV T.toThrowableT (freshCell P1.m.cls kX) (W.heap.size + 2) u0 sen).withEntry W.cur).slots[fB.slot]? = some .null := by
    have := fresh_default (c := P1.m.cls) tyB
    rw [htB] at this
    simpa [preparedCellV, Cell.setSlot, Cell.withEntry, Array.getElem?_setIfInBounds, bC, bS, bP, bC.symm, bS.symm, bP.symm, defaultValue] using this
  have tkC := Takes.of_laid (v := .ref (W.heap.size + 2)) hk hord tyC (by rw [Y.causeType]; rfl)
  have tkS := Takes.of_laid (v := u0.v) hk hord tyS (by rw [Y.stackType]; exact fits_refV_array _ u0)
  have tkP := Takes.of_laid (v := sen.v) hk hord tyP (by rw [Y.suppType]; exact fits_refV_object _ sen)
  have tkM := Takes.of_laid (v := .ref (W.heap.size + 1)) hk hord tyM (by rw [Y.msgType]; rfl)
  have hskip : SkipFacts T e.platform s (fun u => u) u0 ((preparedCellV T.toThrowableT (freshCell P1.m.cls kX) (W.heap.size + 2) u0 sen).withEntry W.cur) := ⟨{ ci198 := ci198, i198 := i198, fBack := fB }, ⟨hk198, hg198, ha198, hsB⟩, hbk, fun _ _ => rfl⟩
  have h0 : At W g.method c below := by rw [hg]; exact X.here
  obtain ⟨hbeyond, hfreeW⟩ := X.vmMayThrow hsize (.throwNew cls (some text) none) (fun f hf => by cases hf) rfl hRlocals
  have hfr' : W.frames.length + Ps.length + 4 < (e.platform.stackLimits W.me).1 := by have := X.framesAbove hRframes; omega
  have hwd' : (stackUse (.java g :: W.frames.tail)).2 + 13 * Ps.length + 55 ≤ (e.platform.stackLimits W.me).2 := by have := X.stackAbove hsize (K := 13 * Ps.length + 55) (by omega); omega
  have hslots : W.slotsUsed + (stringBytes (stringToUtf16 text)).size + Zs.kS.instanceTypes.size + kX.instanceTypes.size ≤ e.platform.maxSlots := by
    have := X.slotsAbove hRslots
    rw [hn4, hn6]
    omega
  obtain ⟨vm', hW', st⟩ := Steps.vmThrowsMessageColdByV p (s₀ := s) (S := W) (g := g) h0 hexec T L Z LZ M LM X.warmed (t := W.cur) rfl Zs LZs P1 L1 Ps hL hlink1 hlink hsoe hoom hfound hk hinit hord hctor
    (Launch.admits_hotImplicitExceptions X.admits) hbeyond hfreeW htext hlimit hheap (X.cellsAbove hRcells) hslots (hfitv _) (hfitc _)
    (Nn := fun u => u) heapOnly_id (fun _ _ => rfl) (fun _ => rfl) (fun u x y => setCell_twice _ _ _ _) (fun _ => Nat.le_refl _) (cN := ((preparedCellV T.toThrowableT (freshCell P1.m.cls kX) (W.heap.size + 2) u0 sen).withEntry W.cur))
    hsel0 hcellS hknownS hvU tkS (fun _ hu => hu) (fun _ hu => hu) rfl rfl rfl (by simp [preparedCellV, Cell.setSlot, Cell.withEntry]) hskip (fun _ _ hA hW _ hroom _ hrest => L.nativeOff p htr hA hW hroom hrest) hselF hvSen tkC tkP tkM Y.objLocals rfl hfr' hwd'
  rw [plainBareV_eq T.toThrowableT (W.heap.size + 2) u0 sen (.ref (W.heap.size + 1)) W.cur rfl rfl] at st
  obtain ⟨-, -, w3, w4, -, -, -⟩ := withThrown_facts e.platform W Zs text P1.m.cls kX
  have X3 := ((X.pushed (bytesOf Zs.cB (stringToUtf16 text))).pushed (stringAt Zs.cS Zs.kS Zs.fv Zs.fc (stringToUtf16 text) W.heap.size)).pushed (freshCell P1.m.cls kX)
  rw [← withString_eq] at X3
  have X4 := X3.noted hW'
  have ha : (W.heap.size + 2) < ((withThrown W Zs text P1.m.cls kX).setVm vm').heap.size := by show _ < (withThrown W Zs text P1.m.cls kX).heap.size; rw [w3]; omega
  have hcell : ((withThrown W Zs text P1.m.cls kX).setVm vm').heap[(W.heap.size + 2)]? = some (freshCell P1.m.cls kX) := w4
  have X5 := ((((X4.stored hcell T.fCause.slot (.ref (W.heap.size + 2))).storedAgain ha T.fStack.slot u0.v).storedAgain ha T.fSupp.slot sen.v).storedAgain ha T.fStack.slot u0.v).storedAgain ha T.fMsg.slot (.ref (W.heap.size + 1))
  obtain ⟨g₁, hfrM⟩ := X5.frames_eq
  have hU : ((((withThrown W Zs text P1.m.cls kX).setVm vm').setCell (W.heap.size + 2) (plainBareV T.toThrowableT (freshCell P1.m.cls kX) (W.heap.size + 2) u0 sen (.ref (W.heap.size + 1)))).setTop g).pushFrame (.throwing (W.heap.size + 2)) = (((withThrown W Zs text P1.m.cls kX).setVm vm').setCell (W.heap.size + 2) (plainBareV T.toThrowableT (freshCell P1.m.cls kX) (W.heap.size + 2) u0 sen (.ref (W.heap.size + 1)))).setFrames (.throwing (W.heap.size + 2) :: .java g :: below) := by
    rw [State.pushFrame, State.frames_setTop _ hfrM, State.setTop_of_frames _ hfrM, State.setFrames_setFrames]
  have b1 : (bytesOf Zs.cB (stringToUtf16 text)).slots.size = (stringBytes (stringToUtf16 text)).size := by
    rw [(Cell.writeAll_facts _ _).2.2]; simp [bytes0]
  have b2 : (stringAt Zs.cS Zs.kS Zs.fv Zs.fc (stringToUtf16 text) W.heap.size).slots.size = 4 := by simp [string0, Cell.setSlot, hn4]
  have b3 : (freshCell P1.m.cls kX).slots.size = 6 := by simp [hn6]
  rw [b1, b2, b3] at X5
  have e9 : slots + (stringBytes (stringToUtf16 text)).size + 4 + 6 = slots + ((stringBytes (stringToUtf16 text)).size + 4 + 6) := by omega
  rw [e9] at X5
  simp only [List.append_assoc, List.cons_append, List.nil_append] at X5
  refine ⟨((withThrown W Zs text P1.m.cls kX).setVm vm').setCell (W.heap.size + 2) (plainBareV T.toThrowableT (freshCell P1.m.cls kX) (W.heap.size + 2) u0 sen (.ref (W.heap.size + 1))), W.heap.size + 2, _, fun target ht => st _ (by rw [X.tail, ← hU]; exact ht),
    X5.forget (fun y hy => ?_), heapAt_setCell_self _ ha, hfound, rfl⟩
  simp only [List.mem_cons, List.not_mem_nil, or_false] at hy
  have hge : s.heap.size ≤ W.heap.size := X.same.2.1
  rcases hy with rfl | rfl | rfl | rfl | rfl <;> exact Nat.le_trans hge (Nat.le_add_right _ 2)
set_option maxHeartbeats 1000000 in
/-- the machine throws NullPointerException, no traces kept: from its note over the frame g to 'throwing' over the same frame (follows the proof of Stand.vmThrowsNpe, Shelf42/KT2.lean; throwsNpeColdBareVAt, Shelf42/NT91.lean, called) -/
theorem vx_npeAt {p : Program} {l : Launch} {e : Env} {R : Room} {s : State} {m₀ : MethodId} {args : Array Value} {below : List Frame} {meth : Method} {c : Code} {W : State} {locs : List Loc} {cells slots : Nat}
    (X : Stand p l e R s m₀ args below meth c W locs cells slots) (hexec : p.tables.exec = Jvm.exec) (htr : e.platform.stackTraces = false) {n : Nat}
    (h : ∀ a ∈ Bundle.npeArmAtoms n, a.before args s = true)
    (hlocs : ∀ x ∈ locs, ∀ cell, s.heap[x.base]? = some cell → cell.vm.isStatics = false)
    {g : JFrame} (hg : g.method = m₀) (hsize : g.locals.size = c.maxLocals)
    (hRframes : 7 < R.frames) (hRlocals : 2 * g.monitorRoom + (g.stack.map fun v => v.category).sum + 10240 ≤ R.locals)
    (hRcells : cells + 1 ≤ R.cells) (hRslots : slots + n ≤ R.slots) (hlocks : meth.locks = false) :
    ∃ (S : State) (q : Addr) (ce : Cell), (∀ target, Steps p.tables e below ((S.setTop g).pushFrame (.throwing q)) target → Steps p.tables e below ((W.setTop g).pushFrame (.throwNew "java/lang/NullPointerException" none none)) target) ∧
      Stand p l e R s m₀ args below meth c S locs (cells + 1) (slots + n) ∧ S.heap[q]? = some ce ∧ s.vm.findClass "java/lang/NullPointerException" = some ce.cls ∧ ce.vm = .none := by
  have howns : e.platform.frameOwnsMonitors = true := by rw [X.admits.platform]
  have hfin : e.platform.finalization = false := by rw [X.admits.platform]
  have hpl : e.platform.magicAccessors = ({} : Platform).magicAccessors := by rw [X.admits.platform]
  have hpl2 : e.platform.arrayCloneIsPublic = true := by rw [X.admits.platform]
  have a' : ∀ x, x ∈ Bundle.npeArmAtoms n → x.holds args s none s [] = true := fun x hx => h x hx
  obtain ⟨T, Z, L, LZ, Y⟩ := ThrowableC.of_atoms (args := args) howns hfin hpl (fun x hx => h x (by simp [Bundle.npeArmAtoms, hx]))
  obtain ⟨N, LN, hcN, hnNF, hordN, hffS⟩ := NpeC.of_atoms (args := args) hpl hpl2 L Y (fun x hx => h x (by simp [Bundle.npeArmAtoms, hx]))
  obtain ⟨P1, L1, hP1m, hP1s⟩ := PassC.of_atoms (args := args) (s := s) hpl (X := Bundle.nN) (Y := Bundle.rN) (by decide) (by decide) LibCode.NullPointerException.Init0.at_0 LibCode.NullPointerException.Init0.at_1 LibCode.NullPointerException.Init0.at_4 (fun x hx => h x (by simp [Bundle.npeArmAtoms, hx]))
  obtain ⟨PR, LR, hPRm, hPRs⟩ := PassC.of_atoms (args := args) (s := s) hpl (X := Bundle.rN) (Y := Bundle.eN) (by decide) (by decide) LibCode.RuntimeException.Init0.at_0 LibCode.RuntimeException.Init0.at_1 LibCode.RuntimeException.Init0.at_4 (fun x hx => h x (by simp [Bundle.npeArmAtoms, hx]))
  obtain ⟨PE, LEx, hPEm, hPEs⟩ := PassC.of_atoms (args := args) (s := s) hpl (X := Bundle.eN) (Y := Bundle.tN) (by decide) (by decide) LibCode.Exception.Init0.at_0 LibCode.Exception.Init0.at_1 LibCode.Exception.Init0.at_4 (fun x hx => h x (by simp [Bundle.npeArmAtoms, hx]))
  have hfound : s.vm.findClass Bundle.nN = some P1.m.cls := findClass_of_methodNamed hP1m
  have ecls : N.cN = P1.m.cls := Option.some.inj (hcN.symm.trans hfound)
  have hk : s.vm.classes[P1.m.cls]? = some N.kN := by rw [← ecls]; exact LN.cls
  have hinit := Cond.initialized_spec hfound hk (a' (.initialized Bundle.nN) (by simp [Bundle.npeArmAtoms]))
  have hctor : N.kN.findMethod "<init>" "()V" = some P1.m.idx := findMethod_of_methodNamed hP1m hk
  obtain ⟨c1, k1, hc1, hk1, -, -, -, hn⟩ := Cond.instantiable_spec (a' (.instantiable Bundle.nN n) (by simp [Bundle.npeArmAtoms]))
  cases Option.some.inj (hc1.symm.trans hfound)
  cases Option.some.inj (hk1.symm.trans hk)
  have hfsz : (freshCell P1.m.cls N.kN).slots.size = n := by simp [hn]
  have hlink1 : P1.sup = PR.m := Option.some.inj (hP1s.symm.trans hPRm)
  have hlinkR : PR.sup = PE.m := Option.some.inj (hPRs.symm.trans hPEm)
  have hlinkE : PE.sup = Z.m T.toThrowableT := Option.some.inj (hPEs.symm.trans Y.init0)
  have hLs : ∀ P, P ∈ [PR, PE] → P.Links0 e.platform s := fun P hP => by
    simp only [List.mem_cons, List.not_mem_nil, or_false] at hP
    rcases hP with rfl | rfl
    · exact LR
    · exact LEx
  have hsel0 : selectMethod e.platform s.vm P1.m.cls T.fill0 = .method T.fill0 := by
    obtain ⟨c2, r2, m2, q1, q2, q3, q4, -⟩ := Cond.selects_spec (a' (.selects Bundle.nN Bundle.tFill0 Bundle.tFill0) (by simp [Bundle.npeArmAtoms]))
    cases Option.some.inj (q1.symm.trans hfound)
    cases Option.some.inj (q2.symm.trans (State.methodFound?_of_named Y.fill0 (by decide)))
    cases Option.some.inj (q3.symm.trans Y.fill0)
    rw [Launch.admits_selectMethod X.admits]; exact q4
  have hselF : selectMethod e.platform s.vm P1.m.cls T.fill = .method N.fill := by
    obtain ⟨c2, r2, m2, q1, q2, q3, q4, -⟩ := Cond.selects_spec (a' (.selects Bundle.nN Bundle.tFill Bundle.nFill) (by simp [Bundle.npeArmAtoms]))
    cases Option.some.inj (q1.symm.trans hfound)
    cases Option.some.inj (q2.symm.trans (State.methodFound?_of_named Y.fill (by decide)))
    cases Option.some.inj (q3.symm.trans hnNF)
    rw [Launch.admits_selectMethod X.admits]; exact q4
  obtain ⟨cellS0, hcS0, hiss⟩ := Y.statics
  obtain ⟨u0, hu0⟩ := Cond.staticRefV Y.unassigned L.unassignedStatic L.statics hcS0 hiss (a' (.isRef (.static Bundle.tN "UNASSIGNED_STACK" Bundle.steD)) (by simp [Bundle.npeArmAtoms]))
  obtain ⟨sen, hsen⟩ := Cond.staticRefV Y.sentinel L.sentinelStatic L.statics hcS0 hiss (a' (.isRef (.static Bundle.tN "SUPPRESSED_SENTINEL" Bundle.listD)) (by simp [Bundle.npeArmAtoms]))
  obtain ⟨ci198, i198, fB, hk198, hg198, ha198, hsB, -, hnB, htB, hffB⟩ := Cond.ownField (t := .object "java/lang/Object") Y.found L.cls (by decide +kernel) (a' (.fieldLink Bundle.tN 198 Bundle.tN "backtrace" Bundle.objD) (by simp [Bundle.npeArmAtoms])) (a' (.lays Bundle.tN Bundle.tN "backtrace" Bundle.objD) (by simp [Bundle.npeArmAtoms])) e.platform hpl
  obtain ⟨cellS, hcS', heS, -, hkeep⟩ := X.same.2.2.2.2.2 T.aS cellS0 hcS0
  have hcellS : W.heap[T.aS]? = some cellS := hcS'
  have hout' : ∀ i, (⟨T.aS, i⟩ : Loc) ∉ locs := fun i hmem => by
    have := hlocs _ hmem cellS0 hcS0
    rw [hiss] at this; cases this
  have hknownS : cellS.vm ≠ .unknown := by
    rw [heS]; intro hu
    rw [show cellS0.vm = .unknown from hu] at hiss
    cases hiss
  have hvU : cellS.slots[T.fUnassigned.slot]? = some u0.v := by rw [hkeep _ (hout' _)]; exact hu0
  have hvSen : cellS.slots[T.fSentinel.slot]? = some sen.v := by rw [hkeep _ (hout' _)]; exact hsen
  obtain ⟨tyC, dC, hdC, hdnC⟩ := Cond.laysAt hfound hk Y.cause (a' (.lays Bundle.nN Bundle.tN "cause" "Ljava/lang/Throwable;") (by simp [Bundle.npeArmAtoms]))
  obtain ⟨tyS, dS, hdS, hdnS⟩ := Cond.laysAt hfound hk Y.stack (a' (.lays Bundle.nN Bundle.tN "stackTrace" Bundle.steD) (by simp [Bundle.npeArmAtoms]))
  obtain ⟨tyP, dP, hdP, hdnP⟩ := Cond.laysAt hfound hk Y.supp (a' (.lays Bundle.nN Bundle.tN "suppressedExceptions" Bundle.listD) (by simp [Bundle.npeArmAtoms]))
  obtain ⟨tyX, dX, hdX, hdnX⟩ := Cond.laysAt hfound hk hffS (a' (.lays Bundle.nN Bundle.nN "extendedMessageState" "I") (by simp [Bundle.npeArmAtoms, Bundle.npeAtoms]))
  obtain ⟨hnX, htX⟩ := State.fieldFound?_type hffS (t := .int) (by decide +kernel)
  have xC := Cond.laysApart hdC hdX hdnC hdnX (by rw [hnX, Y.causeName]; decide)
  have xS := Cond.laysApart hdS hdX hdnS hdnX (by rw [hnX, Y.stackName]; decide)
  have xP := Cond.laysApart hdP hdX hdnP hdnX (by rw [hnX, Y.suppName]; decide)
  have hv0 : (freshCell P1.m.cls N.kN).slots[N.fState.slot]? = some (.int 0) := by
    have := fresh_default (c := P1.m.cls) tyX
    rw [htX] at this; exact this
  obtain ⟨tyB, dB, hdB, hdnB⟩ := Cond.laysAt hfound hk hffB (a' (.lays Bundle.nN Bundle.tN "backtrace" Bundle.objD) (by simp [Bundle.npeArmAtoms]))
  have bC := Cond.laysApart hdB hdC hdnB hdnC (by rw [hnB, Y.causeName]; decide)
  have bS := Cond.laysApart hdB hdS hdnB hdnS (by rw [hnB, Y.stackName]; decide)
  have bP := Cond.laysApart hdB hdP hdnB hdnP (by rw [hnB, Y.suppName]; decide)
  have bX := Cond.laysApart hdB hdX hdnB hdnX (by rw [hnB, hnX]; decide)
  have hbk : ((npeCell N.toNpeT (preparedCellV T.toThrowableT (freshCell P1.m.cls N.kN) W.heap.size u0 sen) W.cur).withEntry W.cur).slots[fB.slot]? = some .null := by
    have := fresh_default (c := P1.m.cls) tyB
    rw [htB] at this
    simpa [npeCell, preparedCellV, Cell.setSlot, Cell.withEntry, Array.getElem?_setIfInBounds, bC, bS, bP, bX, bC.symm, bS.symm, bP.symm, bX.symm, defaultValue] using this
  have tkC := Takes.of_laid (v := .ref W.heap.size) hk hordN tyC (by rw [Y.causeType]; rfl)
  have tkS := Takes.of_laid (v := u0.v) hk hordN tyS (by rw [Y.stackType]; exact fits_refV_array _ u0)
  have tkP := Takes.of_laid (v := sen.v) hk hordN tyP (by rw [Y.suppType]; exact fits_refV_object _ sen)
  have tkX := Takes.of_laid (v := .int 1) hk hordN tyX (by rw [htX]; rfl)
  have hskip : SkipFacts T e.platform s (fun u => u) u0 ((npeCell N.toNpeT (preparedCellV T.toThrowableT (freshCell P1.m.cls N.kN) W.heap.size u0 sen) W.cur).withEntry W.cur) := ⟨{ ci198 := ci198, i198 := i198, fBack := fB }, ⟨hk198, hg198, ha198, hsB⟩, hbk, fun _ _ => rfl⟩
  obtain ⟨vm', X3, st, -⟩ := X.throwsNpeColdBareVAt hexec hg hsize T L Z LZ N LN P1 L1 [PR, PE] hLs hlink1 ⟨hlinkR, hlinkE, trivial⟩ hfound hk hinit hordN hctor hsel0 hselF hcellS hknownS hvU hvSen
    hv0 xC xS xP tkC tkS tkP tkX Y.objLocals hskip (fun _ _ hA hW _ hroom _ hrest => L.nativeOff p htr hA hW hroom hrest) (by simpa using hRframes) hRlocals (by simp) hRcells (by rw [hn]; exact hRslots)
  have hlt : W.heap.size < ((W.pushCell (freshCell P1.m.cls N.kN)).setVm vm').heap.size := by
    show W.heap.size < (W.pushCell (freshCell P1.m.cls N.kN)).heap.size
    rw [State.heap_size_pushCell]; omega
  rw [hfsz] at X3
  obtain ⟨g₁, hfrM⟩ := X3.frames_eq
  have hU : ((((W.pushCell (freshCell P1.m.cls N.kN)).setVm vm').setCell W.heap.size (npeBareV T.toThrowableT N.toNpeT (freshCell P1.m.cls N.kN) W.heap.size u0 sen)).setTop g).pushFrame (.throwing W.heap.size) = (((W.pushCell (freshCell P1.m.cls N.kN)).setVm vm').setCell W.heap.size (npeBareV T.toThrowableT N.toNpeT (freshCell P1.m.cls N.kN) W.heap.size u0 sen)).setFrames (.throwing W.heap.size :: .java g :: below) := by
    rw [State.pushFrame, State.frames_setTop _ hfrM, State.setTop_of_frames _ hfrM, State.setFrames_setFrames]
  refine ⟨_, W.heap.size, _, fun target ht => st.trans (by rw [← hU]; exact ht), X3.forget (fun y hy => ?_), heapAt_setCell_self _ hlt, hfound, rfl⟩
  simp only [List.mem_cons, List.not_mem_nil, or_false] at hy
  have hge : s.heap.size ≤ W.heap.size := X.same.2.1
  rcases hy with rfl | rfl | rfl | rfl | rfl <;> exact hge
/-- the words of a machine's NullPointerException, but the four that speak of the heap -/
def vx_atN (n : Nat) : List Cond := (Bundle.npeArmAtoms n).filter vx_no
/-- the words of a machine's throw with a message, but the four that speak of the heap -/
def vx_atM (X : String) (names : List String) : List Cond := (Bundle.messageArmAtoms X names).filter vx_no
section
variable {p : Program} {l : Launch} {e : Env} {R : Room} {s : State} {m : MethodId} {args : Array Value} {below : List Frame} {meth : Method} {c : Code} {H : Heap} {locs : List Loc} {cells slots : Nat}
/-- a frame seen from a rebased start, seen from the first start again -/
theorem vx_back9 {T S : State} {R' : Room} {k n : Nat} (X : Stand p l e R s m args below meth c T locs cells slots) (Y : Stand p l e R' ((T.setVm s.vm).setFrames (.invoking m args :: below)) m args below meth c T [] 0 0) (Z : Stand p l e R' ((T.setVm s.vm).setFrames (.invoking m args :: below)) m args below meth c S [] k n) :
    Stand p l e R s m args below meth c S locs (cells + k) (slots + n) := by
  have hW0 : s.WarmedH ((T.setVm s.vm).setFrames (.invoking m args :: below)).vm := State.WarmedH.refl s
  refine { admits := X.admits, cas := X.cas, clock := X.clock, frames := X.frames, room := X.room, hears := X.hears, method := X.method, code := X.code, here := Z.here, tail := Z.tail, warmed := State.WarmedH.trans hW0 Z.warmed, limits := Z.limits.trans (Y.limits.symm.trans X.limits), bytes := Z.bytes.trans (Y.bytes.symm.trans X.bytes), same := ?_ }
  obtain ⟨e1, e2⟩ := Z.same
  rw [State.setFrames_setFrames] at e1
  have h2 : (T.setVm s.vm).sameButNew (S.setVm s.vm) [] k n := ⟨e1, e2⟩
  have h3 := X.same.trans h2
  rw [List.append_nil] at h3
  exact h3
/-- from the machine's note that E is thrown here with this text -/
def vx_Note (p : Program) (l : Launch) (e : Env) (R : Room) (s : State) (m : MethodId) (args : Array Value) (below : List Frame) (meth : Method) (c : Code) (H : Heap) (locs : List Loc) (cells slots : Nat) (Q : State → Prop) (g : JFrame) (E text : String) : Prop :=
  ∀ T : State, T.heap = H → Stand p l e R s m args below meth c T locs cells slots → ∃ t, Steps p.tables e below ((T.setTop g).pushFrame (.throwNew E (some text) none)) t ∧ Q t
theorem vx_vm {pc : Nat} {ls : Array Slot} {rest : List Value} {Q : State → Prop} (hexec : p.tables.exec = Jvm.exec) (hl : l.stackTraces = false) {cls text : String} {names : List String} {nb : Nat} {A : Nat → Prop}
    (hcls : Bundle.fit cls = true) (hnames : ∀ n ∈ names, Bundle.fit n = true) (hsoe : (cls == "java/lang/StackOverflowError") = false) (hoom : (cls == "java/lang/OutOfMemoryError") = false)
    (hat : ∀ w ∈ vx_atM cls names, w.before args s = true) (hgood : ∀ w ∈ vx_atM cls names, vx_ot w = true)
    (hU : vx_Zq Bundle.tN "UNASSIGNED_STACK" Bundle.steD A s s.heap) (hN : vx_Zq Bundle.tN "SUPPRESSED_SENTINEL" Bundle.listD A s s.heap) (hS : va_S A s.heap H locs) (hsize : ls.size = c.maxLocals)
    (htext : (text == notModelled) = false) (hnb : (stringBytes (stringToUtf16 text)).size ≤ nb) (hnb1 : nb ≤ 1000)
    (hRframes : names.length + 4 < R.frames) (hRlocals : (rest.map fun v => v.category).sum + 10240 ≤ R.locals) (hshort : 13 * names.length + 55 ≤ 10240) (hRcells : cells + 3 ≤ R.cells) (hRslots : slots + (nb + 10) ≤ R.slots) (hlocks : meth.locks = false)
    (k : ∀ (H1 : Heap) (q9 : Addr) (ce : Cell), H.size ≤ H1.size → (∀ q : Nat, q < H.size → H1[q]? = H[q]?) → va_S A s.heap H1 locs → H1[q9]? = some ce → ce.vm = .none → s.vm.findClass cls = some ce.cls → vx_W p l e R s m args below meth c H1 locs (cells + 3) (slots + (nb + 10)) Q (F0 m pc ls rest) q9) :
    vx_Note p l e R s m args below meth c H locs cells slots Q (F0 m pc ls rest) cls text := by
  intro T hT X
  have htr : e.platform.stackTraces = false := (show e.platform.stackTraces = l.stackTraces by rw [X.admits.platform]).trans hl
  have Y := vx_rebase X (R' := { frames := R.frames, locals := R.locals, cells := 3, slots := nb + 10 }) (Nat.le_refl _) (Nat.le_refl _) hRcells hRslots
  have hhp : ((T.setVm s.vm).setFrames (.invoking m args :: below)).heap = H := hT
  have hW0 : s.WarmedH ((T.setVm s.vm).setFrames (.invoking m args :: below)).vm := State.WarmedH.refl s
  have hat' : ∀ w ∈ vx_atM cls names, w.before args ((T.setVm s.vm).setFrames (.invoking m args :: below)) = true := fun w hw => vx_ot_at hW0 rfl (hgood w hw) (hat w hw)
  have hU' : vx_Zq Bundle.tN "UNASSIGNED_STACK" Bundle.steD A ((T.setVm s.vm).setFrames (.invoking m args :: below)) ((T.setVm s.vm).setFrames (.invoking m args :: below)).heap := by rw [hhp]; exact vx_Zq.moved hW0.alike (hU.kept hS.2.1)
  have hN' : vx_Zq Bundle.tN "SUPPRESSED_SENTINEL" Bundle.listD A ((T.setVm s.vm).setFrames (.invoking m args :: below)) ((T.setVm s.vm).setFrames (.invoking m args :: below)).heap := by rw [hhp]; exact vx_Zq.moved hW0.alike (hN.kept hS.2.1)
  obtain ⟨S, q, ce, st, Z, hce, hcl', hv⟩ := vx_vmAt Y hexec htr (cls := cls) (names := names) (text := text) hcls hnames hsoe hoom (vx_own hat' (vx_isRefq hU'.1) (vx_isRefq hN'.1) hU'.2.word hN'.2.word) (fun x hx => nomatch hx) htext
    (by rw [Launch.admits_arrayLengthLimit X.admits]; omega) (by rw [Launch.admits_maxHeapBytes X.admits]; simp only [componentBytes]; omega)
    (g := F0 m pc ls rest) rfl hsize hRframes (by show 2 * 0 + (rest.map fun v => v.category).sum + 10240 ≤ R.locals; omega) hshort (by show 0 + 3 ≤ 3; omega) (by show 0 + (_ + 4 + 6) ≤ nb + 10; omega) hlocks
  obtain ⟨f1, f2⟩ := vx_frame Z.same
  have f1' : H.size ≤ S.heap.size := by rw [← hT]; exact f1
  have f2' : ∀ q : Nat, q < H.size → S.heap[q]? = H[q]? := fun q hq => by
    rw [← hT]
    exact f2 q (by rw [← hT] at hq; exact hq) (fun z hz => nomatch hz)
  have X5 := vx_back9 X Y Z
  have X6 : Stand p l e R s m args below meth c S locs (cells + 3) (slots + (nb + 10)) := { X5 with same := X5.same.mono (by omega) (by omega) }
  obtain ⟨t, a1, b1⟩ := k S.heap q ce f1' f2' ⟨Nat.le_trans hS.1 f1', fun q h1 h2 => (f2' q (Nat.lt_of_lt_of_le h1 hS.1)).trans (hS.2.1 q h1 h2), hS.2.2⟩ hce hv hcl' S rfl X6
  exact ⟨t, st t a1, b1⟩
/-- from the machine's note that NullPointerException is thrown here -/
def vx_NoteN (p : Program) (l : Launch) (e : Env) (R : Room) (s : State) (m : MethodId) (args : Array Value) (below : List Frame) (meth : Method) (c : Code) (H : Heap) (locs : List Loc) (cells slots : Nat) (Q : State → Prop) (g : JFrame) : Prop :=
  ∀ T : State, T.heap = H → Stand p l e R s m args below meth c T locs cells slots → ∃ t, Steps p.tables e below ((T.setTop g).pushFrame (.throwNew "java/lang/NullPointerException" none none)) t ∧ Q t
theorem vx_npe {pc : Nat} {ls : Array Slot} {rest : List Value} {Q : State → Prop} (hexec : p.tables.exec = Jvm.exec) (hl : l.stackTraces = false) {nb : Nat} {A : Nat → Prop}
    (hat : ∀ w ∈ vx_atN nb, w.before args s = true) (hgood : ∀ w ∈ vx_atN nb, vx_ot w = true)
    (hU : vx_Zq Bundle.tN "UNASSIGNED_STACK" Bundle.steD A s s.heap) (hN : vx_Zq Bundle.tN "SUPPRESSED_SENTINEL" Bundle.listD A s s.heap) (hS : va_S A s.heap H locs) (hsize : ls.size = c.maxLocals)
    (hRframes : 7 < R.frames) (hRlocals : (rest.map fun v => v.category).sum + 10240 ≤ R.locals) (hRcells : cells + 1 ≤ R.cells) (hRslots : slots + nb ≤ R.slots) (hlocks : meth.locks = false)
    (k : ∀ (H1 : Heap) (q9 : Addr) (ce : Cell), H.size ≤ H1.size → (∀ q : Nat, q < H.size → H1[q]? = H[q]?) → va_S A s.heap H1 locs → H1[q9]? = some ce → ce.vm = .none → s.vm.findClass "java/lang/NullPointerException" = some ce.cls → vx_W p l e R s m args below meth c H1 locs (cells + 1) (slots + nb) Q (F0 m pc ls rest) q9) :
    vx_NoteN p l e R s m args below meth c H locs cells slots Q (F0 m pc ls rest) := by
  intro T hT X
  have htr : e.platform.stackTraces = false := (show e.platform.stackTraces = l.stackTraces by rw [X.admits.platform]).trans hl
  have Y := vx_rebase X (R' := { frames := R.frames, locals := R.locals, cells := 1, slots := nb }) (Nat.le_refl _) (Nat.le_refl _) hRcells hRslots
  have hhp : ((T.setVm s.vm).setFrames (.invoking m args :: below)).heap = H := hT
  have hW0 : s.WarmedH ((T.setVm s.vm).setFrames (.invoking m args :: below)).vm := State.WarmedH.refl s
  have hat' : ∀ w ∈ vx_atN nb, w.before args ((T.setVm s.vm).setFrames (.invoking m args :: below)) = true := fun w hw => vx_ot_at hW0 rfl (hgood w hw) (hat w hw)
  have hU' : vx_Zq Bundle.tN "UNASSIGNED_STACK" Bundle.steD A ((T.setVm s.vm).setFrames (.invoking m args :: below)) ((T.setVm s.vm).setFrames (.invoking m args :: below)).heap := by rw [hhp]; exact vx_Zq.moved hW0.alike (hU.kept hS.2.1)
  have hN' : vx_Zq Bundle.tN "SUPPRESSED_SENTINEL" Bundle.listD A ((T.setVm s.vm).setFrames (.invoking m args :: below)) ((T.setVm s.vm).setFrames (.invoking m args :: below)).heap := by rw [hhp]; exact vx_Zq.moved hW0.alike (hN.kept hS.2.1)
  obtain ⟨S, q, ce, st, Z, hce, hcl', hv⟩ := vx_npeAt Y hexec htr (n := nb) (vx_own hat' (vx_isRefq hU'.1) (vx_isRefq hN'.1) hU'.2.word hN'.2.word) (fun x hx => nomatch hx)
    (g := F0 m pc ls rest) rfl hsize hRframes (by show 2 * 0 + (rest.map fun v => v.category).sum + 10240 ≤ R.locals; omega) (by show 0 + 1 ≤ 1; omega) (by show 0 + nb ≤ nb; omega) hlocks
  obtain ⟨f1, f2⟩ := vx_frame Z.same
  have f1' : H.size ≤ S.heap.size := by rw [← hT]; exact f1
  have f2' : ∀ q : Nat, q < H.size → S.heap[q]? = H[q]? := fun q hq => by
    rw [← hT]
    exact f2 q (by rw [← hT] at hq; exact hq) (fun z hz => nomatch hz)
  have X5 := vx_back9 X Y Z
  have X6 : Stand p l e R s m args below meth c S locs (cells + 1) (slots + nb) := { X5 with same := X5.same.mono (by omega) (by omega) }
  obtain ⟨t, a1, b1⟩ := k S.heap q ce f1' f2' ⟨Nat.le_trans hS.1 f1', fun q h1 h2 => (f2' q (Nat.lt_of_lt_of_le h1 hS.1)).trans (hS.2.1 q h1 h2), hS.2.2⟩ hce hv hcl' S rfl X6
  exact ⟨t, st t a1, b1⟩
variable {Q : State → Prop} {cc : ByteArray} {pc : Nat} {ls : Array Slot} {rest : List Value}
theorem vx_idivZ (hexec : p.tables.exec = Jvm.exec) (hb : c.code = cc) {a b : Int32} (h0 : b = 0) (d : decode cc pc = .ok (.idiv, 1)) (k : vx_Note p l e R s m args below meth c H locs cells slots Q (F0 m pc ls rest) "java/lang/ArithmeticException" "/ by zero") :
    W p l e R s m args below meth c H locs cells slots Q (F0 m pc ls (.int b :: .int a :: rest)) := by
  intro T hT X
  obtain ⟨t, st, q⟩ := k T hT X
  exact ⟨t, X.idivZero hexec (g := F0 m pc ls (.int b :: .int a :: rest)) rfl (a := a) (rest := rest) (by rw [h0]) (by rw [hb]; exact d) t st, q⟩
theorem vx_iremZ (hexec : p.tables.exec = Jvm.exec) (hb : c.code = cc) {a b : Int32} (h0 : b = 0) (d : decode cc pc = .ok (.irem, 1)) (k : vx_Note p l e R s m args below meth c H locs cells slots Q (F0 m pc ls rest) "java/lang/ArithmeticException" "/ by zero") :
    W p l e R s m args below meth c H locs cells slots Q (F0 m pc ls (.int b :: .int a :: rest)) := by
  intro T hT X
  obtain ⟨t, st, q⟩ := k T hT X
  exact ⟨t, X.iremZero hexec (g := F0 m pc ls (.int b :: .int a :: rest)) rfl (a := a) (rest := rest) (by rw [h0]) (by rw [hb]; exact d) t st, q⟩
theorem vx_ldivZ (hexec : p.tables.exec = Jvm.exec) (hb : c.code = cc) {a b : Int64} (h0 : b = 0) (d : decode cc pc = .ok (.ldiv, 1)) (k : vx_Note p l e R s m args below meth c H locs cells slots Q (F0 m pc ls rest) "java/lang/ArithmeticException" "/ by zero") :
    W p l e R s m args below meth c H locs cells slots Q (F0 m pc ls (.long b :: .long a :: rest)) := by
  intro T hT X
  obtain ⟨t, st, q⟩ := k T hT X
  exact ⟨t, X.ldivZero hexec (g := F0 m pc ls (.long b :: .long a :: rest)) rfl (a := a) (rest := rest) (by rw [h0]) (by rw [hb]; exact d) t st, q⟩
theorem vx_lremZ (hexec : p.tables.exec = Jvm.exec) (hb : c.code = cc) {a b : Int64} (h0 : b = 0) (d : decode cc pc = .ok (.lrem, 1)) (k : vx_Note p l e R s m args below meth c H locs cells slots Q (F0 m pc ls rest) "java/lang/ArithmeticException" "/ by zero") :
    W p l e R s m args below meth c H locs cells slots Q (F0 m pc ls (.long b :: .long a :: rest)) := by
  intro T hT X
  obtain ⟨t, st, q⟩ := k T hT X
  exact ⟨t, X.lremZero hexec (g := F0 m pc ls (.long b :: .long a :: rest)) rfl (a := a) (rest := rest) (by rw [h0]) (by rw [hb]; exact d) t st, q⟩
theorem vx_ialdZ {D : va_G} {cl : List vw_C} {ws : va_W} {tys : List (ClassId × FieldType)} {a : Nat} (hexec : p.tables.exec = Jvm.exec) (hb : c.code = cc) (hK : va_K D cl tys s) (hP : va_P D cl ws H) (q0 t0 : Nat) {cA : ClassId} {n : Nat} {f : Nat → Int32} (ha : ws[q0]? = some (a, .inl (cA, n, .inl f))) (ht : tys[t0]? = some (cA, .int)) {i : Int32} (hout : ¬ vp_in i n) (hdg : decode cc pc = .ok (.iaload, 1))
    (k : ∀ tx : String, tx = (toString "Index " ++ toString i ++ toString " out of bounds for length " ++ toString n : String) → vx_Note p l e R s m args below meth c H locs cells slots Q (F0 m pc ls rest) "java/lang/ArrayIndexOutOfBoundsException" tx) : W p l e R s m args below meth c H locs cells slots Q (F0 m pc ls (.int i :: .ref a :: rest)) := by
  intro T hT X
  obtain ⟨t, st, q⟩ := k _ rfl T hT X
  refine ⟨t, ?_, q⟩
  have h1 := X.ialoadOut hexec (by rw [hT]; exact hP q0 _ ha) ((hK.2 t0 _ ht).1 n (fun j => .int (f j))) (j := i) (by show (i < 0 ∨ (arrV _ _ _).slots.size ≤ _); rw [arrV_size]; exact Classical.byContradiction hout) (g := F0 m pc ls (.int i :: .ref a :: rest)) rfl (rest := rest) rfl (by rw [hb]; exact hdg) t
  simp only [arrV_size] at h1
  exact h1 st
theorem vx_iastZ {D : va_G} {cl : List vw_C} {ws : va_W} {tys : List (ClassId × FieldType)} {a : Nat} (hexec : p.tables.exec = Jvm.exec) (hb : c.code = cc) (hK : va_K D cl tys s) (hP : va_P D cl ws H) (q0 t0 : Nat) {cA : ClassId} {n : Nat} {f : Nat → Int32} (ha : ws[q0]? = some (a, .inl (cA, n, .inl f))) (ht : tys[t0]? = some (cA, .int)) {i : Int32} {x : Int32} (hout : ¬ vp_in i n) (hdg : decode cc pc = .ok (.iastore, 1))
    (k : ∀ tx : String, tx = (toString "Index " ++ toString i ++ toString " out of bounds for length " ++ toString n : String) → vx_Note p l e R s m args below meth c H locs cells slots Q (F0 m pc ls rest) "java/lang/ArrayIndexOutOfBoundsException" tx) : W p l e R s m args below meth c H locs cells slots Q (F0 m pc ls (.int x :: .int i :: .ref a :: rest)) := by
  intro T hT X
  obtain ⟨t, st, q⟩ := k _ rfl T hT X
  refine ⟨t, ?_, q⟩
  have h1 := X.iastoreOut hexec (by rw [hT]; exact hP q0 _ ha) ((hK.2 t0 _ ht).1 n (fun j => .int (f j))) (j := i) (by show (i < 0 ∨ (arrV _ _ _).slots.size ≤ _); rw [arrV_size]; exact Classical.byContradiction hout) (g := F0 m pc ls (.int x :: .int i :: .ref a :: rest)) rfl (rest := rest) rfl (by rw [hb]; exact hdg) t
  simp only [arrV_size] at h1
  exact h1 st
theorem vx_baldZ {D : va_G} {cl : List vw_C} {ws : va_W} {tys : List (ClassId × FieldType)} {a : Nat} (hexec : p.tables.exec = Jvm.exec) (hb : c.code = cc) (hK : va_K D cl tys s) (hP : va_P D cl ws H) (q0 t0 : Nat) {cA : ClassId} {n : Nat} {f : Nat → Int32} (ha : ws[q0]? = some (a, .inl (cA, n, .inl f))) (ht : tys[t0]? = some (cA, .byte)) {i : Int32} (hout : ¬ vp_in i n) (hdg : decode cc pc = .ok (.baload, 1))
    (k : ∀ tx : String, tx = (toString "Index " ++ toString i ++ toString " out of bounds for length " ++ toString n : String) → vx_Note p l e R s m args below meth c H locs cells slots Q (F0 m pc ls rest) "java/lang/ArrayIndexOutOfBoundsException" tx) : W p l e R s m args below meth c H locs cells slots Q (F0 m pc ls (.int i :: .ref a :: rest)) := by
  intro T hT X
  obtain ⟨t, st, q⟩ := k _ rfl T hT X
  refine ⟨t, ?_, q⟩
  have h1 := X.baloadOut hexec (by rw [hT]; exact hP q0 _ ha) ((hK.2 t0 _ ht).1 n (fun j => .int (f j))) (j := i) (by show (i < 0 ∨ (arrV _ _ _).slots.size ≤ _); rw [arrV_size]; exact Classical.byContradiction hout) (g := F0 m pc ls (.int i :: .ref a :: rest)) rfl (rest := rest) rfl (by rw [hb]; exact hdg) t
  simp only [arrV_size] at h1
  exact h1 st
theorem vx_bastZ {D : va_G} {cl : List vw_C} {ws : va_W} {tys : List (ClassId × FieldType)} {a : Nat} (hexec : p.tables.exec = Jvm.exec) (hb : c.code = cc) (hK : va_K D cl tys s) (hP : va_P D cl ws H) (q0 t0 : Nat) {cA : ClassId} {n : Nat} {f : Nat → Int32} (ha : ws[q0]? = some (a, .inl (cA, n, .inl f))) (ht : tys[t0]? = some (cA, .byte)) {i : Int32} {x : Int32} (hout : ¬ vp_in i n) (hdg : decode cc pc = .ok (.bastore, 1))
    (k : ∀ tx : String, tx = (toString "Index " ++ toString i ++ toString " out of bounds for length " ++ toString n : String) → vx_Note p l e R s m args below meth c H locs cells slots Q (F0 m pc ls rest) "java/lang/ArrayIndexOutOfBoundsException" tx) : W p l e R s m args below meth c H locs cells slots Q (F0 m pc ls (.int x :: .int i :: .ref a :: rest)) := by
  intro T hT X
  obtain ⟨t, st, q⟩ := k _ rfl T hT X
  refine ⟨t, ?_, q⟩
  have h1 := X.bastoreOut hexec (by rw [hT]; exact hP q0 _ ha) ((hK.2 t0 _ ht).1 n (fun j => .int (f j))) (j := i) (by show (i < 0 ∨ (arrV _ _ _).slots.size ≤ _); rw [arrV_size]; exact Classical.byContradiction hout) (g := F0 m pc ls (.int x :: .int i :: .ref a :: rest)) rfl (rest := rest) rfl (by rw [hb]; exact hdg) t
  simp only [arrV_size] at h1
  exact h1 st
theorem vx_zaldZ {D : va_G} {cl : List vw_C} {ws : va_W} {tys : List (ClassId × FieldType)} {a : Nat} (hexec : p.tables.exec = Jvm.exec) (hb : c.code = cc) (hK : va_K D cl tys s) (hP : va_P D cl ws H) (q0 t0 : Nat) {cA : ClassId} {n : Nat} {f : Nat → Int32} (ha : ws[q0]? = some (a, .inl (cA, n, .inl f))) (ht : tys[t0]? = some (cA, .boolean)) {i : Int32} (hout : ¬ vp_in i n) (hdg : decode cc pc = .ok (.baload, 1))
    (k : ∀ tx : String, tx = (toString "Index " ++ toString i ++ toString " out of bounds for length " ++ toString n : String) → vx_Note p l e R s m args below meth c H locs cells slots Q (F0 m pc ls rest) "java/lang/ArrayIndexOutOfBoundsException" tx) : W p l e R s m args below meth c H locs cells slots Q (F0 m pc ls (.int i :: .ref a :: rest)) := by
  intro T hT X
  obtain ⟨t, st, q⟩ := k _ rfl T hT X
  refine ⟨t, ?_, q⟩
  have h1 := X.baloadOut hexec (by rw [hT]; exact hP q0 _ ha) ((hK.2 t0 _ ht).1 n (fun j => .int (f j))) (j := i) (by show (i < 0 ∨ (arrV _ _ _).slots.size ≤ _); rw [arrV_size]; exact Classical.byContradiction hout) (g := F0 m pc ls (.int i :: .ref a :: rest)) rfl (rest := rest) rfl (by rw [hb]; exact hdg) t
  simp only [arrV_size] at h1
  exact h1 st
theorem vx_zastZ {D : va_G} {cl : List vw_C} {ws : va_W} {tys : List (ClassId × FieldType)} {a : Nat} (hexec : p.tables.exec = Jvm.exec) (hb : c.code = cc) (hK : va_K D cl tys s) (hP : va_P D cl ws H) (q0 t0 : Nat) {cA : ClassId} {n : Nat} {f : Nat → Int32} (ha : ws[q0]? = some (a, .inl (cA, n, .inl f))) (ht : tys[t0]? = some (cA, .boolean)) {i : Int32} {x : Int32} (hout : ¬ vp_in i n) (hdg : decode cc pc = .ok (.bastore, 1))
    (k : ∀ tx : String, tx = (toString "Index " ++ toString i ++ toString " out of bounds for length " ++ toString n : String) → vx_Note p l e R s m args below meth c H locs cells slots Q (F0 m pc ls rest) "java/lang/ArrayIndexOutOfBoundsException" tx) : W p l e R s m args below meth c H locs cells slots Q (F0 m pc ls (.int x :: .int i :: .ref a :: rest)) := by
  intro T hT X
  obtain ⟨t, st, q⟩ := k _ rfl T hT X
  refine ⟨t, ?_, q⟩
  have h1 := X.bastoreOut hexec (by rw [hT]; exact hP q0 _ ha) ((hK.2 t0 _ ht).1 n (fun j => .int (f j))) (j := i) (by show (i < 0 ∨ (arrV _ _ _).slots.size ≤ _); rw [arrV_size]; exact Classical.byContradiction hout) (g := F0 m pc ls (.int x :: .int i :: .ref a :: rest)) rfl (rest := rest) rfl (by rw [hb]; exact hdg) t
  simp only [arrV_size] at h1
  exact h1 st
theorem vx_caldZ {D : va_G} {cl : List vw_C} {ws : va_W} {tys : List (ClassId × FieldType)} {a : Nat} (hexec : p.tables.exec = Jvm.exec) (hb : c.code = cc) (hK : va_K D cl tys s) (hP : va_P D cl ws H) (q0 t0 : Nat) {cA : ClassId} {n : Nat} {f : Nat → Int32} (ha : ws[q0]? = some (a, .inl (cA, n, .inl f))) (ht : tys[t0]? = some (cA, .char)) {i : Int32} (hout : ¬ vp_in i n) (hdg : decode cc pc = .ok (.caload, 1))
    (k : ∀ tx : String, tx = (toString "Index " ++ toString i ++ toString " out of bounds for length " ++ toString n : String) → vx_Note p l e R s m args below meth c H locs cells slots Q (F0 m pc ls rest) "java/lang/ArrayIndexOutOfBoundsException" tx) : W p l e R s m args below meth c H locs cells slots Q (F0 m pc ls (.int i :: .ref a :: rest)) := by
  intro T hT X
  obtain ⟨t, st, q⟩ := k _ rfl T hT X
  refine ⟨t, ?_, q⟩
  have h1 := X.caloadOut hexec (by rw [hT]; exact hP q0 _ ha) ((hK.2 t0 _ ht).1 n (fun j => .int (f j))) (j := i) (by show (i < 0 ∨ (arrV _ _ _).slots.size ≤ _); rw [arrV_size]; exact Classical.byContradiction hout) (g := F0 m pc ls (.int i :: .ref a :: rest)) rfl (rest := rest) rfl (by rw [hb]; exact hdg) t
  simp only [arrV_size] at h1
  exact h1 st
theorem vx_castZ {D : va_G} {cl : List vw_C} {ws : va_W} {tys : List (ClassId × FieldType)} {a : Nat} (hexec : p.tables.exec = Jvm.exec) (hb : c.code = cc) (hK : va_K D cl tys s) (hP : va_P D cl ws H) (q0 t0 : Nat) {cA : ClassId} {n : Nat} {f : Nat → Int32} (ha : ws[q0]? = some (a, .inl (cA, n, .inl f))) (ht : tys[t0]? = some (cA, .char)) {i : Int32} {x : Int32} (hout : ¬ vp_in i n) (hdg : decode cc pc = .ok (.castore, 1))
    (k : ∀ tx : String, tx = (toString "Index " ++ toString i ++ toString " out of bounds for length " ++ toString n : String) → vx_Note p l e R s m args below meth c H locs cells slots Q (F0 m pc ls rest) "java/lang/ArrayIndexOutOfBoundsException" tx) : W p l e R s m args below meth c H locs cells slots Q (F0 m pc ls (.int x :: .int i :: .ref a :: rest)) := by
  intro T hT X
  obtain ⟨t, st, q⟩ := k _ rfl T hT X
  refine ⟨t, ?_, q⟩
  have h1 := X.castoreOut hexec (by rw [hT]; exact hP q0 _ ha) ((hK.2 t0 _ ht).1 n (fun j => .int (f j))) (j := i) (by show (i < 0 ∨ (arrV _ _ _).slots.size ≤ _); rw [arrV_size]; exact Classical.byContradiction hout) (g := F0 m pc ls (.int x :: .int i :: .ref a :: rest)) rfl (rest := rest) rfl (by rw [hb]; exact hdg) t
  simp only [arrV_size] at h1
  exact h1 st
theorem vx_saldZ {D : va_G} {cl : List vw_C} {ws : va_W} {tys : List (ClassId × FieldType)} {a : Nat} (hexec : p.tables.exec = Jvm.exec) (hb : c.code = cc) (hK : va_K D cl tys s) (hP : va_P D cl ws H) (q0 t0 : Nat) {cA : ClassId} {n : Nat} {f : Nat → Int32} (ha : ws[q0]? = some (a, .inl (cA, n, .inl f))) (ht : tys[t0]? = some (cA, .short)) {i : Int32} (hout : ¬ vp_in i n) (hdg : decode cc pc = .ok (.saload, 1))
    (k : ∀ tx : String, tx = (toString "Index " ++ toString i ++ toString " out of bounds for length " ++ toString n : String) → vx_Note p l e R s m args below meth c H locs cells slots Q (F0 m pc ls rest) "java/lang/ArrayIndexOutOfBoundsException" tx) : W p l e R s m args below meth c H locs cells slots Q (F0 m pc ls (.int i :: .ref a :: rest)) := by
  intro T hT X
  obtain ⟨t, st, q⟩ := k _ rfl T hT X
  refine ⟨t, ?_, q⟩
  have h1 := X.saloadOut hexec (by rw [hT]; exact hP q0 _ ha) ((hK.2 t0 _ ht).1 n (fun j => .int (f j))) (j := i) (by show (i < 0 ∨ (arrV _ _ _).slots.size ≤ _); rw [arrV_size]; exact Classical.byContradiction hout) (g := F0 m pc ls (.int i :: .ref a :: rest)) rfl (rest := rest) rfl (by rw [hb]; exact hdg) t
  simp only [arrV_size] at h1
  exact h1 st
theorem vx_sastZ {D : va_G} {cl : List vw_C} {ws : va_W} {tys : List (ClassId × FieldType)} {a : Nat} (hexec : p.tables.exec = Jvm.exec) (hb : c.code = cc) (hK : va_K D cl tys s) (hP : va_P D cl ws H) (q0 t0 : Nat) {cA : ClassId} {n : Nat} {f : Nat → Int32} (ha : ws[q0]? = some (a, .inl (cA, n, .inl f))) (ht : tys[t0]? = some (cA, .short)) {i : Int32} {x : Int32} (hout : ¬ vp_in i n) (hdg : decode cc pc = .ok (.sastore, 1))
    (k : ∀ tx : String, tx = (toString "Index " ++ toString i ++ toString " out of bounds for length " ++ toString n : String) → vx_Note p l e R s m args below meth c H locs cells slots Q (F0 m pc ls rest) "java/lang/ArrayIndexOutOfBoundsException" tx) : W p l e R s m args below meth c H locs cells slots Q (F0 m pc ls (.int x :: .int i :: .ref a :: rest)) := by
  intro T hT X
  obtain ⟨t, st, q⟩ := k _ rfl T hT X
  refine ⟨t, ?_, q⟩
  have h1 := X.sastoreOut hexec (by rw [hT]; exact hP q0 _ ha) ((hK.2 t0 _ ht).1 n (fun j => .int (f j))) (j := i) (by show (i < 0 ∨ (arrV _ _ _).slots.size ≤ _); rw [arrV_size]; exact Classical.byContradiction hout) (g := F0 m pc ls (.int x :: .int i :: .ref a :: rest)) rfl (rest := rest) rfl (by rw [hb]; exact hdg) t
  simp only [arrV_size] at h1
  exact h1 st
theorem vx_laldZ {D : va_G} {cl : List vw_C} {ws : va_W} {tys : List (ClassId × FieldType)} {a : Nat} (hexec : p.tables.exec = Jvm.exec) (hb : c.code = cc) (hK : va_K D cl tys s) (hP : va_P D cl ws H) (q0 t0 : Nat) {cA : ClassId} {n : Nat} {f : Nat → Int64} (ha : ws[q0]? = some (a, .inl (cA, n, .inr (.inl f)))) (ht : tys[t0]? = some (cA, .long)) {i : Int32} (hout : ¬ vp_in i n) (hdg : decode cc pc = .ok (.laload, 1))
    (k : ∀ tx : String, tx = (toString "Index " ++ toString i ++ toString " out of bounds for length " ++ toString n : String) → vx_Note p l e R s m args below meth c H locs cells slots Q (F0 m pc ls rest) "java/lang/ArrayIndexOutOfBoundsException" tx) : W p l e R s m args below meth c H locs cells slots Q (F0 m pc ls (.int i :: .ref a :: rest)) := by
  intro T hT X
  obtain ⟨t, st, q⟩ := k _ rfl T hT X
  refine ⟨t, ?_, q⟩
  have h1 := X.laloadOut hexec (by rw [hT]; exact hP q0 _ ha) ((hK.2 t0 _ ht).1 n (fun j => .long (f j))) (j := i) (by show (i < 0 ∨ (arrV _ _ _).slots.size ≤ _); rw [arrV_size]; exact Classical.byContradiction hout) (g := F0 m pc ls (.int i :: .ref a :: rest)) rfl (rest := rest) rfl (by rw [hb]; exact hdg) t
  simp only [arrV_size] at h1
  exact h1 st
theorem vx_lastZ {D : va_G} {cl : List vw_C} {ws : va_W} {tys : List (ClassId × FieldType)} {a : Nat} (hexec : p.tables.exec = Jvm.exec) (hb : c.code = cc) (hK : va_K D cl tys s) (hP : va_P D cl ws H) (q0 t0 : Nat) {cA : ClassId} {n : Nat} {f : Nat → Int64} (ha : ws[q0]? = some (a, .inl (cA, n, .inr (.inl f)))) (ht : tys[t0]? = some (cA, .long)) {i : Int32} {x : Int64} (hout : ¬ vp_in i n) (hdg : decode cc pc = .ok (.lastore, 1))
    (k : ∀ tx : String, tx = (toString "Index " ++ toString i ++ toString " out of bounds for length " ++ toString n : String) → vx_Note p l e R s m args below meth c H locs cells slots Q (F0 m pc ls rest) "java/lang/ArrayIndexOutOfBoundsException" tx) : W p l e R s m args below meth c H locs cells slots Q (F0 m pc ls (.long x :: .int i :: .ref a :: rest)) := by
  intro T hT X
  obtain ⟨t, st, q⟩ := k _ rfl T hT X
  refine ⟨t, ?_, q⟩
  have h1 := X.lastoreOut hexec (by rw [hT]; exact hP q0 _ ha) ((hK.2 t0 _ ht).1 n (fun j => .long (f j))) (j := i) (by show (i < 0 ∨ (arrV _ _ _).slots.size ≤ _); rw [arrV_size]; exact Classical.byContradiction hout) (g := F0 m pc ls (.long x :: .int i :: .ref a :: rest)) rfl (rest := rest) rfl (by rw [hb]; exact hdg) t
  simp only [arrV_size] at h1
  exact h1 st
theorem vx_faldZ {D : va_G} {cl : List vw_C} {ws : va_W} {tys : List (ClassId × FieldType)} {a : Nat} (hexec : p.tables.exec = Jvm.exec) (hb : c.code = cc) (hK : va_K D cl tys s) (hP : va_P D cl ws H) (q0 t0 : Nat) {cA : ClassId} {n : Nat} {f : Nat → UInt32} (ha : ws[q0]? = some (a, .inl (cA, n, .inr (.inr (.inl f))))) (ht : tys[t0]? = some (cA, .float)) {i : Int32} (hout : ¬ vp_in i n) (hdg : decode cc pc = .ok (.faload, 1))
    (k : ∀ tx : String, tx = (toString "Index " ++ toString i ++ toString " out of bounds for length " ++ toString n : String) → vx_Note p l e R s m args below meth c H locs cells slots Q (F0 m pc ls rest) "java/lang/ArrayIndexOutOfBoundsException" tx) : W p l e R s m args below meth c H locs cells slots Q (F0 m pc ls (.int i :: .ref a :: rest)) := by
  intro T hT X
  obtain ⟨t, st, q⟩ := k _ rfl T hT X
  refine ⟨t, ?_, q⟩
  have h1 := X.faloadOut hexec (by rw [hT]; exact hP q0 _ ha) ((hK.2 t0 _ ht).1 n (fun j => .float (f j))) (j := i) (by show (i < 0 ∨ (arrV _ _ _).slots.size ≤ _); rw [arrV_size]; exact Classical.byContradiction hout) (g := F0 m pc ls (.int i :: .ref a :: rest)) rfl (rest := rest) rfl (by rw [hb]; exact hdg) t
  simp only [arrV_size] at h1
  exact h1 st
theorem vx_fastZ {D : va_G} {cl : List vw_C} {ws : va_W} {tys : List (ClassId × FieldType)} {a : Nat} (hexec : p.tables.exec = Jvm.exec) (hb : c.code = cc) (hK : va_K D cl tys s) (hP : va_P D cl ws H) (q0 t0 : Nat) {cA : ClassId} {n : Nat} {f : Nat → UInt32} (ha : ws[q0]? = some (a, .inl (cA, n, .inr (.inr (.inl f))))) (ht : tys[t0]? = some (cA, .float)) {i : Int32} {x : UInt32} (hout : ¬ vp_in i n) (hdg : decode cc pc = .ok (.fastore, 1))
    (k : ∀ tx : String, tx = (toString "Index " ++ toString i ++ toString " out of bounds for length " ++ toString n : String) → vx_Note p l e R s m args below meth c H locs cells slots Q (F0 m pc ls rest) "java/lang/ArrayIndexOutOfBoundsException" tx) : W p l e R s m args below meth c H locs cells slots Q (F0 m pc ls (.float x :: .int i :: .ref a :: rest)) := by
  intro T hT X
  obtain ⟨t, st, q⟩ := k _ rfl T hT X
  refine ⟨t, ?_, q⟩
  have h1 := X.fastoreOut hexec (by rw [hT]; exact hP q0 _ ha) ((hK.2 t0 _ ht).1 n (fun j => .float (f j))) (j := i) (by show (i < 0 ∨ (arrV _ _ _).slots.size ≤ _); rw [arrV_size]; exact Classical.byContradiction hout) (g := F0 m pc ls (.float x :: .int i :: .ref a :: rest)) rfl (rest := rest) rfl (by rw [hb]; exact hdg) t
  simp only [arrV_size] at h1
  exact h1 st
theorem vx_daldZ {D : va_G} {cl : List vw_C} {ws : va_W} {tys : List (ClassId × FieldType)} {a : Nat} (hexec : p.tables.exec = Jvm.exec) (hb : c.code = cc) (hK : va_K D cl tys s) (hP : va_P D cl ws H) (q0 t0 : Nat) {cA : ClassId} {n : Nat} {f : Nat → UInt64} (ha : ws[q0]? = some (a, .inl (cA, n, .inr (.inr (.inr (.inl f)))))) (ht : tys[t0]? = some (cA, .double)) {i : Int32} (hout : ¬ vp_in i n) (hdg : decode cc pc = .ok (.daload, 1))
    (k : ∀ tx : String, tx = (toString "Index " ++ toString i ++ toString " out of bounds for length " ++ toString n : String) → vx_Note p l e R s m args below meth c H locs cells slots Q (F0 m pc ls rest) "java/lang/ArrayIndexOutOfBoundsException" tx) : W p l e R s m args below meth c H locs cells slots Q (F0 m pc ls (.int i :: .ref a :: rest)) := by
  intro T hT X
  obtain ⟨t, st, q⟩ := k _ rfl T hT X
  refine ⟨t, ?_, q⟩
  have h1 := X.daloadOut hexec (by rw [hT]; exact hP q0 _ ha) ((hK.2 t0 _ ht).1 n (fun j => .double (f j))) (j := i) (by show (i < 0 ∨ (arrV _ _ _).slots.size ≤ _); rw [arrV_size]; exact Classical.byContradiction hout) (g := F0 m pc ls (.int i :: .ref a :: rest)) rfl (rest := rest) rfl (by rw [hb]; exact hdg) t
  simp only [arrV_size] at h1
  exact h1 st
theorem vx_dastZ {D : va_G} {cl : List vw_C} {ws : va_W} {tys : List (ClassId × FieldType)} {a : Nat} (hexec : p.tables.exec = Jvm.exec) (hb : c.code = cc) (hK : va_K D cl tys s) (hP : va_P D cl ws H) (q0 t0 : Nat) {cA : ClassId} {n : Nat} {f : Nat → UInt64} (ha : ws[q0]? = some (a, .inl (cA, n, .inr (.inr (.inr (.inl f)))))) (ht : tys[t0]? = some (cA, .double)) {i : Int32} {x : UInt64} (hout : ¬ vp_in i n) (hdg : decode cc pc = .ok (.dastore, 1))
    (k : ∀ tx : String, tx = (toString "Index " ++ toString i ++ toString " out of bounds for length " ++ toString n : String) → vx_Note p l e R s m args below meth c H locs cells slots Q (F0 m pc ls rest) "java/lang/ArrayIndexOutOfBoundsException" tx) : W p l e R s m args below meth c H locs cells slots Q (F0 m pc ls (.double x :: .int i :: .ref a :: rest)) := by
  intro T hT X
  obtain ⟨t, st, q⟩ := k _ rfl T hT X
  refine ⟨t, ?_, q⟩
  have h1 := X.dastoreOut hexec (by rw [hT]; exact hP q0 _ ha) ((hK.2 t0 _ ht).1 n (fun j => .double (f j))) (j := i) (by show (i < 0 ∨ (arrV _ _ _).slots.size ≤ _); rw [arrV_size]; exact Classical.byContradiction hout) (g := F0 m pc ls (.double x :: .int i :: .ref a :: rest)) rfl (rest := rest) rfl (by rw [hb]; exact hdg) t
  simp only [arrV_size] at h1
  exact h1 st
theorem vx_arraylengthN (hexec : p.tables.exec = Jvm.exec) (hb : c.code = cc) (hdg : decode cc pc = .ok (.arraylength, 1)) (k : vx_NoteN p l e R s m args below meth c H locs cells slots Q (F0 m pc ls rest)) : W p l e R s m args below meth c H locs cells slots Q (F0 m pc ls (.null :: rest)) := by
  intro T hT X
  obtain ⟨t, st, q⟩ := k T hT X
  exact ⟨t, X.arraylengthNull hexec (g := F0 m pc ls (.null :: rest)) rfl (rest := rest) rfl (by rw [hb]; exact hdg) t st, q⟩
theorem vx_ialoadN (hexec : p.tables.exec = Jvm.exec) (hb : c.code = cc) {i : Int32} (hdg : decode cc pc = .ok (.iaload, 1)) (k : vx_NoteN p l e R s m args below meth c H locs cells slots Q (F0 m pc ls rest)) : W p l e R s m args below meth c H locs cells slots Q (F0 m pc ls (.int i :: .null :: rest)) := by
  intro T hT X
  obtain ⟨t, st, q⟩ := k T hT X
  exact ⟨t, X.ialoadNull hexec (g := F0 m pc ls (.int i :: .null :: rest)) rfl (rest := rest) rfl (by rw [hb]; exact hdg) t st, q⟩
theorem vx_laloadN (hexec : p.tables.exec = Jvm.exec) (hb : c.code = cc) {i : Int32} (hdg : decode cc pc = .ok (.laload, 1)) (k : vx_NoteN p l e R s m args below meth c H locs cells slots Q (F0 m pc ls rest)) : W p l e R s m args below meth c H locs cells slots Q (F0 m pc ls (.int i :: .null :: rest)) := by
  intro T hT X
  obtain ⟨t, st, q⟩ := k T hT X
  exact ⟨t, X.laloadNull hexec (g := F0 m pc ls (.int i :: .null :: rest)) rfl (rest := rest) rfl (by rw [hb]; exact hdg) t st, q⟩
theorem vx_faloadN (hexec : p.tables.exec = Jvm.exec) (hb : c.code = cc) {i : Int32} (hdg : decode cc pc = .ok (.faload, 1)) (k : vx_NoteN p l e R s m args below meth c H locs cells slots Q (F0 m pc ls rest)) : W p l e R s m args below meth c H locs cells slots Q (F0 m pc ls (.int i :: .null :: rest)) := by
  intro T hT X
  obtain ⟨t, st, q⟩ := k T hT X
  exact ⟨t, X.faloadNull hexec (g := F0 m pc ls (.int i :: .null :: rest)) rfl (rest := rest) rfl (by rw [hb]; exact hdg) t st, q⟩
theorem vx_daloadN (hexec : p.tables.exec = Jvm.exec) (hb : c.code = cc) {i : Int32} (hdg : decode cc pc = .ok (.daload, 1)) (k : vx_NoteN p l e R s m args below meth c H locs cells slots Q (F0 m pc ls rest)) : W p l e R s m args below meth c H locs cells slots Q (F0 m pc ls (.int i :: .null :: rest)) := by
  intro T hT X
  obtain ⟨t, st, q⟩ := k T hT X
  exact ⟨t, X.daloadNull hexec (g := F0 m pc ls (.int i :: .null :: rest)) rfl (rest := rest) rfl (by rw [hb]; exact hdg) t st, q⟩
theorem vx_aaloadN (hexec : p.tables.exec = Jvm.exec) (hb : c.code = cc) {i : Int32} (hdg : decode cc pc = .ok (.aaload, 1)) (k : vx_NoteN p l e R s m args below meth c H locs cells slots Q (F0 m pc ls rest)) : W p l e R s m args below meth c H locs cells slots Q (F0 m pc ls (.int i :: .null :: rest)) := by
  intro T hT X
  obtain ⟨t, st, q⟩ := k T hT X
  exact ⟨t, X.aaloadNull hexec (g := F0 m pc ls (.int i :: .null :: rest)) rfl (rest := rest) rfl (by rw [hb]; exact hdg) t st, q⟩
theorem vx_baloadN (hexec : p.tables.exec = Jvm.exec) (hb : c.code = cc) {i : Int32} (hdg : decode cc pc = .ok (.baload, 1)) (k : vx_NoteN p l e R s m args below meth c H locs cells slots Q (F0 m pc ls rest)) : W p l e R s m args below meth c H locs cells slots Q (F0 m pc ls (.int i :: .null :: rest)) := by
  intro T hT X
  obtain ⟨t, st, q⟩ := k T hT X
  exact ⟨t, X.baloadNull hexec (g := F0 m pc ls (.int i :: .null :: rest)) rfl (rest := rest) rfl (by rw [hb]; exact hdg) t st, q⟩
theorem vx_caloadN (hexec : p.tables.exec = Jvm.exec) (hb : c.code = cc) {i : Int32} (hdg : decode cc pc = .ok (.caload, 1)) (k : vx_NoteN p l e R s m args below meth c H locs cells slots Q (F0 m pc ls rest)) : W p l e R s m args below meth c H locs cells slots Q (F0 m pc ls (.int i :: .null :: rest)) := by
  intro T hT X
  obtain ⟨t, st, q⟩ := k T hT X
  exact ⟨t, X.caloadNull hexec (g := F0 m pc ls (.int i :: .null :: rest)) rfl (rest := rest) rfl (by rw [hb]; exact hdg) t st, q⟩
theorem vx_saloadN (hexec : p.tables.exec = Jvm.exec) (hb : c.code = cc) {i : Int32} (hdg : decode cc pc = .ok (.saload, 1)) (k : vx_NoteN p l e R s m args below meth c H locs cells slots Q (F0 m pc ls rest)) : W p l e R s m args below meth c H locs cells slots Q (F0 m pc ls (.int i :: .null :: rest)) := by
  intro T hT X
  obtain ⟨t, st, q⟩ := k T hT X
  exact ⟨t, X.saloadNull hexec (g := F0 m pc ls (.int i :: .null :: rest)) rfl (rest := rest) rfl (by rw [hb]; exact hdg) t st, q⟩
theorem vx_iastoreN (hexec : p.tables.exec = Jvm.exec) (hb : c.code = cc) {x : Int32} {i : Int32} (hdg : decode cc pc = .ok (.iastore, 1)) (k : vx_NoteN p l e R s m args below meth c H locs cells slots Q (F0 m pc ls rest)) : W p l e R s m args below meth c H locs cells slots Q (F0 m pc ls (.int x :: .int i :: .null :: rest)) := by
  intro T hT X
  obtain ⟨t, st, q⟩ := k T hT X
  exact ⟨t, X.iastoreNull hexec (g := F0 m pc ls (.int x :: .int i :: .null :: rest)) rfl (rest := rest) rfl (by rw [hb]; exact hdg) t st, q⟩
theorem vx_lastoreN (hexec : p.tables.exec = Jvm.exec) (hb : c.code = cc) {x : Int64} {i : Int32} (hdg : decode cc pc = .ok (.lastore, 1)) (k : vx_NoteN p l e R s m args below meth c H locs cells slots Q (F0 m pc ls rest)) : W p l e R s m args below meth c H locs cells slots Q (F0 m pc ls (.long x :: .int i :: .null :: rest)) := by
  intro T hT X
  obtain ⟨t, st, q⟩ := k T hT X
  exact ⟨t, X.lastoreNull hexec (g := F0 m pc ls (.long x :: .int i :: .null :: rest)) rfl (rest := rest) rfl (by rw [hb]; exact hdg) t st, q⟩
theorem vx_fastoreN (hexec : p.tables.exec = Jvm.exec) (hb : c.code = cc) {x : UInt32} {i : Int32} (hdg : decode cc pc = .ok (.fastore, 1)) (k : vx_NoteN p l e R s m args below meth c H locs cells slots Q (F0 m pc ls rest)) : W p l e R s m args below meth c H locs cells slots Q (F0 m pc ls (.float x :: .int i :: .null :: rest)) := by
  intro T hT X
  obtain ⟨t, st, q⟩ := k T hT X
  exact ⟨t, X.fastoreNull hexec (g := F0 m pc ls (.float x :: .int i :: .null :: rest)) rfl (rest := rest) rfl (by rw [hb]; exact hdg) t st, q⟩
theorem vx_dastoreN (hexec : p.tables.exec = Jvm.exec) (hb : c.code = cc) {x : UInt64} {i : Int32} (hdg : decode cc pc = .ok (.dastore, 1)) (k : vx_NoteN p l e R s m args below meth c H locs cells slots Q (F0 m pc ls rest)) : W p l e R s m args below meth c H locs cells slots Q (F0 m pc ls (.double x :: .int i :: .null :: rest)) := by
  intro T hT X
  obtain ⟨t, st, q⟩ := k T hT X
  exact ⟨t, X.dastoreNull hexec (g := F0 m pc ls (.double x :: .int i :: .null :: rest)) rfl (rest := rest) rfl (by rw [hb]; exact hdg) t st, q⟩
theorem vx_bastoreN (hexec : p.tables.exec = Jvm.exec) (hb : c.code = cc) {x : Int32} {i : Int32} (hdg : decode cc pc = .ok (.bastore, 1)) (k : vx_NoteN p l e R s m args below meth c H locs cells slots Q (F0 m pc ls rest)) : W p l e R s m args below meth c H locs cells slots Q (F0 m pc ls (.int x :: .int i :: .null :: rest)) := by
  intro T hT X
  obtain ⟨t, st, q⟩ := k T hT X
  exact ⟨t, X.bastoreNull hexec (g := F0 m pc ls (.int x :: .int i :: .null :: rest)) rfl (rest := rest) rfl (by rw [hb]; exact hdg) t st, q⟩
theorem vx_castoreN (hexec : p.tables.exec = Jvm.exec) (hb : c.code = cc) {x : Int32} {i : Int32} (hdg : decode cc pc = .ok (.castore, 1)) (k : vx_NoteN p l e R s m args below meth c H locs cells slots Q (F0 m pc ls rest)) : W p l e R s m args below meth c H locs cells slots Q (F0 m pc ls (.int x :: .int i :: .null :: rest)) := by
  intro T hT X
  obtain ⟨t, st, q⟩ := k T hT X
  exact ⟨t, X.castoreNull hexec (g := F0 m pc ls (.int x :: .int i :: .null :: rest)) rfl (rest := rest) rfl (by rw [hb]; exact hdg) t st, q⟩
theorem vx_sastoreN (hexec : p.tables.exec = Jvm.exec) (hb : c.code = cc) {x : Int32} {i : Int32} (hdg : decode cc pc = .ok (.sastore, 1)) (k : vx_NoteN p l e R s m args below meth c H locs cells slots Q (F0 m pc ls rest)) : W p l e R s m args below meth c H locs cells slots Q (F0 m pc ls (.int x :: .int i :: .null :: rest)) := by
  intro T hT X
  obtain ⟨t, st, q⟩ := k T hT X
  exact ⟨t, X.sastoreNull hexec (g := F0 m pc ls (.int x :: .int i :: .null :: rest)) rfl (rest := rest) rfl (by rw [hb]; exact hdg) t st, q⟩
theorem vx_invokeN {own C : String} {index maxL : Nat} {y : MethodName} {bytes : ByteArray} {ret : Option FieldType} (hexec : p.tables.exec = Jvm.exec) (hb : c.code = cc) (hown : s.vm.findClass own = some m.cls) (hlink : (Cond.methodLink own index y).before args s = true) (hinst : (Cond.instanceMethod y).before args s = true) (hcode : (Cond.code y bytes maxL ret).before args s = true) (hsel : (Cond.selects C y y).before args s = true)
    (hx : y.cls ≠ "java/lang/invoke/MethodHandle" ∧ y.cls ≠ "java/lang/invoke/VarHandle") {As : List Value} (hlen : (parseMethodDescriptor y.desc).map (fun d => d.parameters.length) = some As.length) (hdg : decode cc pc = .ok (.invokevirtual index, 3))
    (k : vx_NoteN p l e R s m args below meth c H locs cells slots Q (F0 m pc ls rest)) {st0 : List Value} (hst : st0 = As.reverse ++ .null :: rest) : W p l e R s m args below meth c H locs cells slots Q (F0 m pc ls st0) := by
  intro T hT X
  obtain ⟨r0, r, hn, hrm, hstR, hsigR⟩ := va_Decl.of hinst hcode
  obtain ⟨c2, r2, m2, q1, q2, q3, q4, kP, hkP, hkPi⟩ := Cond.selects_spec hsel
  cases hn.symm.trans q3
  have hl9 : As.length = r.sig.parameters.length := by
    rw [hsigR] at hlen
    exact (Option.some.inj hlen).symm
  obtain ⟨vm', X1, st1⟩ := X.invokevirtualNull hexec hown hlink hn hrm hstR hkP hkPi hx (g := F0 m pc ls st0) rfl (argsL := As) (rest := rest) hl9 hst (by rw [hb]; exact hdg)
  obtain ⟨t, st, q⟩ := k (T.setVm vm') hT X1
  exact ⟨t, st1 t st, q⟩
theorem vx_newarrayZ {atype : ArrayType} (hexec : p.tables.exec = Jvm.exec) (hb : c.code = cc) {n : Int32} (h0 : n < 0) (hdg : decode cc pc = .ok (.newarray atype, 2)) (k : ∀ tx : String, tx = toString n → vx_Note p l e R s m args below meth c H locs cells slots Q (F0 m pc ls rest) "java/lang/NegativeArraySizeException" tx) : W p l e R s m args below meth c H locs cells slots Q (F0 m pc ls (.int n :: rest)) := by
  intro T hT X
  obtain ⟨t, st, q⟩ := k _ rfl T hT X
  exact ⟨t, X.newarrayNegative hexec (g := F0 m pc ls (.int n :: rest)) rfl h0 (rest := rest) rfl (by rw [hb]; exact hdg) t st, q⟩
end
end VXM
/-! ===== END ===== -/
/-! ===== BEGIN an exception as an object: made, kept, thrown later (no traces kept) ===== -/
section VXK
variable {p : Program} {l : Launch} {e : Env} {R : Room} {s : State} {m₀ : MethodId} {args : Array Value} {below : List Frame} {meth : Method} {c : Code} {W : State} {locs : List Loc} {cells slots : Nat}
set_option maxHeartbeats 1000000 in
theorem vx_ctorMadeS (X : Stand p l e R s m₀ args below meth c W locs cells slots) (hexec : p.tables.exec = Jvm.exec) (htr : e.platform.stackTraces = false) {own cls : String} {names : List String} {ic : Nat}
    (hown : s.vm.findClass own = some m₀.cls) (hcls : Bundle.fit cls = true) (hnames : ∀ n ∈ names, Bundle.fit n = true)
    (h : ∀ a ∈ Bundle.ownAtoms own ic cls names, a.before args s = true)
    (hlocs : ∀ x ∈ locs, ∀ cell, s.heap[x.base]? = some cell → cell.vm.isStatics = false)
    {a : Addr} {cX : ClassId} {kX : Class} (hfoundX : s.vm.findClass cls = some cX) (hkX : s.vm.classes[cX]? = some kX) (hcell : W.heap[a]? = some (freshCell cX kX)) (hnew : s.heap.size ≤ a)
    {msg : Value} (hmsg : msg.isRef = true)
    {g : JFrame} (hg : g.method = m₀) (hsize : g.locals.size = c.maxLocals) {rest : List Value} (hstack : g.stack = msg :: .ref a :: .ref a :: rest)
    (hd6 : decode c.code g.pc = .ok (.invokespecial ic, 3))
    (hRframes : names.length + 3 < R.frames) (hRlocals : 2 * g.monitorRoom + ((Value.ref a :: rest).map fun v => v.category).sum + (13 * (names.length + 1) + 42) ≤ R.locals) :
    ∃ (V : State) (ce : Cell) (L : List Loc), Stand p l e R s m₀ args below meth c (V.setCell a ce) (locs ++ L) cells slots ∧ (∀ y ∈ L, y.base = a) ∧ a < V.heap.size ∧ ce.cls = cX ∧ ce.vm = .none ∧
      ∀ target, Steps p.tables e below ((V.setCell a ce).setTop { g with stack := .ref a :: rest, pc := g.pc + 3 }) target → Steps p.tables e below (W.setTop g) target := by
  have howns : e.platform.frameOwnsMonitors = true := by rw [X.admits.platform]
  have hfin : e.platform.finalization = false := by rw [X.admits.platform]
  have hpl : e.platform.magicAccessors = ({} : Platform).magicAccessors := by rw [X.admits.platform]
  have a' : ∀ x, x ∈ Bundle.ownAtoms own ic cls names → x.holds args s none s [] = true := fun x hx => h x hx
  obtain ⟨T, Z0, L, -, Y⟩ := ThrowableC.of_atoms (args := args) howns hfin hpl (fun x hx => h x (by simp [Bundle.ownAtoms, hx]))
  obtain ⟨Z, M, LZ, LM, hnZ⟩ := Init0T.ofS_atoms (args := args) hpl L Y (fun x hx => h x (by simp [Bundle.ownAtoms, hx]))
  obtain ⟨P1, Ps, hlen, L1, hL, hP1m, hlink1, hlink⟩ := Bundle.chainS (args := args) hpl hnZ names cls hcls hnames (fun x hx => h x (by simp [Bundle.ownAtoms, hx]))
  have hfound : s.vm.findClass cls = some P1.m.cls := findClass_of_methodNamed hP1m
  cases Option.some.inj (hfoundX.symm.trans hfound)
  obtain ⟨c1, kX', hc1, hk, hord, -, -, hn6⟩ := Cond.instantiable_spec (a' (.instantiable cls 6) (by simp [Bundle.ownAtoms]))
  cases Option.some.inj (hc1.symm.trans hfound)
  cases Option.some.inj (hkX.symm.trans hk)
  have hsel0 : selectMethod e.platform s.vm P1.m.cls T.fill0 = .method T.fill0 := by
    obtain ⟨c2, r2, m2, q1, q2, q3, q4, -⟩ := Cond.selects_spec (a' (.selects cls Bundle.tFill0 Bundle.tFill0) (by simp [Bundle.ownAtoms]))
    cases Option.some.inj (q1.symm.trans hfound)
    cases Option.some.inj (q2.symm.trans (State.methodFound?_of_named Y.fill0 (by decide)))
    cases Option.some.inj (q3.symm.trans Y.fill0)
    rw [Launch.admits_selectMethod X.admits]; exact q4
  have hselF : selectMethod e.platform s.vm P1.m.cls T.fill = .method T.fill := by
    obtain ⟨c2, r2, m2, q1, q2, q3, q4, -⟩ := Cond.selects_spec (a' (.selects cls Bundle.tFill Bundle.tFill) (by simp [Bundle.ownAtoms]))
    cases Option.some.inj (q1.symm.trans hfound)
    cases Option.some.inj (q2.symm.trans (State.methodFound?_of_named Y.fill (by decide)))
    cases Option.some.inj (q3.symm.trans Y.fill)
    rw [Launch.admits_selectMethod X.admits]; exact q4
  obtain ⟨cellS0, hcS0, hiss⟩ := Y.statics
  obtain ⟨u0, hu0⟩ := Cond.staticRefV Y.unassigned L.unassignedStatic L.statics hcS0 hiss (a' (.isRef (.static Bundle.tN "UNASSIGNED_STACK" Bundle.steD)) (by simp [Bundle.ownAtoms]))
  obtain ⟨sen, hsen⟩ := Cond.staticRefV Y.sentinel L.sentinelStatic L.statics hcS0 hiss (a' (.isRef (.static Bundle.tN "SUPPRESSED_SENTINEL" Bundle.listD)) (by simp [Bundle.ownAtoms]))
  obtain ⟨ci198, i198, fB, hk198, hg198, ha198, hsB, -, hnB, htB, hffB⟩ := Cond.ownField (t := .object "java/lang/Object") Y.found L.cls (by decide +kernel) (a' (.fieldLink Bundle.tN 198 Bundle.tN "backtrace" "Ljava/lang/Object;") (by simp [Bundle.ownAtoms])) (a' (.lays Bundle.tN Bundle.tN "backtrace" "Ljava/lang/Object;") (by simp [Bundle.ownAtoms])) e.platform hpl
  obtain ⟨cellS, hcS', heS, -, hkeep⟩ := X.same.2.2.2.2.2 T.aS cellS0 hcS0
  have hcellS : W.heap[T.aS]? = some cellS := hcS'
  have hout' : ∀ i, (⟨T.aS, i⟩ : Loc) ∉ locs := fun i hmem => by
    have := hlocs _ hmem cellS0 hcS0
    rw [hiss] at this; cases this
  have hknownS : cellS.vm ≠ .unknown := by
    rw [heS]; intro hu
    rw [show cellS0.vm = .unknown from hu] at hiss
    cases hiss
  have hneS : T.aS ≠ a := Nat.ne_of_lt (Nat.lt_of_lt_of_le (Array.getElem?_eq_some_iff.mp hcS0).1 hnew)
  obtain ⟨iM, hffM⟩ := Y.msg
  obtain ⟨tyC, dC, hdC, hdnC⟩ := Cond.laysAt hfound hk Y.cause (a' (.lays cls Bundle.tN "cause" "Ljava/lang/Throwable;") (by simp [Bundle.ownAtoms]))
  obtain ⟨tyS, dS, hdS, hdnS⟩ := Cond.laysAt hfound hk Y.stack (a' (.lays cls Bundle.tN "stackTrace" Bundle.steD) (by simp [Bundle.ownAtoms]))
  obtain ⟨tyP, dP, hdP, hdnP⟩ := Cond.laysAt hfound hk Y.supp (a' (.lays cls Bundle.tN "suppressedExceptions" Bundle.listD) (by simp [Bundle.ownAtoms]))
  obtain ⟨tyM, dM, hdM, hdnM⟩ := Cond.laysAt hfound hk hffM (a' (.lays cls Bundle.tN "detailMessage" "Ljava/lang/String;") (by simp [Bundle.ownAtoms]))
  obtain ⟨tyB, dB, hdB, hdnB⟩ := Cond.laysAt hfound hk hffB (a' (.lays cls Bundle.tN "backtrace" "Ljava/lang/Object;") (by simp [Bundle.ownAtoms]))
  have bC := Cond.laysApart hdB hdC hdnB hdnC (by rw [hnB, Y.causeName]; decide)
  have bS := Cond.laysApart hdB hdS hdnB hdnS (by rw [hnB, Y.stackName]; decide)
  have bP := Cond.laysApart hdB hdP hdnB hdnP (by rw [hnB, Y.suppName]; decide)
  have hskip : SkipFacts T e.platform s (fun u => u) u0 ((preparedCellV T.toThrowableT (freshCell P1.m.cls kX) a u0 sen).withEntry W.cur) :=
    ⟨{ ci198 := ci198, i198 := i198, fBack := fB }, ⟨hk198, hg198, ha198, hsB⟩, by
      have := fresh_default (c := P1.m.cls) tyB
      rw [htB] at this
      simpa [preparedCellV, Cell.setSlot, Cell.withEntry, Array.getElem?_setIfInBounds, bC, bS, bP, bC.symm, bS.symm, bP.symm, defaultValue] using this, fun _ _ => rfl⟩
  obtain ⟨tm, methC, cdC, kC, vm₁, hnC, -, -, -, -, -, -, -, hW₁, st1⟩ := Steps.initColdS (tb := p.tables) (e := e) (below := below) (s := s) (U := W) X.here hexec X.warmed hpl hown (t := Bundle.initS cls) rfl rfl (Bundle.fit_spec hcls).2
    (a' (.methodLink own ic (Bundle.initS cls)) (by simp [Bundle.ownAtoms])) (h (.instanceMethod (Bundle.initS cls)) (by cases names <;> simp [Bundle.ownAtoms, Bundle.chainSAtoms, Bundle.passSAtoms])) (bytes := Bundle.six) (maxL := 2) (h (.code (Bundle.initS cls) Bundle.six 2 none) (by cases names <;> simp [Bundle.ownAtoms, Bundle.chainSAtoms, Bundle.passSAtoms]))
    (f := g) hg (a := a) (msg := msg) (rest := .ref a :: rest) hstack hd6
  cases Option.some.inj (hnC.symm.trans hP1m)
  have X₁ := X.noted hW₁
  obtain ⟨vm₂, X₂, st2⟩ := X₁.ctorMessageOffV hexec (g := { g with stack := .ref a :: rest }) hg hsize T L Z LZ M LM (P1 :: Ps)
    (fun P hP => by rcases List.mem_cons.mp hP with rfl | hP; exact L1; exact hL P hP) ⟨hlink1, hlink⟩ (u0 := u0) (sen := sen) (self := a) hmsg (cell := freshCell P1.m.cls kX) (cellS := cellS)
    hcell (fun _ => by simp) (by simp) rfl rfl hsel0 hselF hcellS hneS hknownS (by rw [hkeep _ (hout' _)]; exact hu0) (by rw [hkeep _ (hout' _)]; exact hsen)
    (Takes.of_laid hk hord tyC (by rw [Y.causeType]; rfl)) (Takes.of_laid hk hord tyS (by rw [Y.stackType]; exact fits_refV_array _ u0)) (Takes.of_laid hk hord tyP (by rw [Y.suppType]; exact fits_refV_object _ sen))
    (Takes.of_laid hk hord tyM (by rw [Y.msgType]; exact fits_refV_object _ ⟨msg, hmsg⟩)) Y.objLocals hskip htr [] hd6
    (by simp only [List.length_cons, hlen]; omega) (by simp only [List.length_cons, hlen]; exact hRlocals)
  have hlt : a < ((W.setVm vm₁).setVm vm₂).heap.size := (Array.getElem?_eq_some_iff.mp hcell).1
  refine ⟨(W.setVm vm₁).setVm vm₂, _, _, X₂, fun y hy => ?_, hlt, rfl, rfl, fun target hwalk => st1 _ (fun acts => ?_)⟩
  · simp only [List.mem_cons, List.not_mem_nil, or_false] at hy
    rcases hy with rfl | rfl | rfl | rfl | rfl <;> rfl
  · rw [doInvoke_state]
    exact st2 _ hwalk
set_option maxHeartbeats 1000000 in
theorem vx_ctorMade0 (X : Stand p l e R s m₀ args below meth c W locs cells slots) (hexec : p.tables.exec = Jvm.exec) (htr : e.platform.stackTraces = false) {own cls : String} {names : List String} {ic : Nat}
    (hown : s.vm.findClass own = some m₀.cls) (hcls : Bundle.fit cls = true) (hnames : ∀ n ∈ names, Bundle.fit n = true)
    (h : ∀ a ∈ Bundle.ownAtoms0 own ic cls names, a.before args s = true)
    (hlocs : ∀ x ∈ locs, ∀ cell, s.heap[x.base]? = some cell → cell.vm.isStatics = false)
    {a : Addr} {cX : ClassId} {kX : Class} (hfoundX : s.vm.findClass cls = some cX) (hkX : s.vm.classes[cX]? = some kX) (hcell : W.heap[a]? = some (freshCell cX kX)) (hnew : s.heap.size ≤ a)
    {g : JFrame} (hg : g.method = m₀) (hsize : g.locals.size = c.maxLocals) {rest : List Value} (hstack : g.stack = .ref a :: .ref a :: rest)
    (hd6 : decode c.code g.pc = .ok (.invokespecial ic, 3))
    (hRframes : names.length + 3 < R.frames) (hRlocals : 2 * g.monitorRoom + ((Value.ref a :: rest).map fun v => v.category).sum + (13 * (names.length + 1) + 41) ≤ R.locals) :
    ∃ (V : State) (ce : Cell) (L : List Loc), Stand p l e R s m₀ args below meth c (V.setCell a ce) (locs ++ L) cells slots ∧ (∀ y ∈ L, y.base = a) ∧ a < V.heap.size ∧ ce.cls = cX ∧ ce.vm = .none ∧
      ∀ target, Steps p.tables e below ((V.setCell a ce).setTop { g with stack := .ref a :: rest, pc := g.pc + 3 }) target → Steps p.tables e below (W.setTop g) target := by
  have howns : e.platform.frameOwnsMonitors = true := by rw [X.admits.platform]
  have hfin : e.platform.finalization = false := by rw [X.admits.platform]
  have hpl : e.platform.magicAccessors = ({} : Platform).magicAccessors := by rw [X.admits.platform]
  have a' : ∀ x, x ∈ Bundle.ownAtoms0 own ic cls names → x.holds args s none s [] = true := fun x hx => h x hx
  obtain ⟨T, Z, L, LZ, Y⟩ := ThrowableC.of_atoms (args := args) howns hfin hpl (fun x hx => h x (by simp [Bundle.ownAtoms0, hx]))
  obtain ⟨P1, Ps, hlen, L1, hL, hP1m, hlink1, hlink⟩ := Bundle.chain0 (args := args) hpl Y.init0 names cls hcls hnames (fun x hx => h x (by simp [Bundle.ownAtoms0, hx]))
  have hfound : s.vm.findClass cls = some P1.m.cls := findClass_of_methodNamed hP1m
  cases Option.some.inj (hfoundX.symm.trans hfound)
  obtain ⟨c1, kX', hc1, hk, hord, -, -, hn6⟩ := Cond.instantiable_spec (a' (.instantiable cls 6) (by simp [Bundle.ownAtoms0]))
  cases Option.some.inj (hc1.symm.trans hfound)
  cases Option.some.inj (hkX.symm.trans hk)
  have hsel0 : selectMethod e.platform s.vm P1.m.cls T.fill0 = .method T.fill0 := by
    obtain ⟨c2, r2, m2, q1, q2, q3, q4, -⟩ := Cond.selects_spec (a' (.selects cls Bundle.tFill0 Bundle.tFill0) (by simp [Bundle.ownAtoms0]))
    cases Option.some.inj (q1.symm.trans hfound)
    cases Option.some.inj (q2.symm.trans (State.methodFound?_of_named Y.fill0 (by decide)))
    cases Option.some.inj (q3.symm.trans Y.fill0)
    rw [Launch.admits_selectMethod X.admits]; exact q4
  have hselF : selectMethod e.platform s.vm P1.m.cls T.fill = .method T.fill := by
    obtain ⟨c2, r2, m2, q1, q2, q3, q4, -⟩ := Cond.selects_spec (a' (.selects cls Bundle.tFill Bundle.tFill) (by simp [Bundle.ownAtoms0]))
    cases Option.some.inj (q1.symm.trans hfound)
    cases Option.some.inj (q2.symm.trans (State.methodFound?_of_named Y.fill (by decide)))
    cases Option.some.inj (q3.symm.trans Y.fill)
    rw [Launch.admits_selectMethod X.admits]; exact q4
  obtain ⟨cellS0, hcS0, hiss⟩ := Y.statics
  obtain ⟨u0, hu0⟩ := Cond.staticRefV Y.unassigned L.unassignedStatic L.statics hcS0 hiss (a' (.isRef (.static Bundle.tN "UNASSIGNED_STACK" Bundle.steD)) (by simp [Bundle.ownAtoms0]))
  obtain ⟨sen, hsen⟩ := Cond.staticRefV Y.sentinel L.sentinelStatic L.statics hcS0 hiss (a' (.isRef (.static Bundle.tN "SUPPRESSED_SENTINEL" Bundle.listD)) (by simp [Bundle.ownAtoms0]))
  obtain ⟨ci198, i198, fB, hk198, hg198, ha198, hsB, -, hnB, htB, hffB⟩ := Cond.ownField (t := .object "java/lang/Object") Y.found L.cls (by decide +kernel) (a' (.fieldLink Bundle.tN 198 Bundle.tN "backtrace" "Ljava/lang/Object;") (by simp [Bundle.ownAtoms0])) (a' (.lays Bundle.tN Bundle.tN "backtrace" "Ljava/lang/Object;") (by simp [Bundle.ownAtoms0])) e.platform hpl
  obtain ⟨cellS, hcS', heS, -, hkeep⟩ := X.same.2.2.2.2.2 T.aS cellS0 hcS0
  have hcellS : W.heap[T.aS]? = some cellS := hcS'
  have hout' : ∀ i, (⟨T.aS, i⟩ : Loc) ∉ locs := fun i hmem => by
    have := hlocs _ hmem cellS0 hcS0
    rw [hiss] at this; cases this
  have hknownS : cellS.vm ≠ .unknown := by
    rw [heS]; intro hu
    rw [show cellS0.vm = .unknown from hu] at hiss
    cases hiss
  have hneS : T.aS ≠ a := Nat.ne_of_lt (Nat.lt_of_lt_of_le (Array.getElem?_eq_some_iff.mp hcS0).1 hnew)
  obtain ⟨iM, hffM⟩ := Y.msg
  obtain ⟨tyC, dC, hdC, hdnC⟩ := Cond.laysAt hfound hk Y.cause (a' (.lays cls Bundle.tN "cause" "Ljava/lang/Throwable;") (by simp [Bundle.ownAtoms0]))
  obtain ⟨tyS, dS, hdS, hdnS⟩ := Cond.laysAt hfound hk Y.stack (a' (.lays cls Bundle.tN "stackTrace" Bundle.steD) (by simp [Bundle.ownAtoms0]))
  obtain ⟨tyP, dP, hdP, hdnP⟩ := Cond.laysAt hfound hk Y.supp (a' (.lays cls Bundle.tN "suppressedExceptions" Bundle.listD) (by simp [Bundle.ownAtoms0]))
  obtain ⟨tyM, dM, hdM, hdnM⟩ := Cond.laysAt hfound hk hffM (a' (.lays cls Bundle.tN "detailMessage" "Ljava/lang/String;") (by simp [Bundle.ownAtoms0]))
  obtain ⟨tyB, dB, hdB, hdnB⟩ := Cond.laysAt hfound hk hffB (a' (.lays cls Bundle.tN "backtrace" "Ljava/lang/Object;") (by simp [Bundle.ownAtoms0]))
  have bC := Cond.laysApart hdB hdC hdnB hdnC (by rw [hnB, Y.causeName]; decide)
  have bS := Cond.laysApart hdB hdS hdnB hdnS (by rw [hnB, Y.stackName]; decide)
  have bP := Cond.laysApart hdB hdP hdnB hdnP (by rw [hnB, Y.suppName]; decide)
  have hskip : SkipFacts T e.platform s (fun u => u) u0 ((preparedCellV T.toThrowableT (freshCell P1.m.cls kX) a u0 sen).withEntry W.cur) :=
    ⟨{ ci198 := ci198, i198 := i198, fBack := fB }, ⟨hk198, hg198, ha198, hsB⟩, by
      have := fresh_default (c := P1.m.cls) tyB
      rw [htB] at this
      simpa [preparedCellV, Cell.setSlot, Cell.withEntry, Array.getElem?_setIfInBounds, bC, bS, bP, bC.symm, bS.symm, bP.symm, defaultValue] using this, fun _ _ => rfl⟩
  obtain ⟨tm, methC, cdC, kC, vm₁, hnC, -, -, -, -, -, -, -, hW₁, st1⟩ := Steps.initCold (tb := p.tables) (e := e) (below := below) (s := s) (U := W) X.here hexec X.warmed hpl hown (t := Bundle.init0 cls) rfl rfl (Bundle.fit_spec hcls).2
    (a' (.methodLink own ic (Bundle.init0 cls)) (by simp [Bundle.ownAtoms0])) (h (.instanceMethod (Bundle.init0 cls)) (by cases names <;> simp [Bundle.ownAtoms0, Bundle.chain0Atoms, Bundle.passAtoms])) (bytes := Bundle.five) (maxL := 1) (h (.code (Bundle.init0 cls) Bundle.five 1 none) (by cases names <;> simp [Bundle.ownAtoms0, Bundle.chain0Atoms, Bundle.passAtoms]))
    (f := g) hg (a := a) (rest := .ref a :: rest) hstack hd6
  cases Option.some.inj (hnC.symm.trans hP1m)
  have X₁ := X.noted hW₁
  obtain ⟨vm₂, X₂, st2⟩ := X₁.ctorPlainOffV hexec (g := { g with stack := .ref a :: rest }) hg hsize T L Z LZ (P1 :: Ps)
    (fun P hP => by rcases List.mem_cons.mp hP with rfl | hP; exact L1; exact hL P hP) ⟨hlink1, hlink⟩ (u0 := u0) (sen := sen) (self := a) (cell := freshCell P1.m.cls kX) (cellS := cellS)
    hcell (fun _ => by simp) (by simp) rfl rfl hsel0 hselF hcellS hneS hknownS (by rw [hkeep _ (hout' _)]; exact hu0) (by rw [hkeep _ (hout' _)]; exact hsen)
    (Takes.of_laid hk hord tyC (by rw [Y.causeType]; rfl)) (Takes.of_laid hk hord tyS (by rw [Y.stackType]; exact fits_refV_array _ u0)) (Takes.of_laid hk hord tyP (by rw [Y.suppType]; exact fits_refV_object _ sen)) Y.objLocals hskip htr [] hd6
    (by simp only [List.length_cons, hlen]; omega) (by simp only [List.length_cons, hlen]; exact hRlocals)
  have hlt : a < ((W.setVm vm₁).setVm vm₂).heap.size := (Array.getElem?_eq_some_iff.mp hcell).1
  refine ⟨(W.setVm vm₁).setVm vm₂, _, _, X₂, fun y hy => ?_, hlt, rfl, rfl, fun target hwalk => st1 _ (fun acts => ?_)⟩
  · simp only [List.mem_cons, List.not_mem_nil, or_false] at hy
    rcases hy with rfl | rfl | rfl | rfl <;> rfl
  · rw [doInvoke_state]
    exact st2 _ hwalk
end VXK
section VXK2
variable {p : Program} {l : Launch} {e : Env} {R : Room} {s : State} {m : MethodId} {args : Array Value} {below : List Frame} {meth : Method} {c : Code} {H : Heap} {locs : List Loc} {cells slots : Nat} {Q : State → Prop}
variable {ls : Array Slot} {rest : List Value} {D : va_G} {cl : List vw_C} {tys : List (ClassId × FieldType)} {ws : va_W}
/-- 'new E("text")' that isn't thrown at once: the object goes on the stack -/
theorem vx_makeS {cc : ByteArray} {pc : Nat} (hexec : p.tables.exec = Jvm.exec) (hb : c.code = cc) (hl : l.stackTraces = false) {own cls text : String} {names : List String} {ik is ic sa ci : Nat} {A : Nat → Prop} {T0 : u_T}
    (hown : s.vm.findClass own = some m.cls) (hcls : Bundle.fit cls = true) (hnames : ∀ n ∈ names, Bundle.fit n = true)
    (hk : (Cond.classLink own ik cls).before args s = true) (hini : (Cond.initialized cls).before args s = true) (hstr : vk_R own is text sa s) (hat : ∀ w ∈ vx_atS own ic cls names, w.before args s = true)
    (hgood : ∀ w ∈ Cond.classLink own ik cls :: Cond.initialized cls :: vx_atS own ic cls names, vx_ot w = true)
    (hU : vx_Zq Bundle.tN "UNASSIGNED_STACK" Bundle.steD A s s.heap) (hN : vx_Zq Bundle.tN "SUPPRESSED_SENTINEL" Bundle.listD A s s.heap) (hS : va_S A s.heap H locs) (hsize : ls.size = c.maxLocals)
    (d0 : decode cc pc = .ok (.new ik, 3)) (d3 : decode cc (pc + 3) = .ok (.dup, 1)) (d4 : decode cc (pc + 4) = .ok (.ldc is, 2)) (d6 : decode cc (pc + 6) = .ok (.invokespecial ic, 3))
    (hK : va_K D cl tys s) (hP : va_P D cl ws H) (hD : va_D A ws) (hA : ∀ q, s.heap.size ≤ q → A q) (hc : cl[ci]? = some (cls, T0, 0))
    (hRframes : names.length + 3 < R.frames) (hRlocals : (rest.map fun v => v.category).sum + (13 * (names.length + 1) + 43) ≤ R.locals) (hRcells : cells + 1 ≤ R.cells) (hRslots : slots + 6 ≤ R.slots)
    (kk : ∀ (q : Nat) (H1 : Heap), va_P D cl (ws ++ [(q, .inr (ci, []))]) H1 → va_D A (ws ++ [(q, .inr (ci, []))]) → va_S A s.heap H1 locs → W p l e R s m args below meth c H1 locs (cells + 1) (slots + 6) Q (F0 m (pc + 9) ls (.ref q :: rest))) :
    W p l e R s m args below meth c H locs cells slots Q (F0 m pc ls rest) := by
  intro T hT X
  subst hT
  have htr : e.platform.stackTraces = false := (show e.platform.stackTraces = l.stackTraces by rw [X.admits.platform]).trans hl
  have Y := vx_rebase X (R' := { frames := R.frames, locals := R.locals, cells := 1, slots := 6 }) (Nat.le_refl _) (Nat.le_refl _) hRcells hRslots
  obtain ⟨s', hA'⟩ : ∃ z, z = (T.setVm s.vm).setFrames (.invoking m args :: below) := ⟨_, rfl⟩
  rw [← hA'] at Y
  have hvm : s'.vm = s.vm := by rw [hA']; rfl
  have hhp : s'.heap = T.heap := by rw [hA']; rfl
  have hW0 : s.WarmedH s'.vm := by rw [hvm]; exact State.WarmedH.refl s
  have hat' : ∀ w ∈ vx_atS own ic cls names, w.before args s' = true := fun w hw => vx_ot_at hW0 hvm.symm (hgood w (List.mem_cons_of_mem _ (List.mem_cons_of_mem _ hw))) (hat w hw)
  have hk' : (Cond.classLink own ik cls).before args s' = true := vx_ot_at hW0 hvm.symm (hgood _ List.mem_cons_self) hk
  have hini' : (Cond.initialized cls).before args s' = true := vx_ot_at hW0 hvm.symm (hgood _ (List.mem_cons_of_mem _ List.mem_cons_self)) hini
  have hU' : vx_Zq Bundle.tN "UNASSIGNED_STACK" Bundle.steD A s' s'.heap := by rw [hhp]; exact vx_Zq.moved hW0.alike (hU.kept hS.2.1)
  have hN' : vx_Zq Bundle.tN "SUPPRESSED_SENTINEL" Bundle.listD A s' s'.heap := by rw [hhp]; exact vx_Zq.moved hW0.alike (hN.kept hS.2.1)
  have h : ∀ w ∈ Bundle.ownAtoms own ic cls names, w.before args s' = true := vx_own hat' (vx_isRefq hU'.1) (vx_isRefq hN'.1) hU'.2.word hN'.2.word
  have hown' : s'.vm.findClass own = some m.cls := by rw [hvm]; exact hown
  have hins : (Cond.instantiable cls 6).before args s' = true := h _ (by simp [Bundle.ownAtoms])
  obtain ⟨vm₁, cX, kX, hfX, hkX, -, -, X₁, st1⟩ := Y.newCold hexec (own := own) (C := cls) (index := ik) (n := 6) hown' hk' hins hini'
    (g := F0 m pc ls rest) rfl (by rw [hb]; exact d0) (Nat.le_refl _) (Nat.le_refl _)
  generalize hT1 : (T.setVm vm₁).pushCell { cls := cX, slots := kX.instanceTypes.map defaultValue, vm := .none } = T1 at X₁ st1
  have hcat : (Value.ref T.heap.size).category = 1 := rfl
  have hcellA : T1.heap[T.heap.size]? = some (freshCell cX kX) := by rw [← hT1]; exact State.heap_pushCell_size _ _
  have d3' : decode c.code (pc + 3) = .ok (.dup, 1) := by rw [hb]; exact d3
  have d4' : decode c.code (pc + 4) = .ok (.ldc is, 2) := by rw [hb]; exact d4
  have hstr' : vk_R own is text sa s' := vk_R.warm hW0 hstr
  obtain ⟨V, ce, L, Z, hL, hlt, hcl9, hvm9, st⟩ := vx_ctorMadeS X₁ hexec htr (own := own) (cls := cls) (names := names) (ic := ic) hown' hcls hnames h (fun x hx => nomatch hx) hfX hkX hcellA (by rw [hhp]; exact Nat.le_refl _) (msg := .ref sa) rfl
    (g := { method := m, pc := pc + 6, locals := ls, stack := .ref sa :: .ref T.heap.size :: .ref T.heap.size :: rest, locked := none }) rfl hsize (rest := rest) rfl
    (by rw [hb]; exact d6) hRframes (by simp only [List.map_cons, List.sum_cons, hcat]; omega)
  have Z0 := Stand.forget (locs := []) Z (fun y hy => by rw [hL y hy, hhp]; exact Nat.le_refl _)
  obtain ⟨f1, f2⟩ := vx_frame Z0.same
  rw [hhp] at f1 f2
  have hcid : ce.cls = D.1 ci := by
    rw [hcl9]
    have h1 := (hK.1 ci _ hc).2.1
    rw [hvm] at hfX
    exact Option.some.inj (hfX.symm.trans h1)
  have hh : (V.setCell T.heap.size ce).heap[T.heap.size]? = some ce := heapAt_setCell_self (s := V) ce hlt
  subst hA'
  have X5 := vx_back9 X Y Z0
  have X6 : Stand p l e R s m args below meth c (V.setCell T.heap.size ce) locs (cells + 1) (slots + 6) := { X5 with same := X5.same.mono (by omega) (by omega) }
  have hk9 : ∀ (k : Nat) (x : Nat × va_E), ws[k]? = some x → (V.setCell T.heap.size ce).heap[x.1]? = T.heap[x.1]? := fun k x hx => f2 x.1 ((hP k x hx).lt) (fun z hz => nomatch hz)
  obtain ⟨t, a1, b1⟩ := kk T.heap.size (V.setCell T.heap.size ce).heap ((hP.kept hk9).app (fun k x hx => by
      have hz : k < 1 := (List.getElem?_eq_some_iff.mp hx).1
      rw [show k = 0 by omega] at hx
      cases hx
      exact ⟨_, hc, ce, hh, hcid, hvm9, fun k hk => absurd hk (Nat.not_lt_zero k)⟩)) (hD.push hP rfl (hA _ hS.1)) ⟨Nat.le_trans hS.1 f1, fun q h1 h2 => (f2 q (Nat.lt_of_lt_of_le h1 hS.1) (fun z hz => nomatch hz)).trans (hS.2.1 q h1 h2), hS.2.2⟩ _ rfl X6
  refine ⟨t, st1 _ ?_, b1⟩
  show Steps p.tables e below (T1.setTop { method := m, pc := pc + 3, locals := ls, stack := .ref T.heap.size :: rest, locked := none }) _
  jvm_step X₁.here [X₁.here.top, hexec, d3', Value.category]
  exact X₁.ldcString hexec (own := own) (text := text) (index := is) (a := sa) hown' hstr'.1 hstr'.2
    (g := { method := m, pc := pc + 4, locals := ls, stack := .ref T.heap.size :: .ref T.heap.size :: rest, locked := none }) rfl d4' _ (st _ a1)
/-- 'new E()' that isn't thrown at once: the object goes on the stack -/
theorem vx_make0 {cc : ByteArray} {pc : Nat} (hexec : p.tables.exec = Jvm.exec) (hb : c.code = cc) (hl : l.stackTraces = false) {own cls : String} {names : List String} {ik ic ci : Nat} {A : Nat → Prop} {T0 : u_T}
    (hown : s.vm.findClass own = some m.cls) (hcls : Bundle.fit cls = true) (hnames : ∀ n ∈ names, Bundle.fit n = true)
    (hk : (Cond.classLink own ik cls).before args s = true) (hini : (Cond.initialized cls).before args s = true) (hat : ∀ w ∈ vx_at0 own ic cls names, w.before args s = true)
    (hgood : ∀ w ∈ Cond.classLink own ik cls :: Cond.initialized cls :: vx_at0 own ic cls names, vx_ot w = true)
    (hU : vx_Zq Bundle.tN "UNASSIGNED_STACK" Bundle.steD A s s.heap) (hN : vx_Zq Bundle.tN "SUPPRESSED_SENTINEL" Bundle.listD A s s.heap) (hS : va_S A s.heap H locs) (hsize : ls.size = c.maxLocals)
    (d0 : decode cc pc = .ok (.new ik, 3)) (d3 : decode cc (pc + 3) = .ok (.dup, 1)) (d4 : decode cc (pc + 4) = .ok (.invokespecial ic, 3))
    (hK : va_K D cl tys s) (hP : va_P D cl ws H) (hD : va_D A ws) (hA : ∀ q, s.heap.size ≤ q → A q) (hc : cl[ci]? = some (cls, T0, 0))
    (hRframes : names.length + 3 < R.frames) (hRlocals : (rest.map fun v => v.category).sum + (13 * (names.length + 1) + 42) ≤ R.locals) (hRcells : cells + 1 ≤ R.cells) (hRslots : slots + 6 ≤ R.slots)
    (kk : ∀ (q : Nat) (H1 : Heap), va_P D cl (ws ++ [(q, .inr (ci, []))]) H1 → va_D A (ws ++ [(q, .inr (ci, []))]) → va_S A s.heap H1 locs → W p l e R s m args below meth c H1 locs (cells + 1) (slots + 6) Q (F0 m (pc + 7) ls (.ref q :: rest))) :
    W p l e R s m args below meth c H locs cells slots Q (F0 m pc ls rest) := by
  intro T hT X
  subst hT
  have htr : e.platform.stackTraces = false := (show e.platform.stackTraces = l.stackTraces by rw [X.admits.platform]).trans hl
  have Y := vx_rebase X (R' := { frames := R.frames, locals := R.locals, cells := 1, slots := 6 }) (Nat.le_refl _) (Nat.le_refl _) hRcells hRslots
  obtain ⟨s', hA'⟩ : ∃ z, z = (T.setVm s.vm).setFrames (.invoking m args :: below) := ⟨_, rfl⟩
  rw [← hA'] at Y
  have hvm : s'.vm = s.vm := by rw [hA']; rfl
  have hhp : s'.heap = T.heap := by rw [hA']; rfl
  have hW0 : s.WarmedH s'.vm := by rw [hvm]; exact State.WarmedH.refl s
  have hat' : ∀ w ∈ vx_at0 own ic cls names, w.before args s' = true := fun w hw => vx_ot_at hW0 hvm.symm (hgood w (List.mem_cons_of_mem _ (List.mem_cons_of_mem _ hw))) (hat w hw)
  have hk' : (Cond.classLink own ik cls).before args s' = true := vx_ot_at hW0 hvm.symm (hgood _ List.mem_cons_self) hk
  have hini' : (Cond.initialized cls).before args s' = true := vx_ot_at hW0 hvm.symm (hgood _ (List.mem_cons_of_mem _ List.mem_cons_self)) hini
  have hU' : vx_Zq Bundle.tN "UNASSIGNED_STACK" Bundle.steD A s' s'.heap := by rw [hhp]; exact vx_Zq.moved hW0.alike (hU.kept hS.2.1)
  have hN' : vx_Zq Bundle.tN "SUPPRESSED_SENTINEL" Bundle.listD A s' s'.heap := by rw [hhp]; exact vx_Zq.moved hW0.alike (hN.kept hS.2.1)
  have h : ∀ w ∈ Bundle.ownAtoms0 own ic cls names, w.before args s' = true := vx_own hat' (vx_isRefq hU'.1) (vx_isRefq hN'.1) hU'.2.word hN'.2.word
  have hown' : s'.vm.findClass own = some m.cls := by rw [hvm]; exact hown
  have hins : (Cond.instantiable cls 6).before args s' = true := h _ (by simp [Bundle.ownAtoms0])
  obtain ⟨vm₁, cX, kX, hfX, hkX, -, -, X₁, st1⟩ := Y.newCold hexec (own := own) (C := cls) (index := ik) (n := 6) hown' hk' hins hini'
    (g := F0 m pc ls rest) rfl (by rw [hb]; exact d0) (Nat.le_refl _) (Nat.le_refl _)
  generalize hT1 : (T.setVm vm₁).pushCell { cls := cX, slots := kX.instanceTypes.map defaultValue, vm := .none } = T1 at X₁ st1
  have hcat : (Value.ref T.heap.size).category = 1 := rfl
  have hcellA : T1.heap[T.heap.size]? = some (freshCell cX kX) := by rw [← hT1]; exact State.heap_pushCell_size _ _
  have d3' : decode c.code (pc + 3) = .ok (.dup, 1) := by rw [hb]; exact d3
  obtain ⟨V, ce, L, Z, hL, hlt, hcl9, hvm9, st⟩ := vx_ctorMade0 X₁ hexec htr (own := own) (cls := cls) (names := names) (ic := ic) hown' hcls hnames h (fun x hx => nomatch hx) hfX hkX hcellA (by rw [hhp]; exact Nat.le_refl _)
    (g := { method := m, pc := pc + 4, locals := ls, stack := .ref T.heap.size :: .ref T.heap.size :: rest, locked := none }) rfl hsize (rest := rest) rfl
    (by rw [hb]; exact d4) hRframes (by simp only [List.map_cons, List.sum_cons, hcat]; omega)
  have Z0 := Stand.forget (locs := []) Z (fun y hy => by rw [hL y hy, hhp]; exact Nat.le_refl _)
  obtain ⟨f1, f2⟩ := vx_frame Z0.same
  rw [hhp] at f1 f2
  have hcid : ce.cls = D.1 ci := by
    rw [hcl9]
    have h1 := (hK.1 ci _ hc).2.1
    rw [hvm] at hfX
    exact Option.some.inj (hfX.symm.trans h1)
  have hh : (V.setCell T.heap.size ce).heap[T.heap.size]? = some ce := heapAt_setCell_self (s := V) ce hlt
  subst hA'
  have X5 := vx_back9 X Y Z0
  have X6 : Stand p l e R s m args below meth c (V.setCell T.heap.size ce) locs (cells + 1) (slots + 6) := { X5 with same := X5.same.mono (by omega) (by omega) }
  have hk9 : ∀ (k : Nat) (x : Nat × va_E), ws[k]? = some x → (V.setCell T.heap.size ce).heap[x.1]? = T.heap[x.1]? := fun k x hx => f2 x.1 ((hP k x hx).lt) (fun z hz => nomatch hz)
  obtain ⟨t, a1, b1⟩ := kk T.heap.size (V.setCell T.heap.size ce).heap ((hP.kept hk9).app (fun k x hx => by
      have hz : k < 1 := (List.getElem?_eq_some_iff.mp hx).1
      rw [show k = 0 by omega] at hx
      cases hx
      exact ⟨_, hc, ce, hh, hcid, hvm9, fun k hk => absurd hk (Nat.not_lt_zero k)⟩)) (hD.push hP rfl (hA _ hS.1)) ⟨Nat.le_trans hS.1 f1, fun q h1 h2 => (f2 q (Nat.lt_of_lt_of_le h1 hS.1) (fun z hz => nomatch hz)).trans (hS.2.1 q h1 h2), hS.2.2⟩ _ rfl X6
  refine ⟨t, st1 _ ?_, b1⟩
  show Steps p.tables e below (T1.setTop { method := m, pc := pc + 3, locals := ls, stack := .ref T.heap.size :: rest, locked := none }) _
  jvm_step X₁.here [X₁.here.top, hexec, d3', Value.category]
  exact st _ a1
/-- 'throw x' of an object that was made before -/
theorem vx_athrow {cc : ByteArray} {pc : Nat} (hexec : p.tables.exec = Jvm.exec) (hb : c.code = cc) {q : Addr} (hdg : decode cc pc = .ok (.athrow, 1)) (k : vx_W p l e R s m args below meth c H locs cells slots Q (F0 m pc ls rest) q) : W p l e R s m args below meth c H locs cells slots Q (F0 m pc ls (.ref q :: rest)) := by
  intro T hT X
  obtain ⟨t, st, hq⟩ := k T hT X
  refine ⟨t, ?_, hq⟩
  have hdg' : decode c.code pc = .ok (.athrow, 1) := by rw [hb]; exact hdg
  jvm_step X.here [X.here.top, hexec, hdg', athrow.wp_sem]
  exact st
end VXK2
/-! ===== END ===== -/
/-! ===== BEGIN a constructor that throws (launches without stack traces) ===== -/
section VXIA
variable {p : Program} {l : Launch} {e : Env} {R : Room} {s : State} {m : MethodId} {args : Array Value} {below : List Frame} {meth : Method} {c : Code} {T : State} {locs : List Loc} {cells slots : Nat}
theorem vx_callI (X : Stand p l e R s m args below meth c T locs cells slots) (hexec : p.tables.exec = Jvm.exec) {own : String} {index : Nat} {y : MethodName} {bytes : ByteArray} {maxL : Nat}
    (hown : s.vm.findClass own = some m.cls) (hy1 : y.name = "<init>") (hlink : (Cond.methodLink own index y).before args s = true) (hinst : (Cond.instanceMethod y).before args s = true)
    (hcode : (Cond.code y bytes maxL none).before args s = true) (hy : y.cls ≠ "java/lang/invoke/MethodHandle" ∧ y.cls ≠ "java/lang/invoke/VarHandle")
    {W9 : Nat} {Pre : Pt → Array Value → Prop} {Post : Pt → Array Value → Option Value → Pt → Prop} {PostX : Pt → Array Value → Addr → Pt → Prop} (hK : vx_Back l R p e below s args y 3 W9 Pre Post PostX)
    {g : JFrame} (hg : g.method = m) (hsize : g.locals.size = c.maxLocals) {a : Addr} {argsL rest : List Value} (hlen : ∀ sig, parseMethodDescriptor y.desc = some sig → argsL.length = sig.parameters.length)
    (hstack : g.stack = argsL.reverse ++ .ref a :: rest) (hW : 2 * g.monitorRoom + (rest.map fun v => v.category).sum ≤ W9) (hdg : decode c.code g.pc = .ok (.invokespecial index, 3))
    (hpre : ∀ vm₁, s.WarmedH vm₁ → Pre ⟨T.setVm vm₁, locs, cells, slots⟩ (Value.ref a :: argsL).toArray) :
    (∃ (v : Option Value) (vm₁ : Vm) (B : Pt), s.WarmedH vm₁ ∧ Stand p l e R s m args below meth c B.U B.locs B.cells B.slots ∧ Post ⟨T.setVm vm₁, locs, cells, slots⟩ (Value.ref a :: argsL).toArray v B ∧
      ∀ target, Steps p.tables e below (B.U.setTop { g with pc := g.pc + 3, stack := v.toList ++ rest }) target → Steps p.tables e below (T.setTop g) target) ∨
    (∃ (q : Addr) (vm₁ : Vm) (B : Pt), s.WarmedH vm₁ ∧ Stand p l e R s m args below meth c B.U B.locs B.cells B.slots ∧ PostX ⟨T.setVm vm₁, locs, cells, slots⟩ (Value.ref a :: argsL).toArray q B ∧
      Steps p.tables e below (T.setTop g) ((B.U.setTop { g with stack := rest }).pushFrame (.throwing q))) := by
  subst hg
  have hpl : e.platform.magicAccessors = ({} : Platform).magicAccessors := by rw [X.admits.platform]
  obtain ⟨mk, methM, cM, kP, vm₁, hnamed, hmethM, hcodeM, -, hlocalsM, -, hkP, -, hW₁, hstep₁⟩ := Steps.initColdArgs (e := e) X.here hexec X.warmed hpl hown hy1 hy hlink hinst hcode (f := g) rfl hlen hstack hdg
  have X₁ := X.noted hW₁
  rcases hK g.method meth c ⟨T.setVm vm₁, locs, cells, slots⟩ { g with stack := rest } (.invokespecial index) mk (Value.ref a :: argsL).toArray X₁ rfl hsize hdg hW (X₁.named hnamed) (hpre vm₁ X₁.warmed) with ⟨v, B, X', hpost, hsteps⟩ | ⟨q, B, X', hpost, hsteps⟩
  · exact Or.inl ⟨v, vm₁, B, X₁.warmed, X', hpost, fun target h => hstep₁ _ fun acts => by rw [doInvoke_state]; exact hsteps.trans h⟩
  · exact Or.inr ⟨q, vm₁, B, X₁.warmed, X', hpost, hstep₁ _ fun acts => by rw [doInvoke_state]; exact hsteps⟩
end VXIA
section VXIB
variable {p : Program} {l : Launch} {e : Env} {R : Room} {s : State} {m : MethodId} {args : Array Value} {below : List Frame} {meth : Method} {c : Code} {H : Heap} {locs : List Loc} {cells slots : Nat}
variable {y : MethodName} {bytes cc : ByteArray} {maxL nL mc ms n index : Nat} {ret : Option FieldType} {ws : List Cond} {rm : Room} {Pc : Array Value → State → Prop} {Qc : Array Value → State → Outcome → State → Prop} {XC : String → State → State → Prop} {free : Addr → Prop} {Ts : List Cond} {own C : String} {b : Addr} {As rest : List Value} {g : JFrame}
theorem vx_runI (S : CallFix p m c cc nL s args Ts own) (hM : vx_Met l y ws rm Pc Qc XC mc ms free) (cw : CallB R s args own index y bytes maxL none ws rm mc ms n ∧ y.name = "<init>" ∧ (Cond.instanceMethod y).before args s = true) (hp : PreS s H Pc (.ref b :: As))
    (hg : g.method = m) (hn : As.length = n) (hsize : g.locals.size = nL) (hstack : g.stack = As.reverse ++ .ref b :: rest) (hW : 2 * g.monitorRoom + (rest.map fun v => v.category).sum ≤ 8) (hdg : decode cc g.pc = .ok (.invokespecial index, 3)) (hf : cells + mc ≤ R.cells ∧ slots + ms ≤ R.slots) :
    vx_Run p l e R s m args below meth c H locs cells slots mc ms g rest (Qc (Value.ref b :: As).toArray) XC free := by
  have hK : vx_Back l R p e below s args y 3 8 (PreOf R mc ms Pc) (PostOf Qc mc ms free) (vx_Post XC mc ms free) := vx_callBack cw.1 hM hp.1
  obtain ⟨⟨-, -, -, -, -, -, hcode, -, hy, hlen, hl⟩, hy1, hin⟩ := cw
  obtain ⟨hx, hb, hml, ho, -⟩ := S
  have hPc := hp.2
  intro T hT X
  rcases vx_callI X hx (bytes := bytes) (maxL := maxL) ho hy1 hl hin hcode hy hK hg (hsize.trans hml.symm) (a := b) (argsL := As) (rest := rest) (fun sig h => hn.trans (hlen sig h)) hstack hW (by rw [hb]; exact hdg)
    (fun vm₁ hW₁ => ⟨hf.1, hf.2, hPc (T.setVm vm₁) hT hW₁⟩) with ⟨v, vm₁, ⟨U', l2, c2, s2⟩, hW₁, X', ⟨g', mk, t, L, e1, e2, hq, h1, hL, h2, h3⟩, st⟩ | ⟨q, vm₁, ⟨U', l2, c2, s2⟩, hW₁, X', ⟨g', mk, t, L, E, ce, e1, e2, hq, hce, hcv, hcl, h1, hL, h2, h3⟩, st⟩
  · dsimp only [Pt.U, Pt.locs, Pt.cells, Pt.slots] at X' e1 e2 h1 h2 h3 st
    subst h1; subst h2; subst h3
    exact Or.inl ⟨v, (T.setVm vm₁).calling g' mk (Value.ref b :: As).toArray, t, U', L, hT, X', hL, e1, e2, hq, st⟩
  · dsimp only [Pt.U, Pt.locs, Pt.cells, Pt.slots] at X' e1 e2 h1 h2 h3 st hcl
    subst h1; subst h2; subst h3
    exact Or.inr ⟨q, (T.setVm vm₁).calling g' mk (Value.ref b :: As).toArray, t, U', L, E, ce, hT, X', hL, e1, e2, hq, hce, hcv, vx_cls hW₁ hcl, st⟩
end VXIB
/-! ===== END ===== -/
/-! ===== BEGIN a private constructor of a nest mate that throws ===== -/
section VXIC
variable {p : Program} {l : Launch} {e : Env} {R : Room} {s : State} {m : MethodId} {args : Array Value} {below : List Frame} {meth : Method} {c : Code} {T : State} {locs : List Loc} {cells slots : Nat}
theorem vx_callIN (X : Stand p l e R s m args below meth c T locs cells slots) (hexec : p.tables.exec = Jvm.exec) {own : String} {index : Nat} {host : String} {y : MethodName} {bytes : ByteArray} {maxL : Nat}
    (hown : s.vm.findClass own = some m.cls) (hy1 : y.name = "<init>") (hlink : (Cond.methodLinkNest own index y host).before args s = true) (hinst : (Cond.instanceMethod y).before args s = true)
    (hcode : (Cond.code y bytes maxL none).before args s = true) (hy : y.cls ≠ "java/lang/invoke/MethodHandle" ∧ y.cls ≠ "java/lang/invoke/VarHandle")
    {W9 : Nat} {Pre : Pt → Array Value → Prop} {Post : Pt → Array Value → Option Value → Pt → Prop} {PostX : Pt → Array Value → Addr → Pt → Prop} (hK : vx_Back l R p e below s args y 3 W9 Pre Post PostX)
    {g : JFrame} (hg : g.method = m) (hsize : g.locals.size = c.maxLocals) {a : Addr} {argsL rest : List Value} (hlen : ∀ sig, parseMethodDescriptor y.desc = some sig → argsL.length = sig.parameters.length)
    (hstack : g.stack = argsL.reverse ++ .ref a :: rest) (hW : 2 * g.monitorRoom + (rest.map fun v => v.category).sum ≤ W9) (hdg : decode c.code g.pc = .ok (.invokespecial index, 3))
    (hpre : ∀ vm₁, s.WarmedH vm₁ → Pre ⟨T.setVm vm₁, locs, cells, slots⟩ (Value.ref a :: argsL).toArray) :
    (∃ (v : Option Value) (vm₁ : Vm) (B : Pt), s.WarmedH vm₁ ∧ Stand p l e R s m args below meth c B.U B.locs B.cells B.slots ∧ Post ⟨T.setVm vm₁, locs, cells, slots⟩ (Value.ref a :: argsL).toArray v B ∧
      ∀ target, Steps p.tables e below (B.U.setTop { g with pc := g.pc + 3, stack := v.toList ++ rest }) target → Steps p.tables e below (T.setTop g) target) ∨
    (∃ (q : Addr) (vm₁ : Vm) (B : Pt), s.WarmedH vm₁ ∧ Stand p l e R s m args below meth c B.U B.locs B.cells B.slots ∧ PostX ⟨T.setVm vm₁, locs, cells, slots⟩ (Value.ref a :: argsL).toArray q B ∧
      Steps p.tables e below (T.setTop g) ((B.U.setTop { g with stack := rest }).pushFrame (.throwing q))) := by
  subst hg
  have hpl : e.platform.magicAccessors = ({} : Platform).magicAccessors := by rw [X.admits.platform]
  obtain ⟨mk, methM, cM, kP, vm₁, hnamed, hmethM, hcodeM, -, hlocalsM, -, hkP, -, hW₁, hstep₁⟩ := Steps.initColdArgsNest (e := e) X.here hexec X.warmed hpl hown hy1 hy hlink hinst hcode (f := g) rfl hlen hstack hdg
  have X₁ := X.noted hW₁
  rcases hK g.method meth c ⟨T.setVm vm₁, locs, cells, slots⟩ { g with stack := rest } (.invokespecial index) mk (Value.ref a :: argsL).toArray X₁ rfl hsize hdg hW (X₁.named hnamed) (hpre vm₁ X₁.warmed) with ⟨v, B, X', hpost, hsteps⟩ | ⟨q, B, X', hpost, hsteps⟩
  · exact Or.inl ⟨v, vm₁, B, X₁.warmed, X', hpost, fun target h => hstep₁ _ fun acts => by rw [doInvoke_state]; exact hsteps.trans h⟩
  · exact Or.inr ⟨q, vm₁, B, X₁.warmed, X', hpost, hstep₁ _ fun acts => by rw [doInvoke_state]; exact hsteps⟩
end VXIC
section VXID
variable {p : Program} {l : Launch} {e : Env} {R : Room} {s : State} {m : MethodId} {args : Array Value} {below : List Frame} {meth : Method} {c : Code} {H : Heap} {locs : List Loc} {cells slots : Nat}
theorem vx_runIN {y : MethodName} {bytes cc : ByteArray} {maxL nL mc ms n index : Nat} {ws : List Cond} {rm : Room} {Pc : Array Value → State → Prop} {Qc : Array Value → State → Outcome → State → Prop} {XC : String → State → State → Prop} {free : Addr → Prop} {Ts : List Cond} {own host : String} {b : Addr} {As rest : List Value} {g : JFrame}
    (S : CallFix p m c cc nL s args Ts own) (hM : vx_Met l y ws rm Pc Qc XC mc ms free) (cw : va_CN R s args own index y host bytes maxL none ws rm mc ms n ∧ y.name = "<init>" ∧ (Cond.instanceMethod y).before args s = true) (hp : PreS s H Pc (.ref b :: As))
    (hg : g.method = m) (hn : As.length = n) (hsize : g.locals.size = nL) (hstack : g.stack = As.reverse ++ .ref b :: rest) (hW : 2 * g.monitorRoom + (rest.map fun v => v.category).sum ≤ 8) (hdg : decode cc g.pc = .ok (.invokespecial index, 3)) (hf : cells + mc ≤ R.cells ∧ slots + ms ≤ R.slots) :
    vx_Run p l e R s m args below meth c H locs cells slots mc ms g rest (Qc (Value.ref b :: As).toArray) XC free := by
  obtain ⟨⟨⟨hrc, hrs, hfr, hlo, hws, hcw⟩, hcode, hini, hy, hlen, hl⟩, hx1, hx2⟩ := cw
  have hK : vx_Back l R p e below s args y 3 8 (PreOf R mc ms Pc) (PostOf Qc mc ms free) (vx_Post XC mc ms free) := vx_back (bytes := bytes) (maxL := maxL) (ret := none) hM hp.1 hrc hrs hfr hlo hws hcw (fun a' U hW => word_at hW (Or.inl (by first | rfl | simp [Cond.onTables, Cond.keeps, Cond.steady])) hini)
  obtain ⟨hx, hb, hml, ho, -⟩ := S
  have hPc := hp.2
  intro T hT X
  rcases vx_callIN X hx (bytes := bytes) (maxL := maxL) ho hx1 hl hx2 hcode hy hK hg (hsize.trans hml.symm) (a := b) (argsL := As) (rest := rest) (fun sig h => hn.trans (hlen sig h)) hstack hW (by rw [hb]; exact hdg)
    (fun vm₁ hW₁ => ⟨hf.1, hf.2, hPc (T.setVm vm₁) hT hW₁⟩) with ⟨v, vm₁, ⟨U', l2, c2, s2⟩, hW₁, X', ⟨g', mk, t, L, e1, e2, hq, h1, hL, h2, h3⟩, st⟩ | ⟨q, vm₁, ⟨U', l2, c2, s2⟩, hW₁, X', ⟨g', mk, t, L, E, ce, e1, e2, hq, hce, hcv, hcl, h1, hL, h2, h3⟩, st⟩
  · dsimp only [Pt.U, Pt.locs, Pt.cells, Pt.slots] at X' e1 e2 h1 h2 h3 st
    subst h1; subst h2; subst h3
    exact Or.inl ⟨v, (T.setVm vm₁).calling g' mk (Value.ref b :: As).toArray, t, U', L, hT, X', hL, e1, e2, hq, st⟩
  · dsimp only [Pt.U, Pt.locs, Pt.cells, Pt.slots] at X' e1 e2 h1 h2 h3 st hcl
    subst h1; subst h2; subst h3
    exact Or.inr ⟨q, (T.setVm vm₁).calling g' mk (Value.ref b :: As).toArray, t, U', L, E, ce, hT, X', hL, e1, e2, hq, hce, hcv, vx_cls hW₁ hcl, st⟩
end VXID
/-! ===== END ===== -/
/-! ===== BEGIN a method of a class above, found by the receiver, that may throw (follows va_callVU, va_runU of this kit) ===== -/
section
variable {p : Program} {l : Launch} {e : Env} {R : Room} {s : State} {m : MethodId} {args : Array Value} {below : List Frame} {meth : Method} {c : Code} {H : Heap} {locs : List Loc} {cells slots : Nat}
theorem vx_callVU {T : State} {locs : List Loc} {cells slots : Nat} (X : Stand p l e R s m args below meth c T locs cells slots) (hexec : p.tables.exec = Jvm.exec) {own C owner : String} {index : Nat} {x y : MethodName} {bytes : ByteArray} {maxL : Nat} {ret : Option FieldType}
    (hown : s.vm.findClass own = some m.cls) (hlink : (Cond.methodLink own index x).before args s = true) (hsame : (Cond.sameMethod x.cls owner x.name x.desc).before args s = true)
    (hd0 : va_Decl s ⟨owner, x.name, x.desc⟩) (howner : owner ≠ "java/lang/invoke/MethodHandle" ∧ owner ≠ "java/lang/invoke/VarHandle")
    (hsel : (Cond.selects C x y).before args s = true) (hinst : (Cond.instanceMethod y).before args s = true) (hcode : (Cond.code y bytes maxL ret).before args s = true)
    {W : Nat} {Pre : Pt → Array Value → Prop} {Post : Pt → Array Value → Option Value → Pt → Prop} {PostX : Pt → Array Value → Addr → Pt → Prop} (hK : vx_Back l R p e below s args y 3 W Pre Post PostX)
    {b : Addr} {cellB : Cell} (hcell : T.heap[b]? = some cellB) (hobj : cellB.vm.isStatics = false) (hcls : s.vm.findClass C = some cellB.cls)
    {g : JFrame} (hg : g.method = m) (hsize : g.locals.size = c.maxLocals) {argsL rest : List Value} (hlen : ∀ sig, parseMethodDescriptor x.desc = some sig → argsL.length = sig.parameters.length)
    (hstack : g.stack = argsL.reverse ++ .ref b :: rest) (hW : 2 * g.monitorRoom + (rest.map fun v => v.category).sum ≤ W) (hdg : decode c.code g.pc = .ok (.invokevirtual index, 3))
    (hpre : ∀ vm₁, s.WarmedH vm₁ → Pre ⟨T.setVm vm₁, locs, cells, slots⟩ (Value.ref b :: argsL).toArray) :
    (∃ (v : Option Value) (vm₁ : Vm) (B : Pt), s.WarmedH vm₁ ∧ Stand p l e R s m args below meth c B.U B.locs B.cells B.slots ∧ Post ⟨T.setVm vm₁, locs, cells, slots⟩ (Value.ref b :: argsL).toArray v B ∧
      ∀ target, Steps p.tables e below (B.U.setTop { g with pc := g.pc + 3, stack := v.toList ++ rest }) target → Steps p.tables e below (T.setTop g) target) ∨
    (∃ (q : Addr) (vm₁ : Vm) (B : Pt), s.WarmedH vm₁ ∧ Stand p l e R s m args below meth c B.U B.locs B.cells B.slots ∧ PostX ⟨T.setVm vm₁, locs, cells, slots⟩ (Value.ref b :: argsL).toArray q B ∧
      Steps p.tables e below (T.setTop g) ((B.U.setTop { g with stack := rest }).pushFrame (.throwing q))) := by
  obtain ⟨r0, r, hn, hrm, hstR, hsigR⟩ := hd0
  obtain ⟨cn, ck, r1, hcn, hck, hni, hf, hn1⟩ := Cond.sameMethod_found hsame
  cases hn.symm.trans hn1
  obtain ⟨mk, methM, hnamed, hmethM, -, habM⟩ := Cond.instanceMethod_spec hinst
  obtain ⟨c2, r2, m2, q1, q2, q3, q4, kP, hkP, hkPi⟩ := Cond.selects_spec hsel
  cases hcls.symm.trans q1
  cases hf.symm.trans q2
  cases hnamed.symm.trans q3
  have hselP : selectMethod e.platform s.vm cellB.cls r0 = .method mk := by rw [Launch.admits_selectMethod X.admits]; exact q4
  obtain ⟨vm₁, X₁, hstep₁⟩ := X.invokevirtualUp hexec hown hlink hsame howner hn hrm hstR (a := b) (cell := cellB) hcell
    (fun z h => by rw [h] at hobj; cases hobj) hselP hmethM habM hkP hkPi (g := g) hg (argsL := argsL) (rest := rest) (hlen _ hsigR) hstack hdg
  rcases hK m meth c ⟨T.setVm vm₁, locs, cells, slots⟩ { g with stack := rest } (.invokevirtual index) mk (Value.ref b :: argsL).toArray X₁ hg hsize hdg hW (X₁.named hnamed) (hpre vm₁ X₁.warmed) with ⟨v, B, X', hpost, hsteps⟩ | ⟨q, B, X', hpost, hsteps⟩
  · exact Or.inl ⟨v, vm₁, B, X₁.warmed, X', hpost, fun target h => hstep₁ _ fun acts => by rw [doInvoke_state]; exact hsteps.trans h⟩
  · exact Or.inr ⟨q, vm₁, B, X₁.warmed, X', hpost, hstep₁ _ fun acts => by rw [doInvoke_state]; exact hsteps⟩
theorem vx_runU {x y : MethodName} {bytes cc : ByteArray} {maxL nL mc ms n index : Nat} {ret : Option FieldType} {ws : List Cond} {rm : Room} {Pc : Array Value → State → Prop} {Qc : Array Value → State → Outcome → State → Prop} {XC : String → State → State → Prop} {free : Addr → Prop} {Ts : List Cond} {own C owner : String} {b : Addr} {As rest : List Value} {g : JFrame}
    (S : CallFix p m c cc nL s args Ts own) (hM : vx_Met l y ws rm Pc Qc XC mc ms free) (cw : va_CU R s args own C owner index x y bytes maxL ret ws rm mc ms n) (hp : PreV s H C b Pc As)
    (hg : g.method = m) (hn : As.length = n) (hsize : g.locals.size = nL) (hstack : g.stack = As.reverse ++ .ref b :: rest) (hW : 2 * g.monitorRoom + (rest.map fun v => v.category).sum ≤ 8) (hdg : decode cc g.pc = .ok (.invokevirtual index, 3)) (hf : cells + mc ≤ R.cells ∧ slots + ms ≤ R.slots) :
    vx_Run p l e R s m args below meth c H locs cells slots mc ms g rest (Qc (Value.ref b :: As).toArray) XC free := by
  obtain ⟨hrc, hrs, hfr, hlo, hws, hcw⟩ := cw.back
  have hini := cw.init
  have hK : vx_Back l R p e below s args y 3 8 (PreOf R mc ms Pc) (PostOf Qc mc ms free) (vx_Post XC mc ms free) := vx_back (bytes := bytes) (maxL := maxL) (ret := ret) hM hp.1 hrc hrs hfr hlo hws hcw (fun a' U hW => word_at hW (Or.inl (by first | rfl | simp [Cond.onTables, Cond.keeps, Cond.steady])) hini)
  obtain ⟨hx, hb, hml, ho, -⟩ := S
  obtain ⟨-, ⟨cellB, hcB, hoB, hclB⟩, hPc⟩ := hp
  intro T hT X
  rcases vx_callVU X hx (C := C) (owner := owner) (bytes := bytes) (maxL := maxL) (ret := ret) ho cw.link cw.same cw.decl cw.notMH cw.sel cw.inst cw.code hK (by rw [hT]; exact hcB) hoB hclB hg (hsize.trans hml.symm) (argsL := As) (rest := rest) (fun sig h => hn.trans (cw.len sig h)) hstack hW (by rw [hb]; exact hdg)
    (fun vm₁ hW₁ => ⟨hf.1, hf.2, hPc (T.setVm vm₁) hT hW₁⟩) with ⟨v, vm₁, ⟨U', l2, c2, s2⟩, hW₁, X', ⟨g', mk, t, L, e1, e2, hq, h1, hL, h2, h3⟩, st⟩ | ⟨q, vm₁, ⟨U', l2, c2, s2⟩, hW₁, X', ⟨g', mk, t, L, E, ce, e1, e2, hq, hce, hcv, hcl, h1, hL, h2, h3⟩, st⟩
  · dsimp only [Pt.U, Pt.locs, Pt.cells, Pt.slots] at X' e1 e2 h1 h2 h3 st
    subst h1; subst h2; subst h3
    exact Or.inl ⟨v, (T.setVm vm₁).calling g' mk (Value.ref b :: As).toArray, t, U', L, hT, X', hL, e1, e2, hq, st⟩
  · dsimp only [Pt.U, Pt.locs, Pt.cells, Pt.slots] at X' e1 e2 h1 h2 h3 st hcl
    subst h1; subst h2; subst h3
    exact Or.inr ⟨q, (T.setVm vm₁).calling g' mk (Value.ref b :: As).toArray, t, U', L, E, ce, hT, X', hL, e1, e2, hq, hce, hcv, vx_cls hW₁ hcl, st⟩
end
/-! ===== END ===== -/
/-! ===== BEGIN super.m(..) that may throw (follows va_callSU, va_runSU) ===== -/
section
variable {p : Program} {l : Launch} {e : Env} {R : Room} {s : State} {m : MethodId} {args : Array Value} {below : List Frame} {meth : Method} {c : Code} {H : Heap} {locs : List Loc} {cells slots : Nat}
theorem vx_callSU {T : State} {locs : List Loc} {cells slots : Nat} (X : Stand p l e R s m args below meth c T locs cells slots) (hexec : p.tables.exec = Jvm.exec) {own : String} {index : Nat} {y : MethodName} {bytes : ByteArray} {maxL : Nat} {ret : Option FieldType}
    (hown : s.vm.findClass own = some m.cls) (hlink : (Cond.methodLink own index y).before args s = true) (hsame : (Cond.sameMethod y.cls y.cls y.name y.desc).before args s = true) (hsup : (Cond.superclass own y.cls).before args s = true)
    (hinst : (Cond.instanceMethod y).before args s = true) (hcode : (Cond.code y bytes maxL ret).before args s = true) (hno : y.name ≠ "<init>")
    {W : Nat} {Pre : Pt → Array Value → Prop} {Post : Pt → Array Value → Option Value → Pt → Prop} {PostX : Pt → Array Value → Addr → Pt → Prop} (hK : vx_Back l R p e below s args y 3 W Pre Post PostX)
    {b : Addr} {cellB : Cell} {kB : Class} (hcell : T.heap[b]? = some cellB) (hobj : cellB.vm.isStatics = false) (hkB : s.vm.classes[cellB.cls]? = some kB)
    {g : JFrame} (hg : g.method = m) (hsize : g.locals.size = c.maxLocals) {argsL rest : List Value} (hlen : ∀ sig, parseMethodDescriptor y.desc = some sig → argsL.length = sig.parameters.length)
    (hstack : g.stack = argsL.reverse ++ .ref b :: rest) (hW : 2 * g.monitorRoom + (rest.map fun v => v.category).sum ≤ W) (hdg : decode c.code g.pc = .ok (.invokespecial index, 3))
    (hpre : ∀ vm₁, s.WarmedH vm₁ → Pre ⟨T.setVm vm₁, locs, cells, slots⟩ (Value.ref b :: argsL).toArray) :
    (∃ (v : Option Value) (vm₁ : Vm) (B : Pt), s.WarmedH vm₁ ∧ Stand p l e R s m args below meth c B.U B.locs B.cells B.slots ∧ Post ⟨T.setVm vm₁, locs, cells, slots⟩ (Value.ref b :: argsL).toArray v B ∧
      ∀ target, Steps p.tables e below (B.U.setTop { g with pc := g.pc + 3, stack := v.toList ++ rest }) target → Steps p.tables e below (T.setTop g) target) ∨
    (∃ (q : Addr) (vm₁ : Vm) (B : Pt), s.WarmedH vm₁ ∧ Stand p l e R s m args below meth c B.U B.locs B.cells B.slots ∧ PostX ⟨T.setVm vm₁, locs, cells, slots⟩ (Value.ref b :: argsL).toArray q B ∧
      Steps p.tables e below (T.setTop g) ((B.U.setTop { g with stack := rest }).pushFrame (.throwing q))) := by
  obtain ⟨mk, methM, hnamed, hmethM, hstM, habM⟩ := Cond.instanceMethod_spec hinst
  obtain ⟨methM', cM, hmethM', -, -, -, -, -, -, hsigM⟩ := Cond.code_spec hnamed hcode
  cases hmethM.symm.trans hmethM'
  obtain ⟨ps, dk, kp, hps, hdk, hkp, hsuper, -, -, hnid⟩ := Cond.superclass_spec hown hsup
  have hn : s.methodNamed? ⟨y.cls, y.name, y.desc⟩ = some mk := hnamed
  have hpm : ps = mk.cls := Option.some.inj (hps.symm.trans (findClass_of_methodNamed hnamed))
  have hsub : s.vm.isSubclass ps mk.cls = true := by rw [hpm]; simp [Vm.isSubclass, Vm.isSubclassAux]
  obtain ⟨vm₁, X₁, hstep₁⟩ := X.invokespecialUp hexec hown hlink hsame hn hmethM hstM habM hno hdk hnid hps hsuper hsub (a := b) (cell := cellB) hcell
    (fun z h => by rw [h] at hobj; cases hobj) hkB (g := g) hg (argsL := argsL) (rest := rest) (hlen _ hsigM) hstack hdg
  rcases hK m meth c ⟨T.setVm vm₁, locs, cells, slots⟩ { g with stack := rest } (.invokespecial index) mk (Value.ref b :: argsL).toArray X₁ hg hsize hdg hW (X₁.named hnamed) (hpre vm₁ X₁.warmed) with ⟨v, B, X', hpost, hsteps⟩ | ⟨q, B, X', hpost, hsteps⟩
  · exact Or.inl ⟨v, vm₁, B, X₁.warmed, X', hpost, fun target h => hstep₁ _ (by rw [doInvoke_state]; exact hsteps.trans h)⟩
  · exact Or.inr ⟨q, vm₁, B, X₁.warmed, X', hpost, hstep₁ _ (by rw [doInvoke_state]; exact hsteps)⟩
theorem vx_runSU {y : MethodName} {bytes cc : ByteArray} {maxL nL mc ms n index : Nat} {ret : Option FieldType} {ws : List Cond} {rm : Room} {Pc : Array Value → State → Prop} {Qc : Array Value → State → Outcome → State → Prop} {XC : String → State → State → Prop} {free : Addr → Prop} {Ts : List Cond} {own C : String} {cC : ClassId} {b : Addr} {As rest : List Value} {g : JFrame}
    (hat : ClassAt s C cC) (S : CallFix p m c cc nL s args Ts own) (hM : vx_Met l y ws rm Pc Qc XC mc ms free) (cw : va_CS R s args own index y bytes maxL ret ws rm mc ms n) (hp : PreV s H C b Pc As)
    (hg : g.method = m) (hn : As.length = n) (hsize : g.locals.size = nL) (hstack : g.stack = As.reverse ++ .ref b :: rest) (hW : 2 * g.monitorRoom + (rest.map fun v => v.category).sum ≤ 8) (hdg : decode cc g.pc = .ok (.invokespecial index, 3)) (hf : cells + mc ≤ R.cells ∧ slots + ms ≤ R.slots) :
    vx_Run p l e R s m args below meth c H locs cells slots mc ms g rest (Qc (Value.ref b :: As).toArray) XC free := by
  obtain ⟨⟨hrc, hrs, hfr, hlo, hws, hcw⟩, hl1, hl2, hl3, hl4, hini, hcode, hno, hlen⟩ := cw
  have hK : vx_Back l R p e below s args y 3 8 (PreOf R mc ms Pc) (PostOf Qc mc ms free) (vx_Post XC mc ms free) := vx_back (bytes := bytes) (maxL := maxL) (ret := ret) hM hp.1 hrc hrs hfr hlo hws hcw (fun a' U hW => word_at hW (Or.inl (by first | rfl | simp [Cond.onTables, Cond.keeps, Cond.steady])) hini)
  obtain ⟨hx, hb, hml, ho, -⟩ := S
  obtain ⟨-, ⟨cellB, hcB, hoB, hclB⟩, hPc⟩ := hp
  obtain ⟨hfc, kB, hkB, -⟩ := hat
  cases hfc.symm.trans hclB
  intro T hT X
  rcases vx_callSU X hx (bytes := bytes) (maxL := maxL) (ret := ret) ho hl1 hl2 hl3 hl4 hcode hno hK (by rw [hT]; exact hcB) hoB hkB hg (hsize.trans hml.symm) (argsL := As) (rest := rest) (fun sig h => hn.trans (hlen sig h)) hstack hW (by rw [hb]; exact hdg)
    (fun vm₁ hW₁ => ⟨hf.1, hf.2, hPc (T.setVm vm₁) hT hW₁⟩) with ⟨v, vm₁, ⟨U', l2, c2, s2⟩, hW₁, X', ⟨g', mk, t, L, e1, e2, hq, h1, hL, h2, h3⟩, st⟩ | ⟨q, vm₁, ⟨U', l2, c2, s2⟩, hW₁, X', ⟨g', mk, t, L, E, ce, e1, e2, hq, hce, hcv, hcl, h1, hL, h2, h3⟩, st⟩
  · dsimp only [Pt.U, Pt.locs, Pt.cells, Pt.slots] at X' e1 e2 h1 h2 h3 st
    subst h1; subst h2; subst h3
    exact Or.inl ⟨v, (T.setVm vm₁).calling g' mk (Value.ref b :: As).toArray, t, U', L, hT, X', hL, e1, e2, hq, st⟩
  · dsimp only [Pt.U, Pt.locs, Pt.cells, Pt.slots] at X' e1 e2 h1 h2 h3 st hcl
    subst h1; subst h2; subst h3
    exact Or.inr ⟨q, (T.setVm vm₁).calling g' mk (Value.ref b :: As).toArray, t, U', L, E, ce, hT, X', hL, e1, e2, hq, hce, hcv, vx_cls hW₁ hcl, st⟩
end
/-! ===== END ===== -/
/-! ===== BEGIN a private method of a nest mate that may throw (follows va_callVN, va_callSN, va_runVN, va_runSN) ===== -/
section
variable {p : Program} {l : Launch} {e : Env} {R : Room} {s : State} {m : MethodId} {args : Array Value} {below : List Frame} {meth : Method} {c : Code} {H : Heap} {locs : List Loc} {cells slots : Nat}
variable {T : State}
theorem vx_callVN (X : Stand p l e R s m args below meth c T locs cells slots) (hexec : p.tables.exec = Jvm.exec) {own C : String} {index : Nat} {host : String} {y : MethodName} {bytes : ByteArray} {maxL : Nat} {ret : Option FieldType}
    (hown : s.vm.findClass own = some m.cls) (hlink : (Cond.methodLinkNest own index y host).before args s = true) (hinst : (Cond.instanceMethod y).before args s = true) (hsel : (Cond.selects C y y).before args s = true)
    (hcode : (Cond.code y bytes maxL ret).before args s = true) (hy : y.cls ≠ "java/lang/invoke/MethodHandle" ∧ y.cls ≠ "java/lang/invoke/VarHandle")
    {W : Nat} {Pre : Pt → Array Value → Prop} {Post : Pt → Array Value → Option Value → Pt → Prop} {PostX : Pt → Array Value → Addr → Pt → Prop} (hK : vx_Back l R p e below s args y 3 W Pre Post PostX)
    {b : Addr} {cellB : Cell} (hcell : T.heap[b]? = some cellB) (hobj : cellB.vm.isStatics = false) (hcls : s.vm.findClass C = some cellB.cls)
    {g : JFrame} (hg : g.method = m) (hsize : g.locals.size = c.maxLocals) {argsL rest : List Value} (hlen : ∀ sig, parseMethodDescriptor y.desc = some sig → argsL.length = sig.parameters.length)
    (hstack : g.stack = argsL.reverse ++ .ref b :: rest) (hW : 2 * g.monitorRoom + (rest.map fun v => v.category).sum ≤ W) (hdg : decode c.code g.pc = .ok (.invokevirtual index, 3))
    (hpre : ∀ vm₁, s.WarmedH vm₁ → Pre ⟨T.setVm vm₁, locs, cells, slots⟩ (Value.ref b :: argsL).toArray) :
    (∃ (v : Option Value) (vm₁ : Vm) (B : Pt), s.WarmedH vm₁ ∧ Stand p l e R s m args below meth c B.U B.locs B.cells B.slots ∧ Post ⟨T.setVm vm₁, locs, cells, slots⟩ (Value.ref b :: argsL).toArray v B ∧
      ∀ target, Steps p.tables e below (B.U.setTop { g with pc := g.pc + 3, stack := v.toList ++ rest }) target → Steps p.tables e below (T.setTop g) target) ∨
    (∃ (q : Addr) (vm₁ : Vm) (B : Pt), s.WarmedH vm₁ ∧ Stand p l e R s m args below meth c B.U B.locs B.cells B.slots ∧ PostX ⟨T.setVm vm₁, locs, cells, slots⟩ (Value.ref b :: argsL).toArray q B ∧
      Steps p.tables e below (T.setTop g) ((B.U.setTop { g with stack := rest }).pushFrame (.throwing q))) := by
  obtain ⟨mk, methM, hnamed, hmethM, hstM, habM⟩ := Cond.instanceMethod_spec hinst
  obtain ⟨methM', cM, hmethM', -, -, -, -, -, -, hsigM⟩ := Cond.code_spec hnamed hcode
  cases hmethM.symm.trans hmethM'
  obtain ⟨c2, r2, m2, q1, q2, q3, q4, kP, hkP, hkPi⟩ := Cond.selects_spec hsel
  cases hcls.symm.trans q1
  cases (State.methodFound?_of_named hnamed hy).symm.trans q2
  cases hnamed.symm.trans q3
  have hselP : selectMethod e.platform s.vm cellB.cls mk = .method mk := by rw [Launch.admits_selectMethod X.admits]; exact q4
  obtain ⟨vm₁, X₁, hstep₁⟩ := X.invokevirtualNest hexec hown hlink hnamed hmethM hstM hkP hkPi hy (a := b) (cell := cellB) hcell
    (fun z h => by rw [h] at hobj; cases hobj) hselP hmethM habM hkP hkPi (g := g) hg (argsL := argsL) (rest := rest) (hlen _ hsigM) hstack hdg
  rcases hK m meth c ⟨T.setVm vm₁, locs, cells, slots⟩ { g with stack := rest } (.invokevirtual index) mk (Value.ref b :: argsL).toArray X₁ hg hsize hdg hW (X₁.named hnamed) (hpre vm₁ X₁.warmed) with ⟨v, B, X', hpost, hsteps⟩ | ⟨q, B, X', hpost, hsteps⟩
  · exact Or.inl ⟨v, vm₁, B, X₁.warmed, X', hpost, fun target h => hstep₁ _ fun acts => by rw [doInvoke_state]; exact hsteps.trans h⟩
  · exact Or.inr ⟨q, vm₁, B, X₁.warmed, X', hpost, hstep₁ _ fun acts => by rw [doInvoke_state]; exact hsteps⟩
theorem vx_callSN (X : Stand p l e R s m args below meth c T locs cells slots) (hexec : p.tables.exec = Jvm.exec) {own : String} {index : Nat} {host : String} {y : MethodName} {bytes : ByteArray} {maxL : Nat} {ret : Option FieldType}
    (hown : s.vm.findClass own = some m.cls) (hlink : (Cond.methodLinkNest own index y host).before args s = true) (hstat : (Cond.static y).before args s = true) (hinit : (Cond.initialized y.cls).before args s = true)
    (hcode : (Cond.code y bytes maxL ret).before args s = true) (hy : y.cls ≠ "java/lang/invoke/MethodHandle" ∧ y.cls ≠ "java/lang/invoke/VarHandle")
    {W : Nat} {Pre : Pt → Array Value → Prop} {Post : Pt → Array Value → Option Value → Pt → Prop} {PostX : Pt → Array Value → Addr → Pt → Prop} (hK : vx_Back l R p e below s args y 3 W Pre Post PostX)
    {g : JFrame} (hg : g.method = m) (hsize : g.locals.size = c.maxLocals) {argsL rest : List Value} (hlen : ∀ sig, parseMethodDescriptor y.desc = some sig → argsL.length = sig.parameters.length)
    (hstack : g.stack = argsL.reverse ++ rest) (hW : 2 * g.monitorRoom + (rest.map fun v => v.category).sum ≤ W) (hdg : decode c.code g.pc = .ok (.invokestatic index, 3))
    (hpre : ∀ vm₁, s.WarmedH vm₁ → Pre ⟨T.setVm vm₁, locs, cells, slots⟩ argsL.toArray) :
    (∃ (v : Option Value) (vm₁ : Vm) (B : Pt), s.WarmedH vm₁ ∧ Stand p l e R s m args below meth c B.U B.locs B.cells B.slots ∧ Post ⟨T.setVm vm₁, locs, cells, slots⟩ argsL.toArray v B ∧
      ∀ target, Steps p.tables e below (B.U.setTop { g with pc := g.pc + 3, stack := v.toList ++ rest }) target → Steps p.tables e below (T.setTop g) target) ∨
    (∃ (q : Addr) (vm₁ : Vm) (B : Pt), s.WarmedH vm₁ ∧ Stand p l e R s m args below meth c B.U B.locs B.cells B.slots ∧ PostX ⟨T.setVm vm₁, locs, cells, slots⟩ argsL.toArray q B ∧
      Steps p.tables e below (T.setTop g) ((B.U.setTop { g with stack := rest }).pushFrame (.throwing q))) := by
  obtain ⟨mk, hnamed⟩ := Cond.code_named hcode
  obtain ⟨methM, cM, hmethM, -, -, -, -, -, -, hsigM⟩ := Cond.code_spec hnamed hcode
  have hstatic : methM.isStatic = true := Cond.static_spec hnamed hmethM hstat
  obtain ⟨kP, hkP, -⟩ := className_of_methodNamed hnamed
  have hinitP : kP.init = .initialized := Cond.initialized_spec (findClass_of_methodNamed hnamed) hkP hinit
  obtain ⟨vm₁, X₁, hstep₁⟩ := X.invokestaticNest hexec hown hlink hnamed hmethM hstatic hkP hinitP hy (g := g) hg (argsL := argsL) (rest := rest) (hlen _ hsigM) hstack hdg
  rcases hK m meth c ⟨T.setVm vm₁, locs, cells, slots⟩ { g with stack := rest } (.invokestatic index) mk argsL.toArray X₁ hg hsize hdg hW (X₁.named hnamed) (hpre vm₁ X₁.warmed) with ⟨v, B, X', hpost, hsteps⟩ | ⟨q, B, X', hpost, hsteps⟩
  · exact Or.inl ⟨v, vm₁, B, X₁.warmed, X', hpost, fun target h => hstep₁ _ fun acts => by rw [doInvoke_state]; exact hsteps.trans h⟩
  · exact Or.inr ⟨q, vm₁, B, X₁.warmed, X', hpost, hstep₁ _ fun acts => by rw [doInvoke_state]; exact hsteps⟩
theorem vx_runVN {y : MethodName} {bytes cc : ByteArray} {maxL nL mc ms n index : Nat} {ret : Option FieldType} {ws : List Cond} {rm : Room} {Pc : Array Value → State → Prop} {Qc : Array Value → State → Outcome → State → Prop} {XC : String → State → State → Prop} {free : Addr → Prop} {Ts : List Cond} {own C host : String} {b : Addr} {As rest : List Value} {g : JFrame}
    (S : CallFix p m c cc nL s args Ts own) (hM : vx_Met l y ws rm Pc Qc XC mc ms free) (cw : va_CN R s args own index y host bytes maxL ret ws rm mc ms n ∧ (Cond.instanceMethod y).before args s = true ∧ (Cond.selects C y y).before args s = true) (hp : PreV s H C b Pc As)
    (hg : g.method = m) (hn : As.length = n) (hsize : g.locals.size = nL) (hstack : g.stack = As.reverse ++ .ref b :: rest) (hW : 2 * g.monitorRoom + (rest.map fun v => v.category).sum ≤ 8) (hdg : decode cc g.pc = .ok (.invokevirtual index, 3)) (hf : cells + mc ≤ R.cells ∧ slots + ms ≤ R.slots) :
    vx_Run p l e R s m args below meth c H locs cells slots mc ms g rest (Qc (Value.ref b :: As).toArray) XC free := by
  obtain ⟨⟨⟨hrc, hrs, hfr, hlo, hws, hcw⟩, hcode, hini, hy, hlen, hl⟩, hx1, hx2⟩ := cw
  have hK : vx_Back l R p e below s args y 3 8 (PreOf R mc ms Pc) (PostOf Qc mc ms free) (vx_Post XC mc ms free) := vx_back (bytes := bytes) (maxL := maxL) (ret := ret) hM hp.1 hrc hrs hfr hlo hws hcw (fun a' U hW => word_at hW (Or.inl (by first | rfl | simp [Cond.onTables, Cond.keeps, Cond.steady])) hini)
  obtain ⟨hx, hb, hml, ho, -⟩ := S
  obtain ⟨-, ⟨cellB, hcB, hoB, hclB⟩, hPc⟩ := hp
  intro T hT X
  rcases vx_callVN X hx (C := C) (bytes := bytes) (maxL := maxL) (ret := ret) ho hl hx1 hx2 hcode hy hK (by rw [hT]; exact hcB) hoB hclB hg (hsize.trans hml.symm) (argsL := As) (rest := rest) (fun sig h => hn.trans (hlen sig h)) hstack hW (by rw [hb]; exact hdg)
    (fun vm₁ hW₁ => ⟨hf.1, hf.2, hPc (T.setVm vm₁) hT hW₁⟩) with ⟨v, vm₁, ⟨U', l2, c2, s2⟩, hW₁, X', ⟨g', mk, t, L, e1, e2, hq, h1, hL, h2, h3⟩, st⟩ | ⟨q, vm₁, ⟨U', l2, c2, s2⟩, hW₁, X', ⟨g', mk, t, L, E, ce, e1, e2, hq, hce, hcv, hcl, h1, hL, h2, h3⟩, st⟩
  · dsimp only [Pt.U, Pt.locs, Pt.cells, Pt.slots] at X' e1 e2 h1 h2 h3 st
    subst h1; subst h2; subst h3
    exact Or.inl ⟨v, (T.setVm vm₁).calling g' mk (Value.ref b :: As).toArray, t, U', L, hT, X', hL, e1, e2, hq, st⟩
  · dsimp only [Pt.U, Pt.locs, Pt.cells, Pt.slots] at X' e1 e2 h1 h2 h3 st hcl
    subst h1; subst h2; subst h3
    exact Or.inr ⟨q, (T.setVm vm₁).calling g' mk (Value.ref b :: As).toArray, t, U', L, E, ce, hT, X', hL, e1, e2, hq, hce, hcv, vx_cls hW₁ hcl, st⟩
theorem vx_runSN {y : MethodName} {bytes cc : ByteArray} {maxL nL mc ms n index : Nat} {ret : Option FieldType} {ws : List Cond} {rm : Room} {Pc : Array Value → State → Prop} {Qc : Array Value → State → Outcome → State → Prop} {XC : String → State → State → Prop} {free : Addr → Prop} {Ts : List Cond} {own host : String} {As rest : List Value} {g : JFrame}
    (S : CallFix p m c cc nL s args Ts own) (hM : vx_Met l y ws rm Pc Qc XC mc ms free) (cw : va_CN R s args own index y host bytes maxL ret ws rm mc ms n ∧ (Cond.static y).before args s = true ∧ True) (hp : PreS s H Pc As)
    (hg : g.method = m) (hn : As.length = n) (hsize : g.locals.size = nL) (hstack : g.stack = As.reverse ++ rest) (hW : 2 * g.monitorRoom + (rest.map fun v => v.category).sum ≤ 8) (hdg : decode cc g.pc = .ok (.invokestatic index, 3)) (hf : cells + mc ≤ R.cells ∧ slots + ms ≤ R.slots) :
    vx_Run p l e R s m args below meth c H locs cells slots mc ms g rest (Qc As.toArray) XC free := by
  obtain ⟨⟨⟨hrc, hrs, hfr, hlo, hws, hcw⟩, hcode, hini, hy, hlen, hl⟩, hx1, hx2⟩ := cw
  have hK : vx_Back l R p e below s args y 3 8 (PreOf R mc ms Pc) (PostOf Qc mc ms free) (vx_Post XC mc ms free) := vx_back (bytes := bytes) (maxL := maxL) (ret := ret) hM hp.1 hrc hrs hfr hlo hws hcw (fun a' U hW => word_at hW (Or.inl (by first | rfl | simp [Cond.onTables, Cond.keeps, Cond.steady])) hini)
  obtain ⟨hx, hb, hml, ho, -⟩ := S
  have hPc := hp.2
  intro T hT X
  rcases vx_callSN X hx (bytes := bytes) (maxL := maxL) (ret := ret) ho hl hx1 hini hcode hy hK hg (hsize.trans hml.symm) (argsL := As) (rest := rest) (fun sig h => hn.trans (hlen sig h)) hstack hW (by rw [hb]; exact hdg)
    (fun vm₁ hW₁ => ⟨hf.1, hf.2, hPc (T.setVm vm₁) hT hW₁⟩) with ⟨v, vm₁, ⟨U', l2, c2, s2⟩, hW₁, X', ⟨g', mk, t, L, e1, e2, hq, h1, hL, h2, h3⟩, st⟩ | ⟨q, vm₁, ⟨U', l2, c2, s2⟩, hW₁, X', ⟨g', mk, t, L, E, ce, e1, e2, hq, hce, hcv, hcl, h1, hL, h2, h3⟩, st⟩
  · dsimp only [Pt.U, Pt.locs, Pt.cells, Pt.slots] at X' e1 e2 h1 h2 h3 st
    subst h1; subst h2; subst h3
    exact Or.inl ⟨v, (T.setVm vm₁).calling g' mk As.toArray, t, U', L, hT, X', hL, e1, e2, hq, st⟩
  · dsimp only [Pt.U, Pt.locs, Pt.cells, Pt.slots] at X' e1 e2 h1 h2 h3 st hcl
    subst h1; subst h2; subst h3
    exact Or.inr ⟨q, (T.setVm vm₁).calling g' mk As.toArray, t, U', L, E, ce, hT, X', hL, e1, e2, hq, hce, hcv, vx_cls hW₁ hcl, st⟩
end
/-! ===== END ===== -/
/-! ===== BEGIN calls by an interface of methods that may throw (vx_callIF, vx_runF follow va_callIF, va_runF of this kit) ===== -/
section
variable {p : Program} {l : Launch} {e : Env} {R : Room} {s : State} {m : MethodId} {args : Array Value} {below : List Frame} {meth : Method} {c : Code} {H : Heap} {locs : List Loc} {cells slots : Nat} {Q : State → Prop}
variable {mc ms : Nat} {free : Addr → Prop} {A0 A1 : Nat → Prop} {H0 : Heap} {a : Array Value} {pc : Nat} {ls : Array Slot} {st0 rest : List Value}
def vx_Run5 (p : Program) (l : Launch) (e : Env) (R : Room) (s : State) (m : MethodId) (args : Array Value) (below : List Frame) (meth : Method) (c : Code) (H : Heap) (locs : List Loc) (cells slots mc ms : Nat) (g : JFrame) (rest : List Value) (Qa : State → Outcome → State → Prop) (XC : String → State → State → Prop) (free : Addr → Prop) : Prop :=
  ∀ T : State, T.heap = H → Stand p l e R s m args below meth c T locs cells slots →
    (∃ (v : Option Value) (st₀ t T' : State) (L : List Loc), st₀.heap = H ∧ Stand p l e R s m args below meth c T' (locs ++ L) (cells + mc) (slots + ms) ∧ (∀ q ∈ L, free q.base) ∧ T'.heap = t.heap ∧ T'.vm = t.vm ∧ Qa st₀ (.returned v) t ∧
      Goes p e below T g T' { g with pc := g.pc + 5, stack := v.toList ++ rest }) ∨
    (∃ (q : Addr) (st₀ t T' : State) (L : List Loc) (E : String) (ce : Cell), st₀.heap = H ∧ Stand p l e R s m args below meth c T' (locs ++ L) (cells + mc) (slots + ms) ∧ (∀ z ∈ L, free z.base) ∧ T'.heap = t.heap ∧ T'.vm = t.vm ∧ XC E st₀ t ∧ t.heap[q]? = some ce ∧ ce.vm = .none ∧ s.vm.findClass E = some ce.cls ∧
      Steps p.tables e below (T.setTop g) ((T'.setTop { g with stack := rest }).pushFrame (.throwing q)))
theorem vx_callIF {T : State} (X : Stand p l e R s m args below meth c T locs cells slots) (hexec : p.tables.exec = Jvm.exec) {own C : String} {index count : Nat} {x y : MethodName} {bytes : ByteArray} {maxL : Nat} {ret : Option FieldType}
    (hown : s.vm.findClass own = some m.cls) (hlink : (Cond.methodLink own index x).before args s = true) (hdecl : (Cond.declares x).before args s = true) (hface : (Cond.interfaceMethod x.cls x.cls x.name x.desc).before args s = true)
    (hsel : (Cond.selects C x y).before args s = true) (hinst : (Cond.instanceMethod y).before args s = true) (hpub : (Cond.publicMethod y).before args s = true) (hunh : (Cond.unhidden C x.name x.desc).before args s = true)
    (hcast : (Cond.castable C x.cls).before args s = true) (hcode : (Cond.code y bytes maxL ret).before args s = true) (hx : x.cls ≠ "java/lang/invoke/MethodHandle" ∧ x.cls ≠ "java/lang/invoke/VarHandle")
    {W9 : Nat} {Pre : Pt → Array Value → Prop} {Post : Pt → Array Value → Option Value → Pt → Prop} {PostX : Pt → Array Value → Addr → Pt → Prop} (hK : vx_Back l R p e below s args y 5 W9 Pre Post PostX)
    {b : Addr} {cellB : Cell} {kB : Class} (hcell : T.heap[b]? = some cellB) (hobj : cellB.vm.isStatics = false) (hcls : s.vm.findClass C = some cellB.cls) (hkB : s.vm.classes[cellB.cls]? = some kB)
    {g : JFrame} (hg : g.method = m) (hsize : g.locals.size = c.maxLocals) {argsL rest : List Value} (hlen : ∀ sig, parseMethodDescriptor x.desc = some sig → argsL.length = sig.parameters.length)
    (hstack : g.stack = argsL.reverse ++ .ref b :: rest) (hW : 2 * g.monitorRoom + (rest.map fun v => v.category).sum ≤ W9) (hdg : decode c.code g.pc = .ok (.invokeinterface index count, 5))
    (hpre : ∀ vm₁, s.WarmedH vm₁ → Pre ⟨T.setVm vm₁, locs, cells, slots⟩ (Value.ref b :: argsL).toArray) :
    (∃ (v : Option Value) (vm₁ : Vm) (B : Pt), s.WarmedH vm₁ ∧ Stand p l e R s m args below meth c B.U B.locs B.cells B.slots ∧ Post ⟨T.setVm vm₁, locs, cells, slots⟩ (Value.ref b :: argsL).toArray v B ∧
      ∀ target, Steps p.tables e below (B.U.setTop { g with pc := g.pc + 5, stack := v.toList ++ rest }) target → Steps p.tables e below (T.setTop g) target) ∨
    (∃ (q : Addr) (vm₁ : Vm) (B : Pt), s.WarmedH vm₁ ∧ Stand p l e R s m args below meth c B.U B.locs B.cells B.slots ∧ PostX ⟨T.setVm vm₁, locs, cells, slots⟩ (Value.ref b :: argsL).toArray q B ∧
      Steps p.tables e below (T.setTop g) ((B.U.setTop { g with stack := rest }).pushFrame (.throwing q))) := by
  obtain ⟨r0, r, hn, hrm, hstR, hsigR⟩ := Cond.declares_spec hdecl
  obtain ⟨cL, kL, r1, hcL, hkL, hiL, hfoundL, hn1⟩ := Cond.interfaceMethod_spec hface
  cases hn.symm.trans hn1
  have hr0cls : r0.cls = cL := Option.some.inj ((findClass_of_methodNamed hn).symm.trans hcL)
  obtain ⟨hnameR, hdescR⟩ := name_of_methodNamed hn hrm
  obtain ⟨mk, methM, hnamed, hmethM, -, habM⟩ := Cond.instanceMethod_spec hinst
  obtain ⟨c2, r2, m2, q1, q2, q3, q4, -⟩ := Cond.selects_spec hsel
  cases hcls.symm.trans q1
  cases hfoundL.symm.trans q2
  cases hnamed.symm.trans q3
  have hselP : selectMethod e.platform s.vm cellB.cls r0 = .method mk := by rw [Launch.admits_selectMethod X.admits]; exact q4
  have hpubM : hasFlag methM.accessFlags Acc.public_ = true := Cond.publicMethod_spec hnamed hmethM hpub
  have hway : ((cellB.cls :: s.vm.superclasses cellB.cls).any fun k => (declaredIn s.vm r.name r.desc k).any fun (_, z) => z.isPrivate || z.isStatic) = false := by
    rw [hnameR, hdescR]; exact Cond.unhidden_spec hcls hunh
  obtain ⟨c3, t3, w1, w2, w3⟩ := Cond.castable_spec hcast
  cases hcls.symm.trans w1
  cases hcL.symm.trans w2
  obtain ⟨vm₁, X₁, hstep₁⟩ := X.invokeinterface hexec hown hlink hn hrm hstR (by rw [hr0cls]; exact hkL) hiL hx (a := b) (cell := cellB) (kcell := kB) hcell
    (fun z h => by rw [h] at hobj; cases hobj) hkB (by rw [hr0cls]; exact w3) hselP hmethM hway hpubM habM (g := g) hg (argsL := argsL) (rest := rest) (hlen _ hsigR) hstack hdg
  rcases hK m meth c ⟨T.setVm vm₁, locs, cells, slots⟩ { g with stack := rest } (.invokeinterface index count) mk (Value.ref b :: argsL).toArray X₁ hg hsize hdg hW (X₁.named hnamed) (hpre vm₁ X₁.warmed) with ⟨v, B, X', hpost, hsteps⟩ | ⟨q, B, X', hpost, hsteps⟩
  · exact Or.inl ⟨v, vm₁, B, X₁.warmed, X', hpost, fun target h => hstep₁ _ fun acts => by rw [doInvoke_state]; exact hsteps.trans h⟩
  · exact Or.inr ⟨q, vm₁, B, X₁.warmed, X', hpost, hstep₁ _ fun acts => by rw [doInvoke_state]; exact hsteps⟩
theorem vx_runF {x y : MethodName} {bytes cc : ByteArray} {maxL nL mc ms n index count : Nat} {ret : Option FieldType} {ws : List Cond} {rm : Room} {Pc : Array Value → State → Prop} {Qc : Array Value → State → Outcome → State → Prop} {XC : String → State → State → Prop} {free : Addr → Prop} {Ts : List Cond} {own C : String} {cC : ClassId} {b : Addr} {As rest : List Value} {g : JFrame}
    (hat : ClassAt s C cC) (S : CallFix p m c cc nL s args Ts own) (hM : vx_Met l y ws rm Pc Qc XC mc ms free) (cw : va_CI R s args own C index x y bytes maxL ret ws rm mc ms n) (hp : PreV s H C b Pc As)
    (hg : g.method = m) (hn : As.length = n) (hsize : g.locals.size = nL) (hstack : g.stack = As.reverse ++ .ref b :: rest) (hW : 2 * g.monitorRoom + (rest.map fun v => v.category).sum ≤ 8) (hdg : decode cc g.pc = .ok (.invokeinterface index count, 5)) (hf : cells + mc ≤ R.cells ∧ slots + ms ≤ R.slots) :
    vx_Run5 p l e R s m args below meth c H locs cells slots mc ms g rest (Qc (Value.ref b :: As).toArray) XC free := by
  obtain ⟨hrc, hrs, hfr, hlo, hws, hcw⟩ := cw.back
  have hini := cw.init
  have hK : vx_Back l R p e below s args y 5 8 (PreOf R mc ms Pc) (PostOf Qc mc ms free) (vx_Post XC mc ms free) := vx_back (bytes := bytes) (maxL := maxL) (ret := ret) hM hp.1 hrc hrs hfr hlo hws hcw (fun a' U hW => word_at hW (Or.inl (by first | rfl | simp [Cond.onTables, Cond.keeps, Cond.steady])) hini)
  obtain ⟨hx, hb, hml, ho, -⟩ := S
  obtain ⟨-, ⟨cellB, hcB, hoB, hclB⟩, hPc⟩ := hp
  obtain ⟨hfc, kB, hkB, -⟩ := hat
  cases hfc.symm.trans hclB
  intro T hT X
  rcases vx_callIF X hx (C := C) (bytes := bytes) (maxL := maxL) (ret := ret) ho cw.link cw.decl cw.face cw.sel cw.inst cw.pub cw.unh cw.cast cw.code cw.notMH hK (by rw [hT]; exact hcB) hoB hclB hkB hg (hsize.trans hml.symm) (argsL := As) (rest := rest) (fun sig h => hn.trans (cw.len sig h)) hstack hW (by rw [hb]; exact hdg)
    (fun vm₁ hW₁ => ⟨hf.1, hf.2, hPc (T.setVm vm₁) hT hW₁⟩) with ⟨v, vm₁, ⟨U', l2, c2, s2⟩, hW₁, X', ⟨g', mk, t, L, e1, e2, hq, h1, hL, h2, h3⟩, st⟩ | ⟨q, vm₁, ⟨U', l2, c2, s2⟩, hW₁, X', ⟨g', mk, t, L, E, ce, e1, e2, hq, hce, hcv, hcl, h1, hL, h2, h3⟩, st⟩
  · dsimp only [Pt.U, Pt.locs, Pt.cells, Pt.slots] at X' e1 e2 h1 h2 h3 st
    subst h1; subst h2; subst h3
    exact Or.inl ⟨v, (T.setVm vm₁).calling g' mk (Value.ref b :: As).toArray, t, U', L, hT, X', hL, e1, e2, hq, st⟩
  · dsimp only [Pt.U, Pt.locs, Pt.cells, Pt.slots] at X' e1 e2 h1 h2 h3 st hcl
    subst h1; subst h2; subst h3
    exact Or.inr ⟨q, (T.setVm vm₁).calling g' mk (Value.ref b :: As).toArray, t, U', L, E, ce, hT, X', hL, e1, e2, hq, hce, hcv, vx_cls hW₁ hcl, st⟩
theorem vx_callFv {S SX : Type} {post : S → Prop} {px : SX → Prop} {B : S → State → Prop} {BX : String → SX → State → Prop} {AX : Nat → Prop} (hr : vx_Run5 p l e R s m args below meth c H locs cells slots mc ms (F0 m pc ls st0) rest (va_Qv post B A1 a) (vx_X px BX AX) free) (hS : va_S A0 H0 H locs) (hA : ∀ q, q < H.size → A1 q → A0 q) (hf : ∀ q, free q → A0 q) (hAX : ∀ q, q < H.size → AX q → A0 q)
    (kx : ∀ (E : String) (ce : Cell) (q9 : Addr) (u : SX) (t : State) (H1 : Heap) (locs1 : List Loc), t.heap = H1 → s.vm.Alike t.vm → px u → BX E u t → H.size ≤ H1.size → (∀ q : Nat, q < H.size → ¬ AX q → H1[q]? = H[q]?) → va_S A0 H0 H1 locs1 → H1[q9]? = some ce → ce.vm = .none → s.vm.findClass E = some ce.cls → vx_W p l e R s m args below meth c H1 locs1 (cells + mc) (slots + ms) Q (F0 m pc ls rest) q9)
    (kk : ∀ (u : S) (t : State) (H1 : Heap) (locs1 : List Loc), t.heap = H1 → s.vm.Alike t.vm → post u → B u t → H.size ≤ H1.size → (∀ q : Nat, q < H.size → ¬ A1 q → H1[q]? = H[q]?) → va_S A0 H0 H1 locs1 → W p l e R s m args below meth c H1 locs1 (cells + mc) (slots + ms) Q (F0 m (pc + 5) ls (rest))) : W p l e R s m args below meth c H locs cells slots Q (F0 m pc ls st0) := by
  intro T hT X
  rcases hr T hT X with ⟨v, st₀, t, T', L, h0, X', hL, e1, e2, ⟨⟨u, hv, hp, hb⟩, hF⟩, st⟩ | ⟨q, st₀, t, T', L, E, ce, h0, X', hL, e1, e2, ⟨u, hp, hb, hF⟩, hce, hcv, hcl, st⟩
  · cases hv
    obtain ⟨k1, k2, k3⟩ := vx_keep h0 e1 hS hA hf hL hF
    obtain ⟨t2, a1, b1⟩ := kk u t T'.heap (locs ++ L) e1.symm (by rw [← e2]; exact X'.warmed.alike) hp hb k1 k2 k3 T' rfl X'
    exact ⟨t2, st t2 a1, b1⟩
  · obtain ⟨k1, k2, k3⟩ := vx_keep h0 e1 hS hAX hf hL hF
    obtain ⟨t2, a1, b1⟩ := kx E ce q u t T'.heap (locs ++ L) e1.symm (by rw [← e2]; exact X'.warmed.alike) hp hb k1 k2 k3 (by rw [e1]; exact hce) hcv hcl T' rfl X'
    exact ⟨t2, st.trans a1, b1⟩
theorem vx_callFi {S SX : Type} {post : Int32 → S → Prop} {px : SX → Prop} {B : S → State → Prop} {BX : String → SX → State → Prop} {AX : Nat → Prop} (hr : vx_Run5 p l e R s m args below meth c H locs cells slots mc ms (F0 m pc ls st0) rest (va_Qi post B A1 a) (vx_X px BX AX) free) (hS : va_S A0 H0 H locs) (hA : ∀ q, q < H.size → A1 q → A0 q) (hf : ∀ q, free q → A0 q) (hAX : ∀ q, q < H.size → AX q → A0 q)
    (kx : ∀ (E : String) (ce : Cell) (q9 : Addr) (u : SX) (t : State) (H1 : Heap) (locs1 : List Loc), t.heap = H1 → s.vm.Alike t.vm → px u → BX E u t → H.size ≤ H1.size → (∀ q : Nat, q < H.size → ¬ AX q → H1[q]? = H[q]?) → va_S A0 H0 H1 locs1 → H1[q9]? = some ce → ce.vm = .none → s.vm.findClass E = some ce.cls → vx_W p l e R s m args below meth c H1 locs1 (cells + mc) (slots + ms) Q (F0 m pc ls rest) q9)
    (kk : ∀ (r : Int32) (u : S) (t : State) (H1 : Heap) (locs1 : List Loc), t.heap = H1 → s.vm.Alike t.vm → post r u → B u t → H.size ≤ H1.size → (∀ q : Nat, q < H.size → ¬ A1 q → H1[q]? = H[q]?) → va_S A0 H0 H1 locs1 → W p l e R s m args below meth c H1 locs1 (cells + mc) (slots + ms) Q (F0 m (pc + 5) ls (.int r :: rest))) : W p l e R s m args below meth c H locs cells slots Q (F0 m pc ls st0) := by
  intro T hT X
  rcases hr T hT X with ⟨v, st₀, t, T', L, h0, X', hL, e1, e2, ⟨⟨r, u, hv, hp, hb⟩, hF⟩, st⟩ | ⟨q, st₀, t, T', L, E, ce, h0, X', hL, e1, e2, ⟨u, hp, hb, hF⟩, hce, hcv, hcl, st⟩
  · cases hv
    obtain ⟨k1, k2, k3⟩ := vx_keep h0 e1 hS hA hf hL hF
    obtain ⟨t2, a1, b1⟩ := kk r u t T'.heap (locs ++ L) e1.symm (by rw [← e2]; exact X'.warmed.alike) hp hb k1 k2 k3 T' rfl X'
    exact ⟨t2, st t2 a1, b1⟩
  · obtain ⟨k1, k2, k3⟩ := vx_keep h0 e1 hS hAX hf hL hF
    obtain ⟨t2, a1, b1⟩ := kx E ce q u t T'.heap (locs ++ L) e1.symm (by rw [← e2]; exact X'.warmed.alike) hp hb k1 k2 k3 (by rw [e1]; exact hce) hcv hcl T' rfl X'
    exact ⟨t2, st.trans a1, b1⟩
theorem vx_callFl {S SX : Type} {post : Int64 → S → Prop} {px : SX → Prop} {B : S → State → Prop} {BX : String → SX → State → Prop} {AX : Nat → Prop} (hr : vx_Run5 p l e R s m args below meth c H locs cells slots mc ms (F0 m pc ls st0) rest (va_Ql post B A1 a) (vx_X px BX AX) free) (hS : va_S A0 H0 H locs) (hA : ∀ q, q < H.size → A1 q → A0 q) (hf : ∀ q, free q → A0 q) (hAX : ∀ q, q < H.size → AX q → A0 q)
    (kx : ∀ (E : String) (ce : Cell) (q9 : Addr) (u : SX) (t : State) (H1 : Heap) (locs1 : List Loc), t.heap = H1 → s.vm.Alike t.vm → px u → BX E u t → H.size ≤ H1.size → (∀ q : Nat, q < H.size → ¬ AX q → H1[q]? = H[q]?) → va_S A0 H0 H1 locs1 → H1[q9]? = some ce → ce.vm = .none → s.vm.findClass E = some ce.cls → vx_W p l e R s m args below meth c H1 locs1 (cells + mc) (slots + ms) Q (F0 m pc ls rest) q9)
    (kk : ∀ (r : Int64) (u : S) (t : State) (H1 : Heap) (locs1 : List Loc), t.heap = H1 → s.vm.Alike t.vm → post r u → B u t → H.size ≤ H1.size → (∀ q : Nat, q < H.size → ¬ A1 q → H1[q]? = H[q]?) → va_S A0 H0 H1 locs1 → W p l e R s m args below meth c H1 locs1 (cells + mc) (slots + ms) Q (F0 m (pc + 5) ls (.long r :: rest))) : W p l e R s m args below meth c H locs cells slots Q (F0 m pc ls st0) := by
  intro T hT X
  rcases hr T hT X with ⟨v, st₀, t, T', L, h0, X', hL, e1, e2, ⟨⟨r, u, hv, hp, hb⟩, hF⟩, st⟩ | ⟨q, st₀, t, T', L, E, ce, h0, X', hL, e1, e2, ⟨u, hp, hb, hF⟩, hce, hcv, hcl, st⟩
  · cases hv
    obtain ⟨k1, k2, k3⟩ := vx_keep h0 e1 hS hA hf hL hF
    obtain ⟨t2, a1, b1⟩ := kk r u t T'.heap (locs ++ L) e1.symm (by rw [← e2]; exact X'.warmed.alike) hp hb k1 k2 k3 T' rfl X'
    exact ⟨t2, st t2 a1, b1⟩
  · obtain ⟨k1, k2, k3⟩ := vx_keep h0 e1 hS hAX hf hL hF
    obtain ⟨t2, a1, b1⟩ := kx E ce q u t T'.heap (locs ++ L) e1.symm (by rw [← e2]; exact X'.warmed.alike) hp hb k1 k2 k3 (by rw [e1]; exact hce) hcv hcl T' rfl X'
    exact ⟨t2, st.trans a1, b1⟩
theorem vx_callFf {S SX : Type} {post : UInt32 → S → Prop} {px : SX → Prop} {B : S → State → Prop} {BX : String → SX → State → Prop} {AX : Nat → Prop} (hr : vx_Run5 p l e R s m args below meth c H locs cells slots mc ms (F0 m pc ls st0) rest (va_Qf post B A1 a) (vx_X px BX AX) free) (hS : va_S A0 H0 H locs) (hA : ∀ q, q < H.size → A1 q → A0 q) (hf : ∀ q, free q → A0 q) (hAX : ∀ q, q < H.size → AX q → A0 q)
    (kx : ∀ (E : String) (ce : Cell) (q9 : Addr) (u : SX) (t : State) (H1 : Heap) (locs1 : List Loc), t.heap = H1 → s.vm.Alike t.vm → px u → BX E u t → H.size ≤ H1.size → (∀ q : Nat, q < H.size → ¬ AX q → H1[q]? = H[q]?) → va_S A0 H0 H1 locs1 → H1[q9]? = some ce → ce.vm = .none → s.vm.findClass E = some ce.cls → vx_W p l e R s m args below meth c H1 locs1 (cells + mc) (slots + ms) Q (F0 m pc ls rest) q9)
    (kk : ∀ (r : UInt32) (u : S) (t : State) (H1 : Heap) (locs1 : List Loc), t.heap = H1 → s.vm.Alike t.vm → post r u → B u t → H.size ≤ H1.size → (∀ q : Nat, q < H.size → ¬ A1 q → H1[q]? = H[q]?) → va_S A0 H0 H1 locs1 → W p l e R s m args below meth c H1 locs1 (cells + mc) (slots + ms) Q (F0 m (pc + 5) ls (.float r :: rest))) : W p l e R s m args below meth c H locs cells slots Q (F0 m pc ls st0) := by
  intro T hT X
  rcases hr T hT X with ⟨v, st₀, t, T', L, h0, X', hL, e1, e2, ⟨⟨r, u, hv, hp, hb⟩, hF⟩, st⟩ | ⟨q, st₀, t, T', L, E, ce, h0, X', hL, e1, e2, ⟨u, hp, hb, hF⟩, hce, hcv, hcl, st⟩
  · cases hv
    obtain ⟨k1, k2, k3⟩ := vx_keep h0 e1 hS hA hf hL hF
    obtain ⟨t2, a1, b1⟩ := kk r u t T'.heap (locs ++ L) e1.symm (by rw [← e2]; exact X'.warmed.alike) hp hb k1 k2 k3 T' rfl X'
    exact ⟨t2, st t2 a1, b1⟩
  · obtain ⟨k1, k2, k3⟩ := vx_keep h0 e1 hS hAX hf hL hF
    obtain ⟨t2, a1, b1⟩ := kx E ce q u t T'.heap (locs ++ L) e1.symm (by rw [← e2]; exact X'.warmed.alike) hp hb k1 k2 k3 (by rw [e1]; exact hce) hcv hcl T' rfl X'
    exact ⟨t2, st.trans a1, b1⟩
theorem vx_callFd {S SX : Type} {post : UInt64 → S → Prop} {px : SX → Prop} {B : S → State → Prop} {BX : String → SX → State → Prop} {AX : Nat → Prop} (hr : vx_Run5 p l e R s m args below meth c H locs cells slots mc ms (F0 m pc ls st0) rest (va_Qd post B A1 a) (vx_X px BX AX) free) (hS : va_S A0 H0 H locs) (hA : ∀ q, q < H.size → A1 q → A0 q) (hf : ∀ q, free q → A0 q) (hAX : ∀ q, q < H.size → AX q → A0 q)
    (kx : ∀ (E : String) (ce : Cell) (q9 : Addr) (u : SX) (t : State) (H1 : Heap) (locs1 : List Loc), t.heap = H1 → s.vm.Alike t.vm → px u → BX E u t → H.size ≤ H1.size → (∀ q : Nat, q < H.size → ¬ AX q → H1[q]? = H[q]?) → va_S A0 H0 H1 locs1 → H1[q9]? = some ce → ce.vm = .none → s.vm.findClass E = some ce.cls → vx_W p l e R s m args below meth c H1 locs1 (cells + mc) (slots + ms) Q (F0 m pc ls rest) q9)
    (kk : ∀ (r : UInt64) (u : S) (t : State) (H1 : Heap) (locs1 : List Loc), t.heap = H1 → s.vm.Alike t.vm → post r u → B u t → H.size ≤ H1.size → (∀ q : Nat, q < H.size → ¬ A1 q → H1[q]? = H[q]?) → va_S A0 H0 H1 locs1 → W p l e R s m args below meth c H1 locs1 (cells + mc) (slots + ms) Q (F0 m (pc + 5) ls (.double r :: rest))) : W p l e R s m args below meth c H locs cells slots Q (F0 m pc ls st0) := by
  intro T hT X
  rcases hr T hT X with ⟨v, st₀, t, T', L, h0, X', hL, e1, e2, ⟨⟨r, u, hv, hp, hb⟩, hF⟩, st⟩ | ⟨q, st₀, t, T', L, E, ce, h0, X', hL, e1, e2, ⟨u, hp, hb, hF⟩, hce, hcv, hcl, st⟩
  · cases hv
    obtain ⟨k1, k2, k3⟩ := vx_keep h0 e1 hS hA hf hL hF
    obtain ⟨t2, a1, b1⟩ := kk r u t T'.heap (locs ++ L) e1.symm (by rw [← e2]; exact X'.warmed.alike) hp hb k1 k2 k3 T' rfl X'
    exact ⟨t2, st t2 a1, b1⟩
  · obtain ⟨k1, k2, k3⟩ := vx_keep h0 e1 hS hAX hf hL hF
    obtain ⟨t2, a1, b1⟩ := kx E ce q u t T'.heap (locs ++ L) e1.symm (by rw [← e2]; exact X'.warmed.alike) hp hb k1 k2 k3 (by rw [e1]; exact hce) hcv hcl T' rfl X'
    exact ⟨t2, st.trans a1, b1⟩
end
/-! ===== END ===== -/
/-! ===== BEGIN by an interface, a method with a table of its own that may throw (follows va_callIFW, va_runFW) ===== -/
section
variable {p : Program} {l : Launch} {e : Env} {R : Room} {s : State} {m : MethodId} {args : Array Value} {below : List Frame} {meth : Method} {c : Code} {H : Heap} {locs : List Loc} {cells slots : Nat}
theorem vx_callIFW {T : State} (X : Stand p l e R s m args below meth c T locs cells slots) (hexec : p.tables.exec = Jvm.exec) {own C : String} {index count : Nat} {x y : MethodName} {bytes : ByteArray} {maxL : Nat} {ret : Option FieldType} {hh : List (Nat × Nat × Nat × Nat)}
    (hown : s.vm.findClass own = some m.cls) (hlink : (Cond.methodLink own index x).before args s = true) (hdecl : (Cond.declares x).before args s = true) (hface : (Cond.interfaceMethod x.cls x.cls x.name x.desc).before args s = true)
    (hsel : (Cond.selects C x y).before args s = true) (hinst : (Cond.instanceMethod y).before args s = true) (hpub : (Cond.publicMethod y).before args s = true) (hunh : (Cond.unhidden C x.name x.desc).before args s = true)
    (hcast : (Cond.castable C x.cls).before args s = true) (hcode : (Cond.codeWith y bytes maxL ret hh).before args s = true) (hx : x.cls ≠ "java/lang/invoke/MethodHandle" ∧ x.cls ≠ "java/lang/invoke/VarHandle")
    {W : Nat} {Pre : Pt → Array Value → Prop} {Post : Pt → Array Value → Option Value → Pt → Prop} {PostX : Pt → Array Value → Addr → Pt → Prop} (hK : vx_Back l R p e below s args y 5 W Pre Post PostX)
    {b : Addr} {cellB : Cell} {kB : Class} (hcell : T.heap[b]? = some cellB) (hobj : cellB.vm.isStatics = false) (hcls : s.vm.findClass C = some cellB.cls) (hkB : s.vm.classes[cellB.cls]? = some kB)
    {g : JFrame} (hg : g.method = m) (hsize : g.locals.size = c.maxLocals) {argsL rest : List Value} (hlen : ∀ sig, parseMethodDescriptor x.desc = some sig → argsL.length = sig.parameters.length)
    (hstack : g.stack = argsL.reverse ++ .ref b :: rest) (hW : 2 * g.monitorRoom + (rest.map fun v => v.category).sum ≤ W) (hdg : decode c.code g.pc = .ok (.invokeinterface index count, 5))
    (hpre : ∀ vm₁, s.WarmedH vm₁ → Pre ⟨T.setVm vm₁, locs, cells, slots⟩ (Value.ref b :: argsL).toArray) :
    (∃ (v : Option Value) (vm₁ : Vm) (B : Pt), s.WarmedH vm₁ ∧ Stand p l e R s m args below meth c B.U B.locs B.cells B.slots ∧ Post ⟨T.setVm vm₁, locs, cells, slots⟩ (Value.ref b :: argsL).toArray v B ∧
      ∀ target, Steps p.tables e below (B.U.setTop { g with pc := g.pc + 5, stack := v.toList ++ rest }) target → Steps p.tables e below (T.setTop g) target) ∨
    (∃ (q : Addr) (vm₁ : Vm) (B : Pt), s.WarmedH vm₁ ∧ Stand p l e R s m args below meth c B.U B.locs B.cells B.slots ∧ PostX ⟨T.setVm vm₁, locs, cells, slots⟩ (Value.ref b :: argsL).toArray q B ∧
      Steps p.tables e below (T.setTop g) ((B.U.setTop { g with stack := rest }).pushFrame (.throwing q))) := by
  obtain ⟨r0, r, hn, hrm, hstR, hsigR⟩ := Cond.declares_spec hdecl
  obtain ⟨cL, kL, r1, hcL, hkL, hiL, hfoundL, hn1⟩ := Cond.interfaceMethod_spec hface
  cases hn.symm.trans hn1
  have hr0cls : r0.cls = cL := Option.some.inj ((findClass_of_methodNamed hn).symm.trans hcL)
  obtain ⟨hnameR, hdescR⟩ := name_of_methodNamed hn hrm
  obtain ⟨mk, methM, hnamed, hmethM, -, habM⟩ := Cond.instanceMethod_spec hinst
  obtain ⟨c2, r2, m2, q1, q2, q3, q4, -⟩ := Cond.selects_spec hsel
  cases hcls.symm.trans q1
  cases hfoundL.symm.trans q2
  cases hnamed.symm.trans q3
  have hselP : selectMethod e.platform s.vm cellB.cls r0 = .method mk := by rw [Launch.admits_selectMethod X.admits]; exact q4
  have hpubM : hasFlag methM.accessFlags Acc.public_ = true := Cond.publicMethod_spec hnamed hmethM hpub
  have hway : ((cellB.cls :: s.vm.superclasses cellB.cls).any fun k => (declaredIn s.vm r.name r.desc k).any fun (_, z) => z.isPrivate || z.isStatic) = false := by
    rw [hnameR, hdescR]; exact Cond.unhidden_spec hcls hunh
  obtain ⟨c3, t3, w1, w2, w3⟩ := Cond.castable_spec hcast
  cases hcls.symm.trans w1
  cases hcL.symm.trans w2
  obtain ⟨vm₁, X₁, hstep₁⟩ := X.invokeinterface hexec hown hlink hn hrm hstR (by rw [hr0cls]; exact hkL) hiL hx (a := b) (cell := cellB) (kcell := kB) hcell
    (fun z h => by rw [h] at hobj; cases hobj) hkB (by rw [hr0cls]; exact w3) hselP hmethM hway hpubM habM (g := g) hg (argsL := argsL) (rest := rest) (hlen _ hsigR) hstack hdg
  rcases hK m meth c ⟨T.setVm vm₁, locs, cells, slots⟩ { g with stack := rest } (.invokeinterface index count) mk (Value.ref b :: argsL).toArray X₁ hg hsize hdg hW (X₁.named hnamed) (hpre vm₁ X₁.warmed) with ⟨v, B, X', hpost, hsteps⟩ | ⟨q, B, X', hpost, hsteps⟩
  · exact Or.inl ⟨v, vm₁, B, X₁.warmed, X', hpost, fun target h => hstep₁ _ fun acts => by rw [doInvoke_state]; exact hsteps.trans h⟩
  · exact Or.inr ⟨q, vm₁, B, X₁.warmed, X', hpost, hstep₁ _ fun acts => by rw [doInvoke_state]; exact hsteps⟩
theorem vx_runFW {x y : MethodName} {bytes cc : ByteArray} {maxL nL mc ms n index count : Nat} {ret : Option FieldType} {hh : List (Nat × Nat × Nat × Nat)} {ws : List Cond} {rm : Room} {Pc : Array Value → State → Prop} {Qc : Array Value → State → Outcome → State → Prop} {XC : String → State → State → Prop} {free : Addr → Prop} {Ts : List Cond} {own C : String} {cC : ClassId} {b : Addr} {As rest : List Value} {g : JFrame}
    (hat : ClassAt s C cC) (S : CallFix p m c cc nL s args Ts own) (hM : vx_Met l y ws rm Pc Qc XC mc ms free) (cw : va_CIW R s args own C index x y bytes maxL ret hh ws rm mc ms n) (hp : PreV s H C b Pc As)
    (hg : g.method = m) (hn : As.length = n) (hsize : g.locals.size = nL) (hstack : g.stack = As.reverse ++ .ref b :: rest) (hW : 2 * g.monitorRoom + (rest.map fun v => v.category).sum ≤ 8) (hdg : decode cc g.pc = .ok (.invokeinterface index count, 5)) (hf : cells + mc ≤ R.cells ∧ slots + ms ≤ R.slots) :
    vx_Run5 p l e R s m args below meth c H locs cells slots mc ms g rest (Qc (Value.ref b :: As).toArray) XC free := by
  obtain ⟨hrc, hrs, hfr, hlo, hws, hcw⟩ := cw.back
  have hini := cw.init
  have hK : vx_Back l R p e below s args y 5 8 (PreOf R mc ms Pc) (PostOf Qc mc ms free) (vx_Post XC mc ms free) := vx_backW (hh := hh) (bytes := bytes) (maxL := maxL) (ret := ret) hM hp.1 hrc hrs hfr hlo hws hcw (fun a' U hW => word_at hW (Or.inl (by first | rfl | simp [Cond.onTables, Cond.keeps, Cond.steady])) hini)
  obtain ⟨hx, hb, hml, ho, -⟩ := S
  obtain ⟨-, ⟨cellB, hcB, hoB, hclB⟩, hPc⟩ := hp
  obtain ⟨hfc, kB, hkB, -⟩ := hat
  cases hfc.symm.trans hclB
  intro T hT X
  rcases vx_callIFW X hx (C := C) (hh := hh) (bytes := bytes) (maxL := maxL) (ret := ret) ho cw.link cw.decl cw.face cw.sel cw.inst cw.pub cw.unh cw.cast cw.code cw.notMH hK (by rw [hT]; exact hcB) hoB hclB hkB hg (hsize.trans hml.symm) (argsL := As) (rest := rest) (fun sig h => hn.trans (cw.len sig h)) hstack hW (by rw [hb]; exact hdg)
    (fun vm₁ hW₁ => ⟨hf.1, hf.2, hPc (T.setVm vm₁) hT hW₁⟩) with ⟨v, vm₁, ⟨U', l2, c2, s2⟩, hW₁, X', ⟨g', mk, t, L, e1, e2, hq, h1, hL, h2, h3⟩, st⟩ | ⟨q, vm₁, ⟨U', l2, c2, s2⟩, hW₁, X', ⟨g', mk, t, L, E, ce, e1, e2, hq, hce, hcv, hcl, h1, hL, h2, h3⟩, st⟩
  · dsimp only [Pt.U, Pt.locs, Pt.cells, Pt.slots] at X' e1 e2 h1 h2 h3 st
    subst h1; subst h2; subst h3
    exact Or.inl ⟨v, (T.setVm vm₁).calling g' mk (Value.ref b :: As).toArray, t, U', L, hT, X', hL, e1, e2, hq, st⟩
  · dsimp only [Pt.U, Pt.locs, Pt.cells, Pt.slots] at X' e1 e2 h1 h2 h3 st hcl
    subst h1; subst h2; subst h3
    exact Or.inr ⟨q, (T.setVm vm₁).calling g' mk (Value.ref b :: As).toArray, t, U', L, E, ce, hT, X', hL, e1, e2, hq, hce, hcv, vx_cls hW₁ hcl, st⟩
end
/-! ===== END ===== -/
/-! ===== BEGIN .. of methods that hand back an object of the pool ===== -/
section
variable {p : Program} {l : Launch} {e : Env} {R : Room} {s : State} {m : MethodId} {args : Array Value} {below : List Frame} {meth : Method} {c : Code} {H : Heap} {locs : List Loc} {cells slots : Nat} {Q : State → Prop}
variable {mc ms : Nat} {free : Addr → Prop} {A0 A1 : Nat → Prop} {H0 : Heap} {a : Array Value} {pc : Nat} {ls : Array Slot} {st0 rest : List Value}
theorem vx_callq {S SX : Type} {post : Option Nat → S → Prop} {px : SX → Prop} {B : S → State → Prop} {BX : String → SX → State → Prop} {AX : Nat → Prop} (hr : vx_Run p l e R s m args below meth c H locs cells slots mc ms (F0 m pc ls st0) rest (va_Qq post B A1 a) (vx_X px BX AX) free) (hS : va_S A0 H0 H locs) (hA : ∀ q, q < H.size → A1 q → A0 q) (hf : ∀ q, free q → A0 q) (hAX : ∀ q, q < H.size → AX q → A0 q)
    (kx : ∀ (E : String) (ce : Cell) (q9 : Addr) (u : SX) (t : State) (H1 : Heap) (locs1 : List Loc), t.heap = H1 → s.vm.Alike t.vm → px u → BX E u t → H.size ≤ H1.size → (∀ q : Nat, q < H.size → ¬ AX q → H1[q]? = H[q]?) → va_S A0 H0 H1 locs1 → H1[q9]? = some ce → ce.vm = .none → s.vm.findClass E = some ce.cls → vx_W p l e R s m args below meth c H1 locs1 (cells + mc) (slots + ms) Q (F0 m pc ls rest) q9)
    (kk : ∀ (r : Option Nat) (u : S) (t : State) (H1 : Heap) (locs1 : List Loc), t.heap = H1 → s.vm.Alike t.vm → post r u → B u t → H.size ≤ H1.size → (∀ q : Nat, q < H.size → ¬ A1 q → H1[q]? = H[q]?) → va_S A0 H0 H1 locs1 → W p l e R s m args below meth c H1 locs1 (cells + mc) (slots + ms) Q (F0 m (pc + 3) ls (va_rf r :: rest))) : W p l e R s m args below meth c H locs cells slots Q (F0 m pc ls st0) := by
  intro T hT X
  rcases hr T hT X with ⟨v, st₀, t, T', L, h0, X', hL, e1, e2, ⟨⟨r, u, hv, hp, hb⟩, hF⟩, st⟩ | ⟨q, st₀, t, T', L, E, ce, h0, X', hL, e1, e2, ⟨u, hp, hb, hF⟩, hce, hcv, hcl, st⟩
  · cases hv
    obtain ⟨k1, k2, k3⟩ := vx_keep h0 e1 hS hA hf hL hF
    obtain ⟨t2, a1, b1⟩ := kk r u t T'.heap (locs ++ L) e1.symm (by rw [← e2]; exact X'.warmed.alike) hp hb k1 k2 k3 T' rfl X'
    exact ⟨t2, st t2 a1, b1⟩
  · obtain ⟨k1, k2, k3⟩ := vx_keep h0 e1 hS hAX hf hL hF
    obtain ⟨t2, a1, b1⟩ := kx E ce q u t T'.heap (locs ++ L) e1.symm (by rw [← e2]; exact X'.warmed.alike) hp hb k1 k2 k3 (by rw [e1]; exact hce) hcv hcl T' rfl X'
    exact ⟨t2, st.trans a1, b1⟩
end
/-! ===== END ===== -/
/-! ===== BEGIN .. a constant ===== -/
section
variable {p : Program} {l : Launch} {e : Env} {R : Room} {s : State} {m : MethodId} {args : Array Value} {below : List Frame} {meth : Method} {c : Code} {H : Heap} {locs : List Loc} {cells slots : Nat} {Q : State → Prop}
variable {mc ms : Nat} {free : Addr → Prop} {A0 A1 : Nat → Prop} {H0 : Heap} {a : Array Value} {pc : Nat} {ls : Array Slot} {st0 rest : List Value}
theorem vx_calle {ad : Nat → Nat} {S SX : Type} {post : Option Nat → S → Prop} {px : SX → Prop} {B : S → State → Prop} {BX : String → SX → State → Prop} {AX : Nat → Prop} (hr : vx_Run p l e R s m args below meth c H locs cells slots mc ms (F0 m pc ls st0) rest (va_Qe ad post B A1 a) (vx_X px BX AX) free) (hS : va_S A0 H0 H locs) (hA : ∀ q, q < H.size → A1 q → A0 q) (hf : ∀ q, free q → A0 q) (hAX : ∀ q, q < H.size → AX q → A0 q)
    (kx : ∀ (E : String) (ce : Cell) (q9 : Addr) (u : SX) (t : State) (H1 : Heap) (locs1 : List Loc), t.heap = H1 → s.vm.Alike t.vm → px u → BX E u t → H.size ≤ H1.size → (∀ q : Nat, q < H.size → ¬ AX q → H1[q]? = H[q]?) → va_S A0 H0 H1 locs1 → H1[q9]? = some ce → ce.vm = .none → s.vm.findClass E = some ce.cls → vx_W p l e R s m args below meth c H1 locs1 (cells + mc) (slots + ms) Q (F0 m pc ls rest) q9)
    (kk : ∀ (r : Option Nat) (u : S) (t : State) (H1 : Heap) (locs1 : List Loc), t.heap = H1 → s.vm.Alike t.vm → post r u → B u t → H.size ≤ H1.size → (∀ q : Nat, q < H.size → ¬ A1 q → H1[q]? = H[q]?) → va_S A0 H0 H1 locs1 → W p l e R s m args below meth c H1 locs1 (cells + mc) (slots + ms) Q (F0 m (pc + 3) ls (va_re ad r :: rest))) : W p l e R s m args below meth c H locs cells slots Q (F0 m pc ls st0) := by
  intro T hT X
  rcases hr T hT X with ⟨v, st₀, t, T', L, h0, X', hL, e1, e2, ⟨⟨r, u, hv, hp, hb⟩, hF⟩, st⟩ | ⟨q, st₀, t, T', L, E, ce, h0, X', hL, e1, e2, ⟨u, hp, hb, hF⟩, hce, hcv, hcl, st⟩
  · cases hv
    obtain ⟨k1, k2, k3⟩ := vx_keep h0 e1 hS hA hf hL hF
    obtain ⟨t2, a1, b1⟩ := kk r u t T'.heap (locs ++ L) e1.symm (by rw [← e2]; exact X'.warmed.alike) hp hb k1 k2 k3 T' rfl X'
    exact ⟨t2, st t2 a1, b1⟩
  · obtain ⟨k1, k2, k3⟩ := vx_keep h0 e1 hS hAX hf hL hF
    obtain ⟨t2, a1, b1⟩ := kx E ce q u t T'.heap (locs ++ L) e1.symm (by rw [← e2]; exact X'.warmed.alike) hp hb k1 k2 k3 (by rw [e1]; exact hce) hcv hcl T' rfl X'
    exact ⟨t2, st.trans a1, b1⟩
end
/-! ===== END ===== -/
/-! ===== BEGIN .. by an interface, an object ===== -/
section
variable {p : Program} {l : Launch} {e : Env} {R : Room} {s : State} {m : MethodId} {args : Array Value} {below : List Frame} {meth : Method} {c : Code} {H : Heap} {locs : List Loc} {cells slots : Nat} {Q : State → Prop}
variable {mc ms : Nat} {free : Addr → Prop} {A0 A1 : Nat → Prop} {H0 : Heap} {a : Array Value} {pc : Nat} {ls : Array Slot} {st0 rest : List Value}
theorem vx_callFq {S SX : Type} {post : Option Nat → S → Prop} {px : SX → Prop} {B : S → State → Prop} {BX : String → SX → State → Prop} {AX : Nat → Prop} (hr : vx_Run5 p l e R s m args below meth c H locs cells slots mc ms (F0 m pc ls st0) rest (va_Qq post B A1 a) (vx_X px BX AX) free) (hS : va_S A0 H0 H locs) (hA : ∀ q, q < H.size → A1 q → A0 q) (hf : ∀ q, free q → A0 q) (hAX : ∀ q, q < H.size → AX q → A0 q)
    (kx : ∀ (E : String) (ce : Cell) (q9 : Addr) (u : SX) (t : State) (H1 : Heap) (locs1 : List Loc), t.heap = H1 → s.vm.Alike t.vm → px u → BX E u t → H.size ≤ H1.size → (∀ q : Nat, q < H.size → ¬ AX q → H1[q]? = H[q]?) → va_S A0 H0 H1 locs1 → H1[q9]? = some ce → ce.vm = .none → s.vm.findClass E = some ce.cls → vx_W p l e R s m args below meth c H1 locs1 (cells + mc) (slots + ms) Q (F0 m pc ls rest) q9)
    (kk : ∀ (r : Option Nat) (u : S) (t : State) (H1 : Heap) (locs1 : List Loc), t.heap = H1 → s.vm.Alike t.vm → post r u → B u t → H.size ≤ H1.size → (∀ q : Nat, q < H.size → ¬ A1 q → H1[q]? = H[q]?) → va_S A0 H0 H1 locs1 → W p l e R s m args below meth c H1 locs1 (cells + mc) (slots + ms) Q (F0 m (pc + 5) ls (va_rf r :: rest))) : W p l e R s m args below meth c H locs cells slots Q (F0 m pc ls st0) := by
  intro T hT X
  rcases hr T hT X with ⟨v, st₀, t, T', L, h0, X', hL, e1, e2, ⟨⟨r, u, hv, hp, hb⟩, hF⟩, st⟩ | ⟨q, st₀, t, T', L, E, ce, h0, X', hL, e1, e2, ⟨u, hp, hb, hF⟩, hce, hcv, hcl, st⟩
  · cases hv
    obtain ⟨k1, k2, k3⟩ := vx_keep h0 e1 hS hA hf hL hF
    obtain ⟨t2, a1, b1⟩ := kk r u t T'.heap (locs ++ L) e1.symm (by rw [← e2]; exact X'.warmed.alike) hp hb k1 k2 k3 T' rfl X'
    exact ⟨t2, st t2 a1, b1⟩
  · obtain ⟨k1, k2, k3⟩ := vx_keep h0 e1 hS hAX hf hL hF
    obtain ⟨t2, a1, b1⟩ := kx E ce q u t T'.heap (locs ++ L) e1.symm (by rw [← e2]; exact X'.warmed.alike) hp hb k1 k2 k3 (by rw [e1]; exact hce) hcv hcl T' rfl X'
    exact ⟨t2, st.trans a1, b1⟩
end
/-! ===== END ===== -/
/-! ===== BEGIN .. by an interface, a constant ===== -/
section
variable {p : Program} {l : Launch} {e : Env} {R : Room} {s : State} {m : MethodId} {args : Array Value} {below : List Frame} {meth : Method} {c : Code} {H : Heap} {locs : List Loc} {cells slots : Nat} {Q : State → Prop}
variable {mc ms : Nat} {free : Addr → Prop} {A0 A1 : Nat → Prop} {H0 : Heap} {a : Array Value} {pc : Nat} {ls : Array Slot} {st0 rest : List Value}
theorem vx_callFe {ad : Nat → Nat} {S SX : Type} {post : Option Nat → S → Prop} {px : SX → Prop} {B : S → State → Prop} {BX : String → SX → State → Prop} {AX : Nat → Prop} (hr : vx_Run5 p l e R s m args below meth c H locs cells slots mc ms (F0 m pc ls st0) rest (va_Qe ad post B A1 a) (vx_X px BX AX) free) (hS : va_S A0 H0 H locs) (hA : ∀ q, q < H.size → A1 q → A0 q) (hf : ∀ q, free q → A0 q) (hAX : ∀ q, q < H.size → AX q → A0 q)
    (kx : ∀ (E : String) (ce : Cell) (q9 : Addr) (u : SX) (t : State) (H1 : Heap) (locs1 : List Loc), t.heap = H1 → s.vm.Alike t.vm → px u → BX E u t → H.size ≤ H1.size → (∀ q : Nat, q < H.size → ¬ AX q → H1[q]? = H[q]?) → va_S A0 H0 H1 locs1 → H1[q9]? = some ce → ce.vm = .none → s.vm.findClass E = some ce.cls → vx_W p l e R s m args below meth c H1 locs1 (cells + mc) (slots + ms) Q (F0 m pc ls rest) q9)
    (kk : ∀ (r : Option Nat) (u : S) (t : State) (H1 : Heap) (locs1 : List Loc), t.heap = H1 → s.vm.Alike t.vm → post r u → B u t → H.size ≤ H1.size → (∀ q : Nat, q < H.size → ¬ A1 q → H1[q]? = H[q]?) → va_S A0 H0 H1 locs1 → W p l e R s m args below meth c H1 locs1 (cells + mc) (slots + ms) Q (F0 m (pc + 5) ls (va_re ad r :: rest))) : W p l e R s m args below meth c H locs cells slots Q (F0 m pc ls st0) := by
  intro T hT X
  rcases hr T hT X with ⟨v, st₀, t, T', L, h0, X', hL, e1, e2, ⟨⟨r, u, hv, hp, hb⟩, hF⟩, st⟩ | ⟨q, st₀, t, T', L, E, ce, h0, X', hL, e1, e2, ⟨u, hp, hb, hF⟩, hce, hcv, hcl, st⟩
  · cases hv
    obtain ⟨k1, k2, k3⟩ := vx_keep h0 e1 hS hA hf hL hF
    obtain ⟨t2, a1, b1⟩ := kk r u t T'.heap (locs ++ L) e1.symm (by rw [← e2]; exact X'.warmed.alike) hp hb k1 k2 k3 T' rfl X'
    exact ⟨t2, st t2 a1, b1⟩
  · obtain ⟨k1, k2, k3⟩ := vx_keep h0 e1 hS hAX hf hL hF
    obtain ⟨t2, a1, b1⟩ := kx E ce q u t T'.heap (locs ++ L) e1.symm (by rw [← e2]; exact X'.warmed.alike) hp hb k1 k2 k3 (by rw [e1]; exact hce) hcv hcl T' rfl X'
    exact ⟨t2, st.trans a1, b1⟩
end
/-! ===== END ===== -/
/-! ===== BEGIN what the machine throws by itself: null at a field, at athrow ===== -/
section VXM2
variable {p : Program} {l : Launch} {e : Env} {R : Room} {s : State} {m : MethodId} {args : Array Value} {below : List Frame} {meth : Method} {c : Code} {H : Heap} {locs : List Loc} {cells slots : Nat}
variable {Q : State → Prop} {cc : ByteArray} {pc : Nat} {ls : Array Slot} {rest : List Value}
theorem vx_getfN {D cl tys} {own ref C : String} {T : u_T} {N ci index : Nat} {Ts : List Cond} (hexec : p.tables.exec = Jvm.exec) (hb : c.code = cc) (hts : ∀ w ∈ Ts, w.before args s = true) (hin : ∀ w ∈ u_ws C T N, w ∈ Ts) (hown : s.vm.findClass own = some m.cls) (hK : va_K D cl tys s) (hc : cl[ci]? = some (C, T, N)) (k : Nat) (hk : k < N) (hlink : (Cond.fieldLink own index ref (T k).2.1 (T k).2.2.1).before args s = true) (hsame : ∀ x, s.fieldFound? (T k).1 (T k).2.1 (T k).2.2.1 = some x → s.fieldFound? ref (T k).2.1 (T k).2.2.1 = some x) (hdg : decode cc pc = .ok (.getfield index, 3)) (kk : vx_NoteN p l e R s m args below meth c H locs cells slots Q (F0 m pc ls rest)) : W p l e R s m args below meth c H locs cells slots Q (F0 m pc ls (.null :: rest)) := by
  obtain ⟨hS, hfc, kC, hkC, -⟩ := hK.1 ci _ hc
  obtain ⟨cf, kf, fi, f, hi, -⟩ := hS k hk
  intro U hU X
  obtain ⟨vm', X1, st1⟩ := X.getfieldNull hexec hown hlink (hsame _ hi) (u_facts hfc hkC (u_lays hts hin hk) hi).1 (g := F0 m pc ls (.null :: rest)) rfl (rest := rest) rfl (by rw [hb]; exact hdg)
  obtain ⟨t, st, q⟩ := kk (U.setVm vm') hU X1
  exact ⟨t, st1 t st, q⟩
theorem vx_getfNN {D cl tys} {own ref C host : String} {T : u_T} {N ci index : Nat} {Ts : List Cond} (hexec : p.tables.exec = Jvm.exec) (hb : c.code = cc) (hts : ∀ w ∈ Ts, w.before args s = true) (hin : ∀ w ∈ u_ws C T N, w ∈ Ts) (hown : s.vm.findClass own = some m.cls) (hK : va_K D cl tys s) (hc : cl[ci]? = some (C, T, N)) (k : Nat) (hk : k < N) (hlink : (Cond.fieldLinkNest own index ref (T k).2.1 (T k).2.2.1 host).before args s = true) (hsame : ∀ x, s.fieldFound? (T k).1 (T k).2.1 (T k).2.2.1 = some x → s.fieldFound? ref (T k).2.1 (T k).2.2.1 = some x) (hdg : decode cc pc = .ok (.getfield index, 3)) (kk : vx_NoteN p l e R s m args below meth c H locs cells slots Q (F0 m pc ls rest)) : W p l e R s m args below meth c H locs cells slots Q (F0 m pc ls (.null :: rest)) := by
  obtain ⟨hS, hfc, kC, hkC, -⟩ := hK.1 ci _ hc
  obtain ⟨cf, kf, fi, f, hi, -⟩ := hS k hk
  intro U hU X
  obtain ⟨vm', X1, st1⟩ := X.getfieldNullNest hexec hown hlink (hsame _ hi) (u_facts hfc hkC (u_lays hts hin hk) hi).1 (g := F0 m pc ls (.null :: rest)) rfl (rest := rest) rfl (by rw [hb]; exact hdg)
  obtain ⟨t, st, q⟩ := kk (U.setVm vm') hU X1
  exact ⟨t, st1 t st, q⟩
theorem vx_putfN {D cl tys} {own ref C : String} {T : u_T} {N ci index : Nat} {Ts : List Cond} (hexec : p.tables.exec = Jvm.exec) (hb : c.code = cc) (hts : ∀ w ∈ Ts, w.before args s = true) (hin : ∀ w ∈ u_ws C T N, w ∈ Ts) (hown : s.vm.findClass own = some m.cls) (hK : va_K D cl tys s) (hc : cl[ci]? = some (C, T, N)) (k : Nat) (hk : k < N) (hlink : (Cond.fieldLink own index ref (T k).2.1 (T k).2.2.1).before args s = true) (hsame : ∀ x, s.fieldFound? (T k).1 (T k).2.1 (T k).2.2.1 = some x → s.fieldFound? ref (T k).2.1 (T k).2.2.1 = some x) (hfin : (T k).2.2.2 = false) {v : Value} (hdg : decode cc pc = .ok (.putfield index, 3)) (kk : vx_NoteN p l e R s m args below meth c H locs cells slots Q (F0 m pc ls rest)) : W p l e R s m args below meth c H locs cells slots Q (F0 m pc ls (v :: .null :: rest)) := by
  obtain ⟨hS, hfc, kC, hkC, -⟩ := hK.1 ci _ hc
  obtain ⟨cf, kf, fi, f, hi, -⟩ := hS k hk
  have hlay := hts _ (hin _ (u_in_lay hk))
  unfold u_lay at hlay
  rw [if_neg (by rw [hfin]; decide)] at hlay
  obtain ⟨c9, k9, cf9, kf9, fi9, f9, -, -, hi9, hst9, hnf9, -⟩ := Cond.lays_spec hlay
  cases hi.symm.trans hi9
  intro U hU X
  obtain ⟨vm', X1, st1⟩ := X.putfieldNull hexec hown hlink (hsame _ hi) hst9 hnf9 (g := F0 m pc ls (v :: .null :: rest)) rfl (v := v) (rest := rest) rfl (by rw [hb]; exact hdg)
  obtain ⟨t, st, q⟩ := kk (U.setVm vm') hU X1
  exact ⟨t, st1 t st, q⟩
theorem vx_putfNN {D cl tys} {own ref C host : String} {T : u_T} {N ci index : Nat} {Ts : List Cond} (hexec : p.tables.exec = Jvm.exec) (hb : c.code = cc) (hts : ∀ w ∈ Ts, w.before args s = true) (hin : ∀ w ∈ u_ws C T N, w ∈ Ts) (hown : s.vm.findClass own = some m.cls) (hK : va_K D cl tys s) (hc : cl[ci]? = some (C, T, N)) (k : Nat) (hk : k < N) (hlink : (Cond.fieldLinkNest own index ref (T k).2.1 (T k).2.2.1 host).before args s = true) (hsame : ∀ x, s.fieldFound? (T k).1 (T k).2.1 (T k).2.2.1 = some x → s.fieldFound? ref (T k).2.1 (T k).2.2.1 = some x) (hfin : (T k).2.2.2 = false) {v : Value} (hdg : decode cc pc = .ok (.putfield index, 3)) (kk : vx_NoteN p l e R s m args below meth c H locs cells slots Q (F0 m pc ls rest)) : W p l e R s m args below meth c H locs cells slots Q (F0 m pc ls (v :: .null :: rest)) := by
  obtain ⟨hS, hfc, kC, hkC, -⟩ := hK.1 ci _ hc
  obtain ⟨cf, kf, fi, f, hi, -⟩ := hS k hk
  have hlay := hts _ (hin _ (u_in_lay hk))
  unfold u_lay at hlay
  rw [if_neg (by rw [hfin]; decide)] at hlay
  obtain ⟨c9, k9, cf9, kf9, fi9, f9, -, -, hi9, hst9, hnf9, -⟩ := Cond.lays_spec hlay
  cases hi.symm.trans hi9
  intro U hU X
  obtain ⟨vm', X1, st1⟩ := X.putfieldNullNest hexec hown hlink (hsame _ hi) hst9 hnf9 (g := F0 m pc ls (v :: .null :: rest)) rfl (v := v) (rest := rest) rfl (by rw [hb]; exact hdg)
  obtain ⟨t, st, q⟩ := kk (U.setVm vm') hU X1
  exact ⟨t, st1 t st, q⟩
theorem vx_athrowN (hexec : p.tables.exec = Jvm.exec) (hb : c.code = cc) (hdg : decode cc pc = .ok (.athrow, 1)) (k : vx_NoteN p l e R s m args below meth c H locs cells slots Q (F0 m pc ls rest)) : W p l e R s m args below meth c H locs cells slots Q (F0 m pc ls (.null :: rest)) := by
  intro T hT X
  obtain ⟨t, st, q⟩ := k T hT X
  exact ⟨t, X.athrowNull hexec (g := F0 m pc ls (.null :: rest)) rfl (rest := rest) rfl (by rw [hb]; exact hdg) t st, q⟩
end VXM2
/-! ===== END ===== -/
end
section
/-! ===== names, fields (out of the printed names) ===== -/
def RX0 : String := "StageBallet$Areas"
def TX0 : u_T := fun k => match k with
  | 0 => ("StageBallet$Areas", "open", "[I", true)
  | _ => ("StageBallet$Areas", "parent", "[I", true)
def tyX0 : Nat → FieldType := fun k => match k with
  | 0 => .array .int
  | _ => .array .int
abbrev wsX00 : List Cond := u_ws RX0 TX0 2
theorem nmX0 : ∀ a, a < 2 → ∀ b, b < 2 → a ≠ b → (TX0 a).2.1 ≠ (TX0 b).2.1 := by decide +kernel
theorem tyX0_ok : ∀ k, k < 2 → parseFieldDescriptor (TX0 k).2.2.1 = some (tyX0 k) := by decide +kernel
abbrev cX0_init : ByteArray := prog_2_method_1_code
def yX0_init : MethodName := ⟨RX0, "<init>", "()V"⟩
abbrev cX0_countByFilling : ByteArray := prog_2_method_2_code
def yX0_countByFilling : MethodName := ⟨RX0, "countByFilling", "(J)I"⟩
abbrev cX0_fillFrom : ByteArray := prog_2_method_3_code
def yX0_fillFrom : MethodName := ⟨RX0, "fillFrom", "(IJ)J"⟩
abbrev cX0_countByUniting : ByteArray := prog_2_method_4_code
def yX0_countByUniting : MethodName := ⟨RX0, "countByUniting", "(J)I"⟩
abbrev cX0_unite : ByteArray := prog_2_method_5_code
def yX0_unite : MethodName := ⟨RX0, "unite", "(IIJ)I"⟩
abbrev cX0_rootOf : ByteArray := prog_2_method_6_code
def yX0_rootOf : MethodName := ⟨RX0, "rootOf", "(I)I"⟩
def RX1 : String := "StageBallet$ExitPlan"
def TX1 : u_T := fun k => match k with
  | 0 => ("StageBallet$ExitPlan", "dancerCount", "I", false)
  | 1 => ("StageBallet$ExitPlan", "exitCount", "I", false)
  | 2 => ("StageBallet$ExitPlan", "cost", "[I", true)
  | 3 => ("StageBallet$ExitPlan", "rest", "[I", true)
  | 4 => ("StageBallet$ExitPlan", "dancerPotential", "[I", true)
  | 5 => ("StageBallet$ExitPlan", "exitPotential", "[I", true)
  | 6 => ("StageBallet$ExitPlan", "dancerAt", "[I", true)
  | 7 => ("StageBallet$ExitPlan", "cameFrom", "[I", true)
  | 8 => ("StageBallet$ExitPlan", "slack", "[I", true)
  | _ => ("StageBallet$ExitPlan", "visited", "[I", true)
def tyX1 : Nat → FieldType := fun k => match k with
  | 0 => .int
  | 1 => .int
  | 2 => .array .int
  | 3 => .array .int
  | 4 => .array .int
  | 5 => .array .int
  | 6 => .array .int
  | 7 => .array .int
  | 8 => .array .int
  | _ => .array .int
abbrev wsX10 : List Cond := u_ws RX1 TX1 10
theorem nmX1 : ∀ a, a < 10 → ∀ b, b < 10 → a ≠ b → (TX1 a).2.1 ≠ (TX1 b).2.1 := by decide +kernel
theorem tyX1_ok : ∀ k, k < 10 → parseFieldDescriptor (TX1 k).2.2.1 = some (tyX1 k) := by decide +kernel
abbrev cX1_init : ByteArray := prog_3_method_1_code
def yX1_init : MethodName := ⟨RX1, "<init>", "()V"⟩
abbrev cX1_measure : ByteArray := prog_3_method_2_code
def yX1_measure : MethodName := ⟨RX1, "measure", "(LStageBallet$State;LStageBallet$Ways;)V"⟩
abbrev cX1_costOf : ByteArray := prog_3_method_3_code
def yX1_costOf : MethodName := ⟨RX1, "costOf", "(II)I"⟩
abbrev cX1_costByTable : ByteArray := prog_3_method_4_code
def yX1_costByTable : MethodName := ⟨RX1, "costByTable", "()I"⟩
abbrev cX1_smallestRest : ByteArray := prog_3_method_5_code
def yX1_smallestRest : MethodName := ⟨RX1, "smallestRest", "(II)I"⟩
abbrev cX1_exitForSlot : ByteArray := prog_3_method_6_code
def yX1_exitForSlot : MethodName := ⟨RX1, "exitForSlot", "(I)I"⟩
abbrev cX1_firstExitFor : ByteArray := prog_3_method_7_code
def yX1_firstExitFor : MethodName := ⟨RX1, "firstExitFor", "(II)I"⟩
abbrev cX1_costByPotentials : ByteArray := prog_3_method_8_code
def yX1_costByPotentials : MethodName := ⟨RX1, "costByPotentials", "()I"⟩
abbrev cX1_place : ByteArray := prog_3_method_9_code
def yX1_place : MethodName := ⟨RX1, "place", "(I)V"⟩
abbrev cX1_updateSlack : ByteArray := prog_3_method_10_code
def yX1_updateSlack : MethodName := ⟨RX1, "updateSlack", "(I)V"⟩
abbrev cX1_leastSlack : ByteArray := prog_3_method_11_code
def yX1_leastSlack : MethodName := ⟨RX1, "leastSlack", "()I"⟩
abbrev cX1_shiftPotentials : ByteArray := prog_3_method_12_code
def yX1_shiftPotentials : MethodName := ⟨RX1, "shiftPotentials", "(I)V"⟩
def RX2 : String := "StageBallet$History"
def TX2 : u_T := fun k => match k with
  | 0 => ("StageBallet$History", "states", "[LStageBallet$State;", true)
  | 1 => ("StageBallet$History", "next", "I", false)
  | _ => ("StageBallet$History", "count", "I", false)
def tyX2 : Nat → FieldType := fun k => match k with
  | 0 => .array (.object "StageBallet$State")
  | 1 => .int
  | _ => .int
abbrev wsX20 : List Cond := u_ws RX2 TX2 3
theorem nmX2 : ∀ a, a < 3 → ∀ b, b < 3 → a ≠ b → (TX2 a).2.1 ≠ (TX2 b).2.1 := by decide +kernel
theorem tyX2_ok : ∀ k, k < 3 → parseFieldDescriptor (TX2 k).2.2.1 = some (tyX2 k) := by decide +kernel
abbrev cX2_init : ByteArray := prog_4_method_1_code
def yX2_init : MethodName := ⟨RX2, "<init>", "()V"⟩
abbrev cX2_push : ByteArray := prog_4_method_2_code
def yX2_push : MethodName := ⟨RX2, "push", "(LStageBallet$State;)V"⟩
abbrev cX2_popInto : ByteArray := prog_4_method_3_code
def yX2_popInto : MethodName := ⟨RX2, "popInto", "(LStageBallet$State;)V"⟩
abbrev cX2_placeAt : ByteArray := prog_4_method_4_code
def yX2_placeAt : MethodName := ⟨RX2, "placeAt", "(I)LStageBallet$State;"⟩
def RX3 : String := "StageBallet$Line"
def TX3 : u_T := fun k => match k with
  | 0 => ("StageBallet$Line", "letters", "[C", true)
  | _ => ("StageBallet$Line", "length", "I", false)
def tyX3 : Nat → FieldType := fun k => match k with
  | 0 => .array .char
  | _ => .int
abbrev wsX30 : List Cond := u_ws RX3 TX3 2
theorem nmX3 : ∀ a, a < 2 → ∀ b, b < 2 → a ≠ b → (TX3 a).2.1 ≠ (TX3 b).2.1 := by decide +kernel
theorem tyX3_ok : ∀ k, k < 2 → parseFieldDescriptor (TX3 k).2.2.1 = some (tyX3 k) := by decide +kernel
abbrev cX3_init : ByteArray := prog_5_method_1_code
def yX3_init : MethodName := ⟨RX3, "<init>", "()V"⟩
abbrev cX3_empty : ByteArray := prog_5_method_2_code
def yX3_empty : MethodName := ⟨RX3, "empty", "()V"⟩
abbrev cX3_put : ByteArray := prog_5_method_3_code
def yX3_put : MethodName := ⟨RX3, "put", "(C)V"⟩
abbrev cX3_putRepeated : ByteArray := prog_5_method_4_code
def yX3_putRepeated : MethodName := ⟨RX3, "putRepeated", "(IC)V"⟩
def RX4 : String := "StageBallet$Program"
def TX4 : u_T := fun k => match k with
  | 0 => ("StageBallet$Program", "text", "[C", true)
  | 1 => ("StageBallet$Program", "length", "I", false)
  | 2 => ("StageBallet$Program", "commands", "I", false)
  | 3 => ("StageBallet$Program", "kinds", "[I", true)
  | 4 => ("StageBallet$Program", "arguments", "[I", true)
  | 5 => ("StageBallet$Program", "position", "I", false)
  | _ => ("StageBallet$Program", "argumentsRead", "I", false)
def tyX4 : Nat → FieldType := fun k => match k with
  | 0 => .array .char
  | 1 => .int
  | 2 => .int
  | 3 => .array .int
  | 4 => .array .int
  | 5 => .int
  | _ => .int
abbrev wsX40 : List Cond := u_ws RX4 TX4 7
theorem nmX4 : ∀ a, a < 7 → ∀ b, b < 7 → a ≠ b → (TX4 a).2.1 ≠ (TX4 b).2.1 := by decide +kernel
theorem tyX4_ok : ∀ k, k < 7 → parseFieldDescriptor (TX4 k).2.2.1 = some (tyX4 k) := by decide +kernel
abbrev cX4_init : ByteArray := prog_6_method_1_code
def yX4_init : MethodName := ⟨RX4, "<init>", "()V"⟩
abbrev cX4_append : ByteArray := prog_6_method_2_code
def yX4_append : MethodName := ⟨RX4, "append", "(C)V"⟩
abbrev cX4_argument : ByteArray := prog_6_method_3_code
def yX4_argument : MethodName := ⟨RX4, "argument", "(II)I"⟩
abbrev cX4_moveAt : ByteArray := prog_6_method_4_code
def yX4_moveAt : MethodName := ⟨RX4, "moveAt", "(I)I"⟩
abbrev cX4_parse : ByteArray := prog_6_method_5_code
def yX4_parse : MethodName := ⟨RX4, "parse", "()I"⟩
abbrev cX4_readCommand : ByteArray := prog_6_method_6_code
def yX4_readCommand : MethodName := ⟨RX4, "readCommand", "()Z"⟩
abbrev cX4_readWord : ByteArray := prog_6_method_7_code
def yX4_readWord : MethodName := ⟨RX4, "readWord", "()I"⟩
abbrev cX4_countMatching : ByteArray := prog_6_method_8_code
def yX4_countMatching : MethodName := ⟨RX4, "countMatching", "(Ljava/lang/String;)I"⟩
abbrev cX4_readPart : ByteArray := prog_6_method_9_code
def yX4_readPart : MethodName := ⟨RX4, "readPart", "(C)Z"⟩
abbrev cX4_readSign : ByteArray := prog_6_method_10_code
def yX4_readSign : MethodName := ⟨RX4, "readSign", "(C)Z"⟩
abbrev cX4_readNumber : ByteArray := prog_6_method_11_code
def yX4_readNumber : MethodName := ⟨RX4, "readNumber", "(I)Z"⟩
abbrev cX4_readMoves : ByteArray := prog_6_method_12_code
def yX4_readMoves : MethodName := ⟨RX4, "readMoves", "()V"⟩
abbrev cX4_keepArgument : ByteArray := prog_6_method_13_code
def yX4_keepArgument : MethodName := ⟨RX4, "keepArgument", "(I)V"⟩
abbrev cX4_signAt : ByteArray := prog_6_method_14_code
def yX4_signAt : MethodName := ⟨RX4, "signAt", "(I)I"⟩
abbrev cX4_isDigit : ByteArray := prog_6_method_15_code
def yX4_isDigit : MethodName := ⟨RX4, "isDigit", "(I)Z"⟩
abbrev cX4_wordOf : ByteArray := prog_6_method_16_code
def yX4_wordOf : MethodName := ⟨RX4, "wordOf", "(I)Ljava/lang/String;"⟩
abbrev cX4_shapeOf : ByteArray := prog_6_method_17_code
def yX4_shapeOf : MethodName := ⟨RX4, "shapeOf", "(I)Ljava/lang/String;"⟩
def RX5 : String := "StageBallet$Rehearsal"
def TX5 : u_T := fun k => match k with
  | 0 => ("StageBallet$Rehearsal", "leader", "I", false)
  | 1 => ("StageBallet$Rehearsal", "follower", "I", false)
  | 2 => ("StageBallet$Rehearsal", "leaderCell", "I", false)
  | 3 => ("StageBallet$Rehearsal", "leaderNails", "I", false)
  | 4 => ("StageBallet$Rehearsal", "followerCell", "I", false)
  | 5 => ("StageBallet$Rehearsal", "followerNails", "I", false)
  | 6 => ("StageBallet$Rehearsal", "closed", "J", false)
  | _ => ("StageBallet$Rehearsal", "lost", "I", false)
def tyX5 : Nat → FieldType := fun k => match k with
  | 0 => .int
  | 1 => .int
  | 2 => .int
  | 3 => .int
  | 4 => .int
  | 5 => .int
  | 6 => .long
  | _ => .int
abbrev wsX50 : List Cond := u_ws RX5 TX5 8
theorem nmX5 : ∀ a, a < 8 → ∀ b, b < 8 → a ≠ b → (TX5 a).2.1 ≠ (TX5 b).2.1 := by decide +kernel
theorem tyX5_ok : ∀ k, k < 8 → parseFieldDescriptor (TX5 k).2.2.1 = some (tyX5 k) := by decide +kernel
abbrev cX5_init : ByteArray := prog_7_method_1_code
def yX5_init : MethodName := ⟨RX5, "<init>", "()V"⟩
abbrev cX5_firstBlocked : ByteArray := prog_7_method_2_code
def yX5_firstBlocked : MethodName := ⟨RX5, "firstBlocked", "(LStageBallet$State;II)I"⟩
abbrev cX5_goOn : ByteArray := prog_7_method_3_code
def yX5_goOn : MethodName := ⟨RX5, "goOn", "(I)Z"⟩
abbrev cX5_canCome : ByteArray := prog_7_method_4_code
def yX5_canCome : MethodName := ⟨RX5, "canCome", "(I)Z"⟩
abbrev cX5_showOn : ByteArray := prog_7_method_5_code
def yX5_showOn : MethodName := ⟨RX5, "showOn", "(LStageBallet$State;)V"⟩
def RX6 : String := "StageBallet$State"
def TX6 : u_T := fun k => match k with
  | 0 => ("StageBallet$State", "props", "J", false)
  | 1 => ("StageBallet$State", "dancerCount", "I", false)
  | 2 => ("StageBallet$State", "nextNumber", "I", false)
  | 3 => ("StageBallet$State", "number", "[I", true)
  | 4 => ("StageBallet$State", "cell", "[I", true)
  | 5 => ("StageBallet$State", "nails", "[I", true)
  | 6 => ("StageBallet$State", "partnerNumber", "[I", true)
  | 7 => ("StageBallet$State", "figureMoves", "[I", true)
  | 8 => ("StageBallet$State", "figureSize", "[I", true)
  | 9 => ("StageBallet$State", "exitCount", "I", false)
  | 10 => ("StageBallet$State", "exitCell", "[I", true)
  | 11 => ("StageBallet$State", "lost", "I", false)
  | 12 => ("StageBallet$State", "brought", "I", false)
  | 13 => ("StageBallet$State", "given", "I", false)
  | _ => ("StageBallet$State", "takenAway", "I", false)
def tyX6 : Nat → FieldType := fun k => match k with
  | 0 => .long
  | 1 => .int
  | 2 => .int
  | 3 => .array .int
  | 4 => .array .int
  | 5 => .array .int
  | 6 => .array .int
  | 7 => .array .int
  | 8 => .array .int
  | 9 => .int
  | 10 => .array .int
  | 11 => .int
  | 12 => .int
  | 13 => .int
  | _ => .int
abbrev wsX60 : List Cond := u_ws RX6 TX6 15
theorem nmX6 : ∀ a, a < 15 → ∀ b, b < 15 → a ≠ b → (TX6 a).2.1 ≠ (TX6 b).2.1 := by decide +kernel
theorem tyX6_ok : ∀ k, k < 15 → parseFieldDescriptor (TX6 k).2.2.1 = some (tyX6 k) := by decide +kernel
abbrev cX6_init : ByteArray := prog_8_method_1_code
def yX6_init : MethodName := ⟨RX6, "<init>", "()V"⟩
abbrev cX6_copyFrom : ByteArray := prog_8_method_2_code
def yX6_copyFrom : MethodName := ⟨RX6, "copyFrom", "(LStageBallet$State;)V"⟩
abbrev cX6_countProps : ByteArray := prog_8_method_3_code
def yX6_countProps : MethodName := ⟨RX6, "countProps", "()I"⟩
abbrev cX6_placeProp : ByteArray := prog_8_method_4_code
def yX6_placeProp : MethodName := ⟨RX6, "placeProp", "(I)V"⟩
abbrev cX6_takeProp : ByteArray := prog_8_method_5_code
def yX6_takeProp : MethodName := ⟨RX6, "takeProp", "(I)V"⟩
abbrev cX6_isOpen : ByteArray := prog_8_method_6_code
def yX6_isOpen : MethodName := ⟨RX6, "isOpen", "(I)Z"⟩
abbrev cX6_slotOf : ByteArray := prog_8_method_7_code
def yX6_slotOf : MethodName := ⟨RX6, "slotOf", "(I)I"⟩
abbrev cX6_slotAt : ByteArray := prog_8_method_8_code
def yX6_slotAt : MethodName := ⟨RX6, "slotAt", "(I)I"⟩
abbrev cX6_cellsOfOthers : ByteArray := prog_8_method_9_code
def yX6_cellsOfOthers : MethodName := ⟨RX6, "cellsOfOthers", "(I)J"⟩
abbrev cX6_bringDancer : ByteArray := prog_8_method_10_code
def yX6_bringDancer : MethodName := ⟨RX6, "bringDancer", "(II)I"⟩
abbrev cX6_dismissDancer : ByteArray := prog_8_method_11_code
def yX6_dismissDancer : MethodName := ⟨RX6, "dismissDancer", "(I)V"⟩
abbrev cX6_dismissAll : ByteArray := prog_8_method_12_code
def yX6_dismissAll : MethodName := ⟨RX6, "dismissAll", "()V"⟩
abbrev cX6_bind : ByteArray := prog_8_method_13_code
def yX6_bind : MethodName := ⟨RX6, "bind", "(II)V"⟩
abbrev cX6_separate : ByteArray := prog_8_method_14_code
def yX6_separate : MethodName := ⟨RX6, "separate", "(I)V"⟩
abbrev cX6_partnerOf : ByteArray := prog_8_method_15_code
def yX6_partnerOf : MethodName := ⟨RX6, "partnerOf", "(I)I"⟩
abbrev cX6_countPaired : ByteArray := prog_8_method_16_code
def yX6_countPaired : MethodName := ⟨RX6, "countPaired", "()I"⟩
abbrev cX6_fillNails : ByteArray := prog_8_method_17_code
def yX6_fillNails : MethodName := ⟨RX6, "fillNails", "(I)I"⟩
abbrev cX6_sumOfNails : ByteArray := prog_8_method_18_code
def yX6_sumOfNails : MethodName := ⟨RX6, "sumOfNails", "()I"⟩
abbrev cX6_lostByParts : ByteArray := prog_8_method_19_code
def yX6_lostByParts : MethodName := ⟨RX6, "lostByParts", "()I"⟩
abbrev cX6_numberAtRank : ByteArray := prog_8_method_20_code
def yX6_numberAtRank : MethodName := ⟨RX6, "numberAtRank", "(I)I"⟩
abbrev cX6_rankOf : ByteArray := prog_8_method_21_code
def yX6_rankOf : MethodName := ⟨RX6, "rankOf", "(I)I"⟩
abbrev cX6_movesIn : ByteArray := prog_8_method_22_code
def yX6_movesIn : MethodName := ⟨RX6, "movesIn", "(I)I"⟩
abbrev cX6_moveAt : ByteArray := prog_8_method_23_code
def yX6_moveAt : MethodName := ⟨RX6, "moveAt", "(II)I"⟩
abbrev cX6_appendMove : ByteArray := prog_8_method_24_code
def yX6_appendMove : MethodName := ⟨RX6, "appendMove", "(II)V"⟩
abbrev cX6_emptyFigure : ByteArray := prog_8_method_25_code
def yX6_emptyFigure : MethodName := ⟨RX6, "emptyFigure", "(I)V"⟩
abbrev cX6_hasExitAt : ByteArray := prog_8_method_26_code
def yX6_hasExitAt : MethodName := ⟨RX6, "hasExitAt", "(I)Z"⟩
abbrev cX6_openExit : ByteArray := prog_8_method_27_code
def yX6_openExit : MethodName := ⟨RX6, "openExit", "(I)V"⟩
abbrev cX6_closeExit : ByteArray := prog_8_method_28_code
def yX6_closeExit : MethodName := ⟨RX6, "closeExit", "(I)V"⟩
abbrev cX6_signAt : ByteArray := prog_8_method_29_code
def yX6_signAt : MethodName := ⟨RX6, "signAt", "(I)C"⟩
abbrev cX6_hasSoundStage : ByteArray := prog_8_method_30_code
def yX6_hasSoundStage : MethodName := ⟨RX6, "hasSoundStage", "()Z"⟩
abbrev cX6_hasSoundDancers : ByteArray := prog_8_method_31_code
def yX6_hasSoundDancers : MethodName := ⟨RX6, "hasSoundDancers", "()Z"⟩
abbrev cX6_isSoundDancer : ByteArray := prog_8_method_32_code
def yX6_isSoundDancer : MethodName := ⟨RX6, "isSoundDancer", "(I)Z"⟩
abbrev cX6_hasSoundFigures : ByteArray := prog_8_method_33_code
def yX6_hasSoundFigures : MethodName := ⟨RX6, "hasSoundFigures", "()Z"⟩
def RX7 : String := "StageBallet$Ways"
def TX7 : u_T := fun k => match k with
  | 0 => ("StageBallet$Ways", "steps", "[I", true)
  | _ => ("StageBallet$Ways", "queue", "[I", true)
def tyX7 : Nat → FieldType := fun k => match k with
  | 0 => .array .int
  | _ => .array .int
abbrev wsX70 : List Cond := u_ws RX7 TX7 2
theorem nmX7 : ∀ a, a < 2 → ∀ b, b < 2 → a ≠ b → (TX7 a).2.1 ≠ (TX7 b).2.1 := by decide +kernel
theorem tyX7_ok : ∀ k, k < 2 → parseFieldDescriptor (TX7 k).2.2.1 = some (tyX7 k) := by decide +kernel
abbrev cX7_init : ByteArray := prog_9_method_1_code
def yX7_init : MethodName := ⟨RX7, "<init>", "()V"⟩
abbrev cX7_lengthTo : ByteArray := prog_9_method_2_code
def yX7_lengthTo : MethodName := ⟨RX7, "lengthTo", "(I)I"⟩
abbrev cX7_searchBreadthFirst : ByteArray := prog_9_method_3_code
def yX7_searchBreadthFirst : MethodName := ⟨RX7, "searchBreadthFirst", "(IJ)V"⟩
def RX8 : String := "StageBallet"
def TX8 : u_T := fun k => match k with
  | 0 => ("StageBallet", "now", "LStageBallet$State;", true)
  | 1 => ("StageBallet", "saved", "LStageBallet$State;", true)
  | 2 => ("StageBallet", "before", "LStageBallet$State;", true)
  | 3 => ("StageBallet", "history", "LStageBallet$History;", true)
  | 4 => ("StageBallet", "areaSearch", "LStageBallet$Areas;", true)
  | 5 => ("StageBallet", "ways", "LStageBallet$Ways;", true)
  | 6 => ("StageBallet", "rehearsal", "LStageBallet$Rehearsal;", true)
  | 7 => ("StageBallet", "plan", "LStageBallet$ExitPlan;", true)
  | 8 => ("StageBallet", "program", "LStageBallet$Program;", true)
  | 9 => ("StageBallet", "line", "LStageBallet$Line;", true)
  | 10 => ("StageBallet", "hasSaved", "Z", false)
  | 11 => ("StageBallet", "lastErrorPosition", "I", false)
  | _ => ("StageBallet", "lastFailedCommand", "I", false)
def tyX8 : Nat → FieldType := fun k => match k with
  | 0 => .object "StageBallet$State"
  | 1 => .object "StageBallet$State"
  | 2 => .object "StageBallet$State"
  | 3 => .object "StageBallet$History"
  | 4 => .object "StageBallet$Areas"
  | 5 => .object "StageBallet$Ways"
  | 6 => .object "StageBallet$Rehearsal"
  | 7 => .object "StageBallet$ExitPlan"
  | 8 => .object "StageBallet$Program"
  | 9 => .object "StageBallet$Line"
  | 10 => .boolean
  | 11 => .int
  | _ => .int
abbrev wsX80 : List Cond := u_ws RX8 TX8 13
theorem nmX8 : ∀ a, a < 13 → ∀ b, b < 13 → a ≠ b → (TX8 a).2.1 ≠ (TX8 b).2.1 := by decide +kernel
theorem tyX8_ok : ∀ k, k < 13 → parseFieldDescriptor (TX8 k).2.2.1 = some (tyX8 k) := by decide +kernel
abbrev cX8_init : ByteArray := prog_1_method_1_code
def yX8_init : MethodName := ⟨RX8, "<init>", "()V"⟩
abbrev cX8_addProp : ByteArray := prog_1_method_2_code
def yX8_addProp : MethodName := ⟨RX8, "addProp", "(II)I"⟩
abbrev cX8_removeProp : ByteArray := prog_1_method_3_code
def yX8_removeProp : MethodName := ⟨RX8, "removeProp", "(II)I"⟩
abbrev cX8_isFree : ByteArray := prog_1_method_4_code
def yX8_isFree : MethodName := ⟨RX8, "isFree", "(II)Z"⟩
abbrev cX8_areas : ByteArray := prog_1_method_5_code
def yX8_areas : MethodName := ⟨RX8, "areas", "()I"⟩
abbrev cX8_areasByUnions : ByteArray := prog_1_method_6_code
def yX8_areasByUnions : MethodName := ⟨RX8, "areasByUnions", "()I"⟩
abbrev cX8_areaSize : ByteArray := prog_1_method_7_code
def yX8_areaSize : MethodName := ⟨RX8, "areaSize", "(II)I"⟩
abbrev cX8_addDancer : ByteArray := prog_1_method_8_code
def yX8_addDancer : MethodName := ⟨RX8, "addDancer", "(III)I"⟩
abbrev cX8_removeDancer : ByteArray := prog_1_method_9_code
def yX8_removeDancer : MethodName := ⟨RX8, "removeDancer", "(I)I"⟩
abbrev cX8_pair : ByteArray := prog_1_method_10_code
def yX8_pair : MethodName := ⟨RX8, "pair", "(II)I"⟩
abbrev cX8_unpair : ByteArray := prog_1_method_11_code
def yX8_unpair : MethodName := ⟨RX8, "unpair", "(I)I"⟩
abbrev cX8_renewNails : ByteArray := prog_1_method_12_code
def yX8_renewNails : MethodName := ⟨RX8, "renewNails", "(I)I"⟩
abbrev cX8_dancers : ByteArray := prog_1_method_13_code
def yX8_dancers : MethodName := ⟨RX8, "dancers", "()I"⟩
abbrev cX8_isPresent : ByteArray := prog_1_method_14_code
def yX8_isPresent : MethodName := ⟨RX8, "isPresent", "(I)Z"⟩
abbrev cX8_column : ByteArray := prog_1_method_15_code
def yX8_column : MethodName := ⟨RX8, "column", "(I)I"⟩
abbrev cX8_row : ByteArray := prog_1_method_16_code
def yX8_row : MethodName := ⟨RX8, "row", "(I)I"⟩
abbrev cX8_nails : ByteArray := prog_1_method_17_code
def yX8_nails : MethodName := ⟨RX8, "nails", "(I)I"⟩
abbrev cX8_partner : ByteArray := prog_1_method_18_code
def yX8_partner : MethodName := ⟨RX8, "partner", "(I)I"⟩
abbrev cX8_dancerByNails : ByteArray := prog_1_method_19_code
def yX8_dancerByNails : MethodName := ⟨RX8, "dancerByNails", "(I)I"⟩
abbrev cX8_addMove : ByteArray := prog_1_method_20_code
def yX8_addMove : MethodName := ⟨RX8, "addMove", "(IC)I"⟩
abbrev cX8_clearFigure : ByteArray := prog_1_method_21_code
def yX8_clearFigure : MethodName := ⟨RX8, "clearFigure", "(I)I"⟩
abbrev cX8_figureLength : ByteArray := prog_1_method_22_code
def yX8_figureLength : MethodName := ⟨RX8, "figureLength", "(I)I"⟩
abbrev cX8_perform : ByteArray := prog_1_method_23_code
def yX8_perform : MethodName := ⟨RX8, "perform", "(II)I"⟩
abbrev cX8_blockedBeat : ByteArray := prog_1_method_24_code
def yX8_blockedBeat : MethodName := ⟨RX8, "blockedBeat", "(II)I"⟩
abbrev cX8_distance : ByteArray := prog_1_method_25_code
def yX8_distance : MethodName := ⟨RX8, "distance", "(III)I"⟩
abbrev cX8_walk : ByteArray := prog_1_method_27_code
def yX8_walk : MethodName := ⟨RX8, "walk", "(III)I"⟩
abbrev cX8_addExit : ByteArray := prog_1_method_28_code
def yX8_addExit : MethodName := ⟨RX8, "addExit", "(II)I"⟩
abbrev cX8_removeExit : ByteArray := prog_1_method_29_code
def yX8_removeExit : MethodName := ⟨RX8, "removeExit", "(I)I"⟩
abbrev cX8_exits : ByteArray := prog_1_method_30_code
def yX8_exits : MethodName := ⟨RX8, "exits", "()I"⟩
abbrev cX8_exitDistance : ByteArray := prog_1_method_31_code
def yX8_exitDistance : MethodName := ⟨RX8, "exitDistance", "(II)I"⟩
abbrev cX8_exitCost : ByteArray := prog_1_method_32_code
def yX8_exitCost : MethodName := ⟨RX8, "exitCost", "()I"⟩
abbrev cX8_exitCostByPotentials : ByteArray := prog_1_method_33_code
def yX8_exitCostByPotentials : MethodName := ⟨RX8, "exitCostByPotentials", "()I"⟩
abbrev cX8_exitOf : ByteArray := prog_1_method_34_code
def yX8_exitOf : MethodName := ⟨RX8, "exitOf", "(I)I"⟩
abbrev cX8_leaveAll : ByteArray := prog_1_method_35_code
def yX8_leaveAll : MethodName := ⟨RX8, "leaveAll", "()I"⟩
abbrev cX8_isMirrored : ByteArray := prog_1_method_36_code
def yX8_isMirrored : MethodName := ⟨RX8, "isMirrored", "()Z"⟩
abbrev cX8_isMirroredByRows : ByteArray := prog_1_method_37_code
def yX8_isMirroredByRows : MethodName := ⟨RX8, "isMirroredByRows", "()Z"⟩
abbrev cX8_lostNails : ByteArray := prog_1_method_38_code
def yX8_lostNails : MethodName := ⟨RX8, "lostNails", "()I"⟩
abbrev cX8_lostNailsByParts : ByteArray := prog_1_method_39_code
def yX8_lostNailsByParts : MethodName := ⟨RX8, "lostNailsByParts", "()I"⟩
abbrev cX8_meanNails : ByteArray := prog_1_method_40_code
def yX8_meanNails : MethodName := ⟨RX8, "meanNails", "()D"⟩
abbrev cX8_meanNailsBits : ByteArray := prog_1_method_41_code
def yX8_meanNailsBits : MethodName := ⟨RX8, "meanNailsBits", "()J"⟩
abbrev cX8_pairedShare : ByteArray := prog_1_method_42_code
def yX8_pairedShare : MethodName := ⟨RX8, "pairedShare", "()F"⟩
abbrev cX8_pairedShareBits : ByteArray := prog_1_method_43_code
def yX8_pairedShareBits : MethodName := ⟨RX8, "pairedShareBits", "()I"⟩
abbrev cX8_isConsistent : ByteArray := prog_1_method_44_code
def yX8_isConsistent : MethodName := ⟨RX8, "isConsistent", "()Z"⟩
abbrev cX8_writeRow : ByteArray := prog_1_method_45_code
def yX8_writeRow : MethodName := ⟨RX8, "writeRow", "(I)I"⟩
abbrev cX8_writeFigure : ByteArray := prog_1_method_46_code
def yX8_writeFigure : MethodName := ⟨RX8, "writeFigure", "(I)I"⟩
abbrev cX8_type : ByteArray := prog_1_method_48_code
def yX8_type : MethodName := ⟨RX8, "type", "(C)I"⟩
abbrev cX8_run : ByteArray := prog_1_method_49_code
def yX8_run : MethodName := ⟨RX8, "run", "()I"⟩
abbrev cX8_undo : ByteArray := prog_1_method_52_code
def yX8_undo : MethodName := ⟨RX8, "undo", "()I"⟩
abbrev cX8_save : ByteArray := prog_1_method_53_code
def yX8_save : MethodName := ⟨RX8, "save", "()I"⟩
abbrev cX8_restore : ByteArray := prog_1_method_54_code
def yX8_restore : MethodName := ⟨RX8, "restore", "()I"⟩
abbrev cX8_throwFor : ByteArray := prog_1_method_55_code
def yX8_throwFor : MethodName := ⟨RX8, "throwFor", "(I)V"⟩
abbrev cX8_cellFault : ByteArray := prog_1_method_56_code
def yX8_cellFault : MethodName := ⟨RX8, "cellFault", "(II)I"⟩
abbrev cX8_figureFault : ByteArray := prog_1_method_57_code
def yX8_figureFault : MethodName := ⟨RX8, "figureFault", "(I)I"⟩
abbrev cX8_exitFault : ByteArray := prog_1_method_58_code
def yX8_exitFault : MethodName := ⟨RX8, "exitFault", "(I)I"⟩
abbrev cX8_presenceFault : ByteArray := prog_1_method_59_code
def yX8_presenceFault : MethodName := ⟨RX8, "presenceFault", "(I)I"⟩
abbrev cX8_addPropFault : ByteArray := prog_1_method_60_code
def yX8_addPropFault : MethodName := ⟨RX8, "addPropFault", "(II)I"⟩
abbrev cX8_removePropFault : ByteArray := prog_1_method_61_code
def yX8_removePropFault : MethodName := ⟨RX8, "removePropFault", "(II)I"⟩
abbrev cX8_addDancerFault : ByteArray := prog_1_method_62_code
def yX8_addDancerFault : MethodName := ⟨RX8, "addDancerFault", "(III)I"⟩
abbrev cX8_pairFault : ByteArray := prog_1_method_63_code
def yX8_pairFault : MethodName := ⟨RX8, "pairFault", "(II)I"⟩
abbrev cX8_unpairFault : ByteArray := prog_1_method_64_code
def yX8_unpairFault : MethodName := ⟨RX8, "unpairFault", "(I)I"⟩
abbrev cX8_addMoveFault : ByteArray := prog_1_method_65_code
def yX8_addMoveFault : MethodName := ⟨RX8, "addMoveFault", "(II)I"⟩
abbrev cX8_rewriteFault : ByteArray := prog_1_method_66_code
def yX8_rewriteFault : MethodName := ⟨RX8, "rewriteFault", "(II)I"⟩
abbrev cX8_performFault : ByteArray := prog_1_method_67_code
def yX8_performFault : MethodName := ⟨RX8, "performFault", "(II)I"⟩
abbrev cX8_walkFault : ByteArray := prog_1_method_68_code
def yX8_walkFault : MethodName := ⟨RX8, "walkFault", "(III)I"⟩
abbrev cX8_addExitFault : ByteArray := prog_1_method_69_code
def yX8_addExitFault : MethodName := ⟨RX8, "addExitFault", "(II)I"⟩
abbrev cX8_leaveFault : ByteArray := prog_1_method_70_code
def yX8_leaveFault : MethodName := ⟨RX8, "leaveFault", "()I"⟩
abbrev cX8_remember : ByteArray := prog_1_method_71_code
def yX8_remember : MethodName := ⟨RX8, "remember", "()V"⟩
abbrev cX8_performNow : ByteArray := prog_1_method_72_code
def yX8_performNow : MethodName := ⟨RX8, "performNow", "(II)I"⟩
abbrev cX8_walkLength : ByteArray := prog_1_method_73_code
def yX8_walkLength : MethodName := ⟨RX8, "walkLength", "(III)I"⟩
abbrev cX8_walkNow : ByteArray := prog_1_method_74_code
def yX8_walkNow : MethodName := ⟨RX8, "walkNow", "(III)V"⟩
abbrev cX8_planCost : ByteArray := prog_1_method_75_code
def yX8_planCost : MethodName := ⟨RX8, "planCost", "()I"⟩
abbrev cX8_commandFault : ByteArray := prog_1_method_76_code
def yX8_commandFault : MethodName := ⟨RX8, "commandFault", "(I)I"⟩
abbrev cX8_execute : ByteArray := prog_1_method_77_code
def yX8_execute : MethodName := ⟨RX8, "execute", "(I)V"⟩
abbrev cX8_rewriteFigure : ByteArray := prog_1_method_78_code
def yX8_rewriteFigure : MethodName := ⟨RX8, "rewriteFigure", "(III)V"⟩
abbrev cX8_cellAt : ByteArray := prog_1_method_79_code
def yX8_cellAt : MethodName := ⟨RX8, "cellAt", "(II)I"⟩
abbrev cX8_columnOf : ByteArray := prog_1_method_80_code
def yX8_columnOf : MethodName := ⟨RX8, "columnOf", "(I)I"⟩
abbrev cX8_rowOf : ByteArray := prog_1_method_81_code
def yX8_rowOf : MethodName := ⟨RX8, "rowOf", "(I)I"⟩
abbrev cX8_holds : ByteArray := prog_1_method_82_code
def yX8_holds : MethodName := ⟨RX8, "holds", "(JI)Z"⟩
abbrev cX8_cellAfter : ByteArray := prog_1_method_83_code
def yX8_cellAfter : MethodName := ⟨RX8, "cellAfter", "(II)I"⟩
abbrev cX8_mirroredMove : ByteArray := prog_1_method_84_code
def yX8_mirroredMove : MethodName := ⟨RX8, "mirroredMove", "(I)I"⟩
abbrev cX8_moveIndex : ByteArray := prog_1_method_85_code
def yX8_moveIndex : MethodName := ⟨RX8, "moveIndex", "(I)I"⟩
abbrev cX8_moveLetter : ByteArray := prog_1_method_86_code
def yX8_moveLetter : MethodName := ⟨RX8, "moveLetter", "(I)C"⟩
abbrev cX8_at : ByteArray := prog_1_method_87_code
def yX8_at : MethodName := ⟨RX8, "at", "([II)I"⟩
abbrev cX8_set : ByteArray := prog_1_method_88_code
def yX8_set : MethodName := ⟨RX8, "set", "([III)V"⟩
abbrev cX8_fill : ByteArray := prog_1_method_89_code
def yX8_fill : MethodName := ⟨RX8, "fill", "([II)V"⟩
abbrev cX8_reversed : ByteArray := prog_1_method_90_code
def yX8_reversed : MethodName := ⟨RX8, "reversed", "(I)I"⟩
abbrev cX8_doubleBits : ByteArray := prog_1_method_91_code
def yX8_doubleBits : MethodName := ⟨RX8, "doubleBits", "(D)J"⟩
abbrev cX8_floatBits : ByteArray := prog_1_method_92_code
def yX8_floatBits : MethodName := ⟨RX8, "floatBits", "(F)I"⟩
def RX9 : String := "StageBalletModel"
def TX9 : u_T := fun k => match k with
  | _ => ("", "", "", false)
def tyX9 : Nat → FieldType := fun k => match k with
  | _ => .int
abbrev wsX90 : List Cond := u_ws RX9 TX9 0
theorem nmX9 : ∀ a, a < 0 → ∀ b, b < 0 → a ≠ b → (TX9 a).2.1 ≠ (TX9 b).2.1 := by decide +kernel
theorem tyX9_ok : ∀ k, k < 0 → parseFieldDescriptor (TX9 k).2.2.1 = some (tyX9 k) := by decide +kernel
def RJx145de : String := "java/io/Serializable"
def TJx145de : u_T := fun k => match k with
  | _ => ("", "", "", false)
def tyJx145de : Nat → FieldType := fun k => match k with
  | _ => .int
abbrev wsJx145de0 : List Cond := u_ws RJx145de TJx145de 0
theorem nmJx145de : ∀ a, a < 0 → ∀ b, b < 0 → a ≠ b → (TJx145de a).2.1 ≠ (TJx145de b).2.1 := by decide +kernel
theorem tyJx145de_ok : ∀ k, k < 0 → parseFieldDescriptor (TJx145de k).2.2.1 = some (tyJx145de k) := by decide +kernel
def RJ5 : String := "java/lang/AbstractStringBuilder"
def TJ5 : u_T := fun k => match k with
  | _ => ("", "", "", false)
def tyJ5 : Nat → FieldType := fun k => match k with
  | _ => .int
abbrev wsJ50 : List Cond := u_ws RJ5 TJ5 0
theorem nmJ5 : ∀ a, a < 0 → ∀ b, b < 0 → a ≠ b → (TJ5 a).2.1 ≠ (TJ5 b).2.1 := by decide +kernel
theorem tyJ5_ok : ∀ k, k < 0 → parseFieldDescriptor (TJ5 k).2.2.1 = some (tyJ5 k) := by decide +kernel
abbrev cJ5_init_d00df : ByteArray := prog_13_method_2_code
def yJ5_init_d00df : MethodName := ⟨RJ5, "<init>", "(I)V"⟩
abbrev cJ5_length_8abf5 : ByteArray := prog_13_method_6_code
def yJ5_length_8abf5 : MethodName := ⟨RJ5, "length", "()I"⟩
abbrev cJ5_ensureCapacityInternal_d00df : ByteArray := prog_13_method_9_code
def yJ5_ensureCapacityInternal_d00df : MethodName := ⟨RJ5, "ensureCapacityInternal", "(I)V"⟩
abbrev cJ5_newCapacity_0f7a4 : ByteArray := prog_13_method_10_code
def yJ5_newCapacity_0f7a4 : MethodName := ⟨RJ5, "newCapacity", "(I)I"⟩
abbrev cJ5_inflate_da8c8 : ByteArray := prog_13_method_11_code
def yJ5_inflate_da8c8 : MethodName := ⟨RJ5, "inflate", "()V"⟩
abbrev cJ5_append_cf1ce : ByteArray := prog_13_method_22_code
def yJ5_append_cf1ce : MethodName := ⟨RJ5, "append", "(Ljava/lang/String;)Ljava/lang/AbstractStringBuilder;"⟩
abbrev cJ5_appendNull_278bc : ByteArray := prog_13_method_26_code
def yJ5_appendNull_278bc : MethodName := ⟨RJ5, "appendNull", "()Ljava/lang/AbstractStringBuilder;"⟩
abbrev cJ5_append_c97b9 : ByteArray := prog_13_method_32_code
def yJ5_append_c97b9 : MethodName := ⟨RJ5, "append", "(I)Ljava/lang/AbstractStringBuilder;"⟩
abbrev cJ5_getValue_6d5f1 : ByteArray := prog_13_method_64_code
def yJ5_getValue_6d5f1 : MethodName := ⟨RJ5, "getValue", "()[B"⟩
abbrev cJ5_isLatin1_aae02 : ByteArray := prog_13_method_68_code
def yJ5_isLatin1_aae02 : MethodName := ⟨RJ5, "isLatin1", "()Z"⟩
abbrev cJ5_inflateIfNeededFor_a7421 : ByteArray := prog_13_method_71_code
def yJ5_inflateIfNeededFor_a7421 : MethodName := ⟨RJ5, "inflateIfNeededFor", "(Ljava/lang/String;)V"⟩
abbrev cJ5_putStringAt_47b60 : ByteArray := prog_13_method_73_code
def yJ5_putStringAt_47b60 : MethodName := ⟨RJ5, "putStringAt", "(ILjava/lang/String;)V"⟩
def RJx2cfe8 : String := "java/lang/Appendable"
def TJx2cfe8 : u_T := fun k => match k with
  | _ => ("", "", "", false)
def tyJx2cfe8 : Nat → FieldType := fun k => match k with
  | _ => .int
abbrev wsJx2cfe80 : List Cond := u_ws RJx2cfe8 TJx2cfe8 0
theorem nmJx2cfe8 : ∀ a, a < 0 → ∀ b, b < 0 → a ≠ b → (TJx2cfe8 a).2.1 ≠ (TJx2cfe8 b).2.1 := by decide +kernel
theorem tyJx2cfe8_ok : ∀ k, k < 0 → parseFieldDescriptor (TJx2cfe8 k).2.2.1 = some (tyJx2cfe8 k) := by decide +kernel
def RJx00060 : String := "java/lang/ArrayIndexOutOfBoundsException"
def TJx00060 : u_T := fun k => match k with
  | 0 => ("java/lang/Throwable", "backtrace", "Ljava/lang/Object;", false)
  | 1 => ("java/lang/Throwable", "detailMessage", "Ljava/lang/String;", false)
  | 2 => ("java/lang/Throwable", "cause", "Ljava/lang/Throwable;", false)
  | 3 => ("java/lang/Throwable", "stackTrace", "[Ljava/lang/StackTraceElement;", false)
  | 4 => ("java/lang/Throwable", "depth", "I", false)
  | _ => ("java/lang/Throwable", "suppressedExceptions", "Ljava/util/List;", false)
def tyJx00060 : Nat → FieldType := fun k => match k with
  | 0 => .object "java/lang/Object"
  | 1 => .object "java/lang/String"
  | 2 => .object "java/lang/Throwable"
  | 3 => .array (.object "java/lang/StackTraceElement")
  | 4 => .int
  | _ => .object "java/util/List"
abbrev wsJx000600 : List Cond := u_ws RJx00060 TJx00060 6
theorem nmJx00060 : ∀ a, a < 6 → ∀ b, b < 6 → a ≠ b → (TJx00060 a).2.1 ≠ (TJx00060 b).2.1 := by decide +kernel
theorem tyJx00060_ok : ∀ k, k < 6 → parseFieldDescriptor (TJx00060 k).2.2.1 = some (tyJx00060 k) := by decide +kernel
abbrev cJx00060_init_a7421 : ByteArray := prog_16_method_2_code
def yJx00060_init_a7421 : MethodName := ⟨RJx00060, "<init>", "(Ljava/lang/String;)V"⟩
def RJx9f9b0 : String := "java/lang/CharSequence"
def TJx9f9b0 : u_T := fun k => match k with
  | _ => ("", "", "", false)
def tyJx9f9b0 : Nat → FieldType := fun k => match k with
  | _ => .int
abbrev wsJx9f9b00 : List Cond := u_ws RJx9f9b0 TJx9f9b0 0
theorem nmJx9f9b0 : ∀ a, a < 0 → ∀ b, b < 0 → a ≠ b → (TJx9f9b0 a).2.1 ≠ (TJx9f9b0 b).2.1 := by decide +kernel
theorem tyJx9f9b0_ok : ∀ k, k < 0 → parseFieldDescriptor (TJx9f9b0 k).2.2.1 = some (tyJx9f9b0 k) := by decide +kernel
def RJx8e188 : String := "java/lang/Cloneable"
def TJx8e188 : u_T := fun k => match k with
  | _ => ("", "", "", false)
def tyJx8e188 : Nat → FieldType := fun k => match k with
  | _ => .int
abbrev wsJx8e1880 : List Cond := u_ws RJx8e188 TJx8e188 0
theorem nmJx8e188 : ∀ a, a < 0 → ∀ b, b < 0 → a ≠ b → (TJx8e188 a).2.1 ≠ (TJx8e188 b).2.1 := by decide +kernel
theorem tyJx8e188_ok : ∀ k, k < 0 → parseFieldDescriptor (TJx8e188 k).2.2.1 = some (tyJx8e188 k) := by decide +kernel
def RJxb160c : String := "java/lang/Comparable"
def TJxb160c : u_T := fun k => match k with
  | _ => ("", "", "", false)
def tyJxb160c : Nat → FieldType := fun k => match k with
  | _ => .int
abbrev wsJxb160c0 : List Cond := u_ws RJxb160c TJxb160c 0
theorem nmJxb160c : ∀ a, a < 0 → ∀ b, b < 0 → a ≠ b → (TJxb160c a).2.1 ≠ (TJxb160c b).2.1 := by decide +kernel
theorem tyJxb160c_ok : ∀ k, k < 0 → parseFieldDescriptor (TJxb160c k).2.2.1 = some (tyJxb160c k) := by decide +kernel
def RJxe99ae : String := "java/lang/Double"
def TJxe99ae : u_T := fun k => match k with
  | _ => ("", "", "", false)
def tyJxe99ae : Nat → FieldType := fun k => match k with
  | _ => .int
abbrev wsJxe99ae0 : List Cond := u_ws RJxe99ae TJxe99ae 0
theorem nmJxe99ae : ∀ a, a < 0 → ∀ b, b < 0 → a ≠ b → (TJxe99ae a).2.1 ≠ (TJxe99ae b).2.1 := by decide +kernel
theorem tyJxe99ae_ok : ∀ k, k < 0 → parseFieldDescriptor (TJxe99ae k).2.2.1 = some (tyJxe99ae k) := by decide +kernel
abbrev cJxe99ae_isNaN_b9ae7 : ByteArray := prog_20_method_6_code
def yJxe99ae_isNaN_b9ae7 : MethodName := ⟨RJxe99ae, "isNaN", "(D)Z"⟩
abbrev cJxe99ae_doubleToLongBits_ccdee : ByteArray := prog_20_method_23_code
def yJxe99ae_doubleToLongBits_ccdee : MethodName := ⟨RJxe99ae, "doubleToLongBits", "(D)J"⟩
def RJxf58ca : String := "java/lang/Float"
def TJxf58ca : u_T := fun k => match k with
  | _ => ("", "", "", false)
def tyJxf58ca : Nat → FieldType := fun k => match k with
  | _ => .int
abbrev wsJxf58ca0 : List Cond := u_ws RJxf58ca TJxf58ca 0
theorem nmJxf58ca : ∀ a, a < 0 → ∀ b, b < 0 → a ≠ b → (TJxf58ca a).2.1 ≠ (TJxf58ca b).2.1 := by decide +kernel
theorem tyJxf58ca_ok : ∀ k, k < 0 → parseFieldDescriptor (TJxf58ca k).2.2.1 = some (tyJxf58ca k) := by decide +kernel
abbrev cJxf58ca_isNaN_12338 : ByteArray := prog_22_method_6_code
def yJxf58ca_isNaN_12338 : MethodName := ⟨RJxf58ca, "isNaN", "(F)Z"⟩
abbrev cJxf58ca_floatToIntBits_5c35a : ByteArray := prog_22_method_24_code
def yJxf58ca_floatToIntBits_5c35a : MethodName := ⟨RJxf58ca, "floatToIntBits", "(F)I"⟩
def RJ6 : String := "java/lang/Integer"
def TJ6 : u_T := fun k => match k with
  | _ => ("", "", "", false)
def tyJ6 : Nat → FieldType := fun k => match k with
  | _ => .int
abbrev wsJ60 : List Cond := u_ws RJ6 TJ6 0
theorem nmJ6 : ∀ a, a < 0 → ∀ b, b < 0 → a ≠ b → (TJ6 a).2.1 ≠ (TJ6 b).2.1 := by decide +kernel
theorem tyJ6_ok : ∀ k, k < 0 → parseFieldDescriptor (TJ6 k).2.2.1 = some (tyJ6 k) := by decide +kernel
abbrev cJ6_getChars_ba4f3 : ByteArray := prog_26_method_12_code
def yJ6_getChars_ba4f3 : MethodName := ⟨RJ6, "getChars", "(II[B)I"⟩
abbrev cJ6_stringSize_0f7a4 : ByteArray := prog_26_method_13_code
def yJ6_stringSize_0f7a4 : MethodName := ⟨RJ6, "stringSize", "(I)I"⟩
abbrev cJ6_bitCount_0f7a4 : ByteArray := prog_26_method_49_code
def yJ6_bitCount_0f7a4 : MethodName := ⟨RJ6, "bitCount", "(I)I"⟩
def RJ13 : String := "java/lang/Long"
def TJ13 : u_T := fun k => match k with
  | _ => ("", "", "", false)
def tyJ13 : Nat → FieldType := fun k => match k with
  | _ => .int
abbrev wsJ130 : List Cond := u_ws RJ13 TJ13 0
theorem nmJ13 : ∀ a, a < 0 → ∀ b, b < 0 → a ≠ b → (TJ13 a).2.1 ≠ (TJ13 b).2.1 := by decide +kernel
theorem tyJ13_ok : ∀ k, k < 0 → parseFieldDescriptor (TJ13 k).2.2.1 = some (tyJ13 k) := by decide +kernel
abbrev cJ13_bitCount_95d88 : ByteArray := prog_27_method_50_code
def yJ13_bitCount_95d88 : MethodName := ⟨RJ13, "bitCount", "(J)I"⟩
def RJ9 : String := "java/lang/Math"
def TJ9 : u_T := fun k => match k with
  | _ => ("", "", "", false)
def tyJ9 : Nat → FieldType := fun k => match k with
  | _ => .int
abbrev wsJ90 : List Cond := u_ws RJ9 TJ9 0
theorem nmJ9 : ∀ a, a < 0 → ∀ b, b < 0 → a ≠ b → (TJ9 a).2.1 ≠ (TJ9 b).2.1 := by decide +kernel
theorem tyJ9_ok : ∀ k, k < 0 → parseFieldDescriptor (TJ9 k).2.2.1 = some (tyJ9 k) := by decide +kernel
abbrev cJ9_max_7cf53 : ByteArray := prog_28_method_65_code
def yJ9_max_7cf53 : MethodName := ⟨RJ9, "max", "(II)I"⟩
abbrev cJ9_min_7cf53 : ByteArray := prog_28_method_69_code
def yJ9_min_7cf53 : MethodName := ⟨RJ9, "min", "(II)I"⟩
def RJxd2413 : String := "java/lang/Number"
def TJxd2413 : u_T := fun k => match k with
  | _ => ("", "", "", false)
def tyJxd2413 : Nat → FieldType := fun k => match k with
  | _ => .int
abbrev wsJxd24130 : List Cond := u_ws RJxd2413 TJxd2413 0
theorem nmJxd2413 : ∀ a, a < 0 → ∀ b, b < 0 → a ≠ b → (TJxd2413 a).2.1 ≠ (TJxd2413 b).2.1 := by decide +kernel
theorem tyJxd2413_ok : ∀ k, k < 0 → parseFieldDescriptor (TJxd2413 k).2.2.1 = some (tyJxd2413 k) := by decide +kernel
def RJ0 : String := "java/lang/String"
def TJ0 : u_T := fun k => match k with
  | 0 => ("java/lang/String", "value", "[B", true)
  | 1 => ("java/lang/String", "coder", "B", true)
  | 2 => ("java/lang/String", "hash", "I", false)
  | _ => ("java/lang/String", "hashIsZero", "Z", false)
def tyJ0 : Nat → FieldType := fun k => match k with
  | 0 => .array .byte
  | 1 => .byte
  | 2 => .int
  | _ => .boolean
abbrev wsJ00 : List Cond := u_ws RJ0 TJ0 4
theorem nmJ0 : ∀ a, a < 4 → ∀ b, b < 4 → a ≠ b → (TJ0 a).2.1 ≠ (TJ0 b).2.1 := by decide +kernel
theorem tyJ0_ok : ∀ k, k < 4 → parseFieldDescriptor (TJ0 k).2.2.1 = some (tyJ0 k) := by decide +kernel
abbrev cJ0_init_81219 : ByteArray := prog_31_method_53_code
def yJ0_init_81219 : MethodName := ⟨RJ0, "<init>", "(Ljava/lang/StringBuilder;)V"⟩
abbrev cJ0_length_8abf5 : ByteArray := prog_31_method_54_code
def yJ0_length_8abf5 : MethodName := ⟨RJ0, "length", "()I"⟩
abbrev cJ0_charAt_5068e : ByteArray := prog_31_method_56_code
def yJ0_charAt_5068e : MethodName := ⟨RJ0, "charAt", "(I)C"⟩
abbrev cJ0_getBytes_840e7 : ByteArray := prog_31_method_147_code
def yJ0_getBytes_840e7 : MethodName := ⟨RJ0, "getBytes", "([BIB)V"⟩
abbrev cJ0_init_db425 : ByteArray := prog_31_method_150_code
def yJ0_init_db425 : MethodName := ⟨RJ0, "<init>", "(Ljava/lang/AbstractStringBuilder;Ljava/lang/Void;)V"⟩
abbrev cJ0_coder_7d493 : ByteArray := prog_31_method_152_code
def yJ0_coder_7d493 : MethodName := ⟨RJ0, "coder", "()B"⟩
abbrev cJ0_isLatin1_aae02 : ByteArray := prog_31_method_154_code
def yJ0_isLatin1_aae02 : MethodName := ⟨RJ0, "isLatin1", "()Z"⟩
abbrev cJ0_checkIndex_df160 : ByteArray := prog_31_method_155_code
def yJ0_checkIndex_df160 : MethodName := ⟨RJ0, "checkIndex", "(II)V"⟩
abbrev cJ0_checkBoundsOffCount_cabcc : ByteArray := prog_31_method_157_code
def yJ0_checkBoundsOffCount_cabcc : MethodName := ⟨RJ0, "checkBoundsOffCount", "(III)I"⟩
abbrev cJ0_checkBoundsBeginEnd_23922 : ByteArray := prog_31_method_158_code
def yJ0_checkBoundsBeginEnd_23922 : MethodName := ⟨RJ0, "checkBoundsBeginEnd", "(III)V"⟩
def RJ4 : String := "java/lang/StringBuilder"
def TJ4 : u_T := fun k => match k with
  | 0 => ("java/lang/AbstractStringBuilder", "value", "[B", false)
  | 1 => ("java/lang/AbstractStringBuilder", "coder", "B", false)
  | 2 => ("java/lang/AbstractStringBuilder", "maybeLatin1", "Z", false)
  | _ => ("java/lang/AbstractStringBuilder", "count", "I", false)
def tyJ4 : Nat → FieldType := fun k => match k with
  | 0 => .array .byte
  | 1 => .byte
  | 2 => .boolean
  | _ => .int
abbrev wsJ40 : List Cond := u_ws RJ4 TJ4 4
theorem nmJ4 : ∀ a, a < 4 → ∀ b, b < 4 → a ≠ b → (TJ4 a).2.1 ≠ (TJ4 b).2.1 := by decide +kernel
theorem tyJ4_ok : ∀ k, k < 4 → parseFieldDescriptor (TJ4 k).2.2.1 = some (tyJ4 k) := by decide +kernel
abbrev cJ4_init_da8c8 : ByteArray := prog_32_method_1_code
def yJ4_init_da8c8 : MethodName := ⟨RJ4, "<init>", "()V"⟩
abbrev cJ4_append_15ec4 : ByteArray := prog_32_method_7_code
def yJ4_append_15ec4 : MethodName := ⟨RJ4, "append", "(Ljava/lang/String;)Ljava/lang/StringBuilder;"⟩
abbrev cJ4_append_bf812 : ByteArray := prog_32_method_15_code
def yJ4_append_bf812 : MethodName := ⟨RJ4, "append", "(I)Ljava/lang/StringBuilder;"⟩
abbrev cJ4_toString_0e30d : ByteArray := prog_32_method_42_code
def yJ4_toString_0e30d : MethodName := ⟨RJ4, "toString", "()Ljava/lang/String;"⟩
abbrev cJ4_length_8abf5 : ByteArray := prog_32_method_93_code
def yJ4_length_8abf5 : MethodName := ⟨RJ4, "length", "()I"⟩
def RJ1 : String := "java/lang/StringLatin1"
def TJ1 : u_T := fun k => match k with
  | _ => ("", "", "", false)
def tyJ1 : Nat → FieldType := fun k => match k with
  | _ => .int
abbrev wsJ10 : List Cond := u_ws RJ1 TJ1 0
theorem nmJ1 : ∀ a, a < 0 → ∀ b, b < 0 → a ≠ b → (TJ1 a).2.1 ≠ (TJ1 b).2.1 := by decide +kernel
theorem tyJ1_ok : ∀ k, k < 0 → parseFieldDescriptor (TJ1 k).2.2.1 = some (tyJ1 k) := by decide +kernel
abbrev cJ1_charAt_3b067 : ByteArray := prog_33_method_2_code
def yJ1_charAt_3b067 : MethodName := ⟨RJ1, "charAt", "([BI)C"⟩
abbrev cJ1_inflate_0e8fd : ByteArray := prog_33_method_50_code
def yJ1_inflate_0e8fd : MethodName := ⟨RJ1, "inflate", "([BI[BII)V"⟩
def RJ2 : String := "java/lang/StringUTF16"
def TJ2 : u_T := fun k => match k with
  | _ => ("", "", "", false)
def tyJ2 : Nat → FieldType := fun k => match k with
  | _ => .int
abbrev wsJ20 : List Cond := u_ws RJ2 TJ2 0
theorem nmJ2 : ∀ a, a < 0 → ∀ b, b < 0 → a ≠ b → (TJ2 a).2.1 ≠ (TJ2 b).2.1 := by decide +kernel
theorem tyJ2_ok : ∀ k, k < 0 → parseFieldDescriptor (TJ2 k).2.2.1 = some (tyJ2 k) := by decide +kernel
abbrev cJ2_newBytesFor_77867 : ByteArray := prog_34_method_2_code
def yJ2_newBytesFor_77867 : MethodName := ⟨RJ2, "newBytesFor", "(I)[B"⟩
abbrev cJ2_newBytesLength_0f7a4 : ByteArray := prog_34_method_3_code
def yJ2_newBytesLength_0f7a4 : MethodName := ⟨RJ2, "newBytesLength", "(I)I"⟩
abbrev cJ2_putChar_b72d1 : ByteArray := prog_34_method_4_code
def yJ2_putChar_b72d1 : MethodName := ⟨RJ2, "putChar", "([BII)V"⟩
abbrev cJ2_getChar_3b067 : ByteArray := prog_34_method_5_code
def yJ2_getChar_3b067 : MethodName := ⟨RJ2, "getChar", "([BI)C"⟩
abbrev cJ2_length_9d52b : ByteArray := prog_34_method_6_code
def yJ2_length_9d52b : MethodName := ⟨RJ2, "length", "([B)I"⟩
abbrev cJ2_coderFromArrayLen_85cad : ByteArray := prog_34_method_15_code
def yJ2_coderFromArrayLen_85cad : MethodName := ⟨RJ2, "coderFromArrayLen", "([BI)B"⟩
abbrev cJ2_compress_39247 : ByteArray := prog_34_method_17_code
def yJ2_compress_39247 : MethodName := ⟨RJ2, "compress", "([BII)[B"⟩
abbrev cJ2_compress_5af95 : ByteArray := prog_34_method_22_code
def yJ2_compress_5af95 : MethodName := ⟨RJ2, "compress", "([BI[BII)I"⟩
abbrev cJ2_getChars_46870 : ByteArray := prog_34_method_77_code
def yJ2_getChars_46870 : MethodName := ⟨RJ2, "getChars", "(III[B)I"⟩
abbrev cJ2_putCharsAt_cd4e5 : ByteArray := prog_34_method_81_code
def yJ2_putCharsAt_cd4e5 : MethodName := ⟨RJ2, "putCharsAt", "([BICCCC)I"⟩
abbrev cJ2_charAt_3b067 : ByteArray := prog_34_method_83_code
def yJ2_charAt_3b067 : MethodName := ⟨RJ2, "charAt", "([BI)C"⟩
abbrev cJ2_inflate_0e8fd : ByteArray := prog_34_method_86_code
def yJ2_inflate_0e8fd : MethodName := ⟨RJ2, "inflate", "([BI[BII)V"⟩
abbrev cJ2_getChars_ba4f3 : ByteArray := prog_34_method_89_code
def yJ2_getChars_ba4f3 : MethodName := ⟨RJ2, "getChars", "(II[B)I"⟩
abbrev cJ2_checkIndex_2214a : ByteArray := prog_34_method_91_code
def yJ2_checkIndex_2214a : MethodName := ⟨RJ2, "checkIndex", "(I[B)V"⟩
abbrev cJ2_checkBoundsBeginEnd_d044e : ByteArray := prog_34_method_93_code
def yJ2_checkBoundsBeginEnd_d044e : MethodName := ⟨RJ2, "checkBoundsBeginEnd", "(II[B)V"⟩
abbrev cJ2_checkBoundsOffCount_d044e : ByteArray := prog_34_method_94_code
def yJ2_checkBoundsOffCount_d044e : MethodName := ⟨RJ2, "checkBoundsOffCount", "(II[B)V"⟩
def RJ10 : String := "java/lang/System"
def TJ10 : u_T := fun k => match k with
  | _ => ("", "", "", false)
def tyJ10 : Nat → FieldType := fun k => match k with
  | _ => .int
abbrev wsJ100 : List Cond := u_ws RJ10 TJ10 0
theorem nmJ10 : ∀ a, a < 0 → ∀ b, b < 0 → a ≠ b → (TJ10 a).2.1 ≠ (TJ10 b).2.1 := by decide +kernel
theorem tyJ10_ok : ∀ k, k < 0 → parseFieldDescriptor (TJ10 k).2.2.1 = some (tyJ10 k) := by decide +kernel
def RJxfd54e : String := "java/lang/constant/Constable"
def TJxfd54e : u_T := fun k => match k with
  | _ => ("", "", "", false)
def tyJxfd54e : Nat → FieldType := fun k => match k with
  | _ => .int
abbrev wsJxfd54e0 : List Cond := u_ws RJxfd54e TJxfd54e 0
theorem nmJxfd54e : ∀ a, a < 0 → ∀ b, b < 0 → a ≠ b → (TJxfd54e a).2.1 ≠ (TJxfd54e b).2.1 := by decide +kernel
theorem tyJxfd54e_ok : ∀ k, k < 0 → parseFieldDescriptor (TJxfd54e k).2.2.1 = some (tyJxfd54e k) := by decide +kernel
def RJx3cf43 : String := "java/lang/constant/ConstantDesc"
def TJx3cf43 : u_T := fun k => match k with
  | _ => ("", "", "", false)
def tyJx3cf43 : Nat → FieldType := fun k => match k with
  | _ => .int
abbrev wsJx3cf430 : List Cond := u_ws RJx3cf43 TJx3cf43 0
theorem nmJx3cf43 : ∀ a, a < 0 → ∀ b, b < 0 → a ≠ b → (TJx3cf43 a).2.1 ≠ (TJx3cf43 b).2.1 := by decide +kernel
theorem tyJx3cf43_ok : ∀ k, k < 0 → parseFieldDescriptor (TJx3cf43 k).2.2.1 = some (tyJx3cf43 k) := by decide +kernel
def RJ7 : String := "java/util/Arrays"
def TJ7 : u_T := fun k => match k with
  | _ => ("", "", "", false)
def tyJ7 : Nat → FieldType := fun k => match k with
  | _ => .int
abbrev wsJ70 : List Cond := u_ws RJ7 TJ7 0
theorem nmJ7 : ∀ a, a < 0 → ∀ b, b < 0 → a ≠ b → (TJ7 a).2.1 ≠ (TJ7 b).2.1 := by decide +kernel
theorem tyJ7_ok : ∀ k, k < 0 → parseFieldDescriptor (TJ7 k).2.2.1 = some (tyJ7 k) := by decide +kernel
abbrev cJ7_copyOf_9075b : ByteArray := prog_40_method_121_code
def yJ7_copyOf_9075b : MethodName := ⟨RJ7, "copyOf", "([BI)[B"⟩
abbrev cJ7_checkLength_df160 : ByteArray := prog_40_method_131_code
def yJ7_checkLength_df160 : MethodName := ⟨RJ7, "checkLength", "(II)V"⟩
abbrev cJ7_copyOfRange_39247 : ByteArray := prog_40_method_132_code
def yJ7_copyOfRange_39247 : MethodName := ⟨RJ7, "copyOfRange", "([BII)[B"⟩
abbrev cJ7_copyOfRangeByte_39247 : ByteArray := prog_40_method_133_code
def yJ7_copyOfRangeByte_39247 : MethodName := ⟨RJ7, "copyOfRangeByte", "([BII)[B"⟩
def RJ8 : String := "jdk/internal/util/ArraysSupport"
def TJ8 : u_T := fun k => match k with
  | _ => ("", "", "", false)
def tyJ8 : Nat → FieldType := fun k => match k with
  | _ => .int
abbrev wsJ80 : List Cond := u_ws RJ8 TJ8 0
theorem nmJ8 : ∀ a, a < 0 → ∀ b, b < 0 → a ≠ b → (TJ8 a).2.1 ≠ (TJ8 b).2.1 := by decide +kernel
theorem tyJ8_ok : ∀ k, k < 0 → parseFieldDescriptor (TJ8 k).2.2.1 = some (tyJ8 k) := by decide +kernel
abbrev cJ8_newLength_cabcc : ByteArray := prog_42_method_27_code
def yJ8_newLength_cabcc : MethodName := ⟨RJ8, "newLength", "(III)I"⟩
abbrev cJ8_hugeLength_7cf53 : ByteArray := prog_42_method_28_code
def yJ8_hugeLength_7cf53 : MethodName := ⟨RJ8, "hugeLength", "(II)I"⟩
def RJ3 : String := "jdk/internal/util/Preconditions"
def TJ3 : u_T := fun k => match k with
  | _ => ("", "", "", false)
def tyJ3 : Nat → FieldType := fun k => match k with
  | _ => .int
abbrev wsJ30 : List Cond := u_ws RJ3 TJ3 0
theorem nmJ3 : ∀ a, a < 0 → ∀ b, b < 0 → a ≠ b → (TJ3 a).2.1 ≠ (TJ3 b).2.1 := by decide +kernel
theorem tyJ3_ok : ∀ k, k < 0 → parseFieldDescriptor (TJ3 k).2.2.1 = some (tyJ3 k) := by decide +kernel
abbrev cJ3_checkIndex_8e157 : ByteArray := prog_43_method_11_code
def yJ3_checkIndex_8e157 : MethodName := ⟨RJ3, "checkIndex", "(IILjava/util/function/BiFunction;)I"⟩
abbrev cJ3_checkFromToIndex_8c36e : ByteArray := prog_43_method_12_code
def yJ3_checkFromToIndex_8c36e : MethodName := ⟨RJ3, "checkFromToIndex", "(IIILjava/util/function/BiFunction;)I"⟩
abbrev cJ3_checkFromIndexSize_8c36e : ByteArray := prog_43_method_13_code
def yJ3_checkFromIndexSize_8c36e : MethodName := ⟨RJ3, "checkFromIndexSize", "(IIILjava/util/function/BiFunction;)I"⟩
def RL : String := "StageBalletLaw"
abbrev cL_cell : ByteArray := method_2_code
def yL_cell : MethodName := ⟨RL, "cell", "([II)I"⟩
abbrev cL_addProp : ByteArray := method_3_code
def yL_addProp : MethodName := ⟨RL, "addProp", "(LStageBallet;II)I"⟩
abbrev cL_removeProp : ByteArray := method_4_code
def yL_removeProp : MethodName := ⟨RL, "removeProp", "(LStageBallet;II)I"⟩
abbrev cL_addDancer : ByteArray := method_5_code
def yL_addDancer : MethodName := ⟨RL, "addDancer", "(LStageBallet;III)I"⟩
abbrev cL_removeDancer : ByteArray := method_6_code
def yL_removeDancer : MethodName := ⟨RL, "removeDancer", "(LStageBallet;I)I"⟩
abbrev cL_pair : ByteArray := method_7_code
def yL_pair : MethodName := ⟨RL, "pair", "(LStageBallet;II)I"⟩
abbrev cL_unpair : ByteArray := method_8_code
def yL_unpair : MethodName := ⟨RL, "unpair", "(LStageBallet;I)I"⟩
abbrev cL_renewNails : ByteArray := method_9_code
def yL_renewNails : MethodName := ⟨RL, "renewNails", "(LStageBallet;I)I"⟩
abbrev cL_partner : ByteArray := method_10_code
def yL_partner : MethodName := ⟨RL, "partner", "(LStageBallet;I)I"⟩
abbrev cL_dancerByNails : ByteArray := method_11_code
def yL_dancerByNails : MethodName := ⟨RL, "dancerByNails", "(LStageBallet;I)I"⟩
abbrev cL_addMove : ByteArray := method_12_code
def yL_addMove : MethodName := ⟨RL, "addMove", "(LStageBallet;IC)I"⟩
abbrev cL_clearFigure : ByteArray := method_13_code
def yL_clearFigure : MethodName := ⟨RL, "clearFigure", "(LStageBallet;I)I"⟩
abbrev cL_perform : ByteArray := method_14_code
def yL_perform : MethodName := ⟨RL, "perform", "(LStageBallet;II)I"⟩
abbrev cL_blockedBeat : ByteArray := method_15_code
def yL_blockedBeat : MethodName := ⟨RL, "blockedBeat", "(LStageBallet;II)I"⟩
abbrev cL_distance : ByteArray := method_16_code
def yL_distance : MethodName := ⟨RL, "distance", "(LStageBallet;III)I"⟩
abbrev cL_walk : ByteArray := method_17_code
def yL_walk : MethodName := ⟨RL, "walk", "(LStageBallet;III)I"⟩
abbrev cL_addExit : ByteArray := method_18_code
def yL_addExit : MethodName := ⟨RL, "addExit", "(LStageBallet;II)I"⟩
abbrev cL_removeExit : ByteArray := method_19_code
def yL_removeExit : MethodName := ⟨RL, "removeExit", "(LStageBallet;I)I"⟩
abbrev cL_exitDistance : ByteArray := method_20_code
def yL_exitDistance : MethodName := ⟨RL, "exitDistance", "(LStageBallet;II)I"⟩
abbrev cL_exitCost : ByteArray := method_21_code
def yL_exitCost : MethodName := ⟨RL, "exitCost", "(LStageBallet;)I"⟩
abbrev cL_exitCostByPotentials : ByteArray := method_22_code
def yL_exitCostByPotentials : MethodName := ⟨RL, "exitCostByPotentials", "(LStageBallet;)I"⟩
abbrev cL_exitOf : ByteArray := method_23_code
def yL_exitOf : MethodName := ⟨RL, "exitOf", "(LStageBallet;I)I"⟩
abbrev cL_leaveAll : ByteArray := method_24_code
def yL_leaveAll : MethodName := ⟨RL, "leaveAll", "(LStageBallet;)I"⟩
abbrev cL_run : ByteArray := method_25_code
def yL_run : MethodName := ⟨RL, "run", "(LStageBallet;)I"⟩
abbrev cL_undo : ByteArray := method_26_code
def yL_undo : MethodName := ⟨RL, "undo", "(LStageBallet;)I"⟩
abbrev cL_restore : ByteArray := method_27_code
def yL_restore : MethodName := ⟨RL, "restore", "(LStageBallet;)I"⟩
abbrev cL_in : ByteArray := method_28_code
def yL_in : MethodName := ⟨RL, "in", "([III)I"⟩
abbrev cL_does : ByteArray := method_29_code
def yL_does : MethodName := ⟨RL, "does", "(LStageBallet;Ljava/lang/String;)I"⟩
abbrev cL_begun : ByteArray := method_30_code
def yL_begun : MethodName := ⟨RL, "begun", "([I)LStageBallet;"⟩
abbrev cL_dancer : ByteArray := method_31_code
def yL_dancer : MethodName := ⟨RL, "dancer", "(LStageBallet;I)I"⟩
abbrev cL_acts : ByteArray := method_32_code
def yL_acts : MethodName := ⟨RL, "acts", "(LStageBallet;[II)I"⟩
abbrev cL_seen : ByteArray := method_33_code
def yL_seen : MethodName := ⟨RL, "seen", "(LStageBallet;)[I"⟩
abbrev cL_areAlike : ByteArray := method_34_code
def yL_areAlike : MethodName := ⟨RL, "areAlike", "([I[I)Z"⟩
abbrev cL_isProp : ByteArray := method_35_code
def yL_isProp : MethodName := ⟨RL, "isProp", "(LStageBallet;II)Z"⟩
abbrev cL_on : ByteArray := method_36_code
def yL_on : MethodName := ⟨RL, "on", "(LStageBallet;II)I"⟩
abbrev cL_isWell : ByteArray := method_37_code
def yL_isWell : MethodName := ⟨RL, "isWell", "(LStageBallet;)Z"⟩
abbrev cL_law : ByteArray := code
def yL_law : MethodName := ⟨RL, "law", "([I)Z"⟩
end
section
/-! PM: a small pure machine over the decoded instructions. A reference is a place in a list of things ('shape'); what the things hold stands in four functions. -/
/-- what the things hold: whole numbers (int, boolean, char), longs, references, doubles; by the thing's place and the place in it -/
abbrev pmM : Type := (Nat → Nat → Int32) × (Nat → Nat → Int64) × (Nat → Nat → Option Nat) × (Nat → Nat → UInt64)
/-- the shape: an object of a class by its number, or an array of a kind with its length -/
abbrev pmG : Type := List (Nat ⊕ (Nat × Nat))
abbrev pmS : Type := pmG × pmM
/-- pc, locals, stack, store -/
abbrev pmC : Type := Nat × List (Option Value) × List Value × pmS
/-- how a method ends: it returned, or threw an exception of a number -/
abbrev pmO : Type := Option Value ⊕ Nat
/-- .. with the store behind it, and the cells and slots that it took -/
abbrev pmR : Type := pmO × pmS × Nat × Nat
def pmU {α : Type} (f : Nat → Nat → α) (i k : Nat) (x : α) : Nat → Nat → α := fun a b => if a = i then (if b = k then x else f a b) else f a b
def pmCl : List vw_C := [(RX0, TX0, 2), (RX1, TX1, 10), (RX2, TX2, 3), (RX3, TX3, 2), (RX4, TX4, 7), (RX5, TX5, 8), (RX6, TX6, 15), (RX7, TX7, 2), (RX8, TX8, 13), (RJ0, TJ0, 4), (RJ4, TJ4, 4)]
def pmCN (c : Nat) : String := match c with | 0 => RX0 | 1 => RX1 | 2 => RX2 | 3 => RX3 | 4 => RX4 | 5 => RX5 | 6 => RX6 | 7 => RX7 | 8 => RX8 | 9 => RJ0 | 10 => RJ4 | _ => RL
def pmT (c : Nat) : u_T := match c with | 0 => TX0 | 1 => TX1 | 2 => TX2 | 3 => TX3 | 4 => TX4 | 5 => TX5 | 6 => TX6 | 7 => TX7 | 8 => TX8 | 9 => TJ0 | _ => TJ4
def pmTy (c : Nat) : Nat → FieldType := match c with | 0 => tyX0 | 1 => tyX1 | 2 => tyX2 | 3 => tyX3 | 4 => tyX4 | 5 => tyX5 | 6 => tyX6 | 7 => tyX7 | 8 => tyX8 | 9 => tyJ0 | _ => tyJ4
def pmN (c : Nat) : Nat := match c with | 0 => 2 | 1 => 10 | 2 => 3 | 3 => 2 | 4 => 7 | 5 => 8 | 6 => 15 | 7 => 2 | 8 => 13 | _ => 4
theorem pmCl_at {c : Nat} (h : c < 11) : pmCl[c]? = some (pmCN c, pmT c, pmN c) := by
  rcases (show c = 0 ∨ c = 1 ∨ c = 2 ∨ c = 3 ∨ c = 4 ∨ c = 5 ∨ c = 6 ∨ c = 7 ∨ c = 8 ∨ c = 9 ∨ c = 10 by omega) with rfl | rfl | rfl | rfl | rfl | rfl | rfl | rfl | rfl | rfl | rfl <;> rfl
def pmRe (ad : Nat → Nat) (v : Value) : Value := match v with | .ref i => .ref (ad i) | w => w
/-- a field's value -/
def pmRd (t : FieldType) (μ : pmM) (i k : Nat) : Value := match t with
  | .long => .long (μ.2.1 i k)
  | .double => .double (μ.2.2.2 i k)
  | .object _ => va_rf (μ.2.2.1 i k)
  | .array _ => va_rf (μ.2.2.1 i k)
  | _ => .int (μ.1 i k)
/-- a field's new value -/
def pmWr (t : FieldType) (v : Value) (μ : pmM) (i k : Nat) : Option pmM := match t with
  | .long => match v with | .long x => some (μ.1, pmU μ.2.1 i k x, μ.2.2) | _ => none
  | .int => match v with | .int x => some (pmU μ.1 i k x, μ.2) | _ => none
  | .boolean => match v with | .int x => if x = 0 ∨ x = 1 then some (pmU μ.1 i k x, μ.2) else none | _ => none
  | .byte => match v with | .int x => if x = 0 then some (pmU μ.1 i k x, μ.2) else none | _ => none
  | .object _ => match v with | .ref q => some (μ.1, μ.2.1, pmU μ.2.2.1 i k (some q), μ.2.2.2) | _ => none
  | .array _ => match v with | .ref q => some (μ.1, μ.2.1, pmU μ.2.2.1 i k (some q), μ.2.2.2) | _ => none
  | _ => none
/-- an array's payload, by its kind: 0 int, 1 byte, 2 char, 4 references (3: none) -/
def pmPay (ad : Nat → Nat) (μ : pmM) (i t : Nat) : (Nat → Int32) ⊕ (Nat → Int64) ⊕ (Nat → UInt32) ⊕ (Nat → UInt64) ⊕ (Nat → Option Nat) := match t with
  | 0 => .inl (μ.1 i)
  | 1 => .inl (μ.1 i)
  | 2 => .inl (μ.1 i)
  | 3 => .inl (μ.1 i)
  | _ => .inr (.inr (.inr (.inr (fun k => (μ.2.2.1 i k).map ad))))
def pmE (ad : Nat → Nat) (cA : Nat → ClassId) (μ : pmM) (i : Nat) (e : Nat ⊕ (Nat × Nat)) : va_E := match e with
  | .inl c => .inr (c, (List.range (pmN c)).map (fun k => pmRe ad (pmRd (pmTy c k) μ i k)))
  | .inr a => .inl (cA a.1, a.2, pmPay ad μ i a.1)
def pmW (ad : Nat → Nat) (cA : Nat → ClassId) (S : pmS) : va_W := S.1.mapIdx (fun i e => (ad i, pmE ad cA S.2 i e))
def pmAt (t : Nat) : FieldType := match t with | 0 => .int | 1 => .byte | 2 => .char | 3 => .int | _ => .object RX6
def pmTs (cA : Nat → ClassId) : List (ClassId × FieldType) := [(cA 0, .int), (cA 1, .byte), (cA 2, .char), (cA 3, .int), (cA 4, .object RX6)]
-- locals
def pmLv (ad : Nat → Nat) (L : List (Option Value)) : List (Nat × Value) := (List.range L.length).filterMap (fun i => match L[i]? with | some (some v) => some (i, pmRe ad v) | _ => none)
/-- a new value of a local; a value of two words ahead of it, and the word behind it, are lost -/
def pmSet (L : List (Option Value)) (k : Nat) (v : Value) : List (Option Value) :=
  let L1 := match k with
    | 0 => L
    | j + 1 => match L[j]? with
      | some (some w) => if w.category = 2 then L.set j none else L
      | _ => L
  let L2 := L1.set k (some v)
  if v.category = 2 then L2.set (k + 1) none else L2
-- steps
def pmNx (c : pmC) (n : Nat) (st : List Value) : pmC := (c.1 + n, c.2.1, st, c.2.2.2)
abbrev pmQ : Type := Option (pmC × List Prop)
def pmPush (n : Nat) (v : Value) (c : pmC) : pmQ := some (pmNx c n (v :: c.2.2.1), [])
def pmI1 (n : Nat) (f : Int32 → Value) (c : pmC) : pmQ := match c.2.2.1 with | .int x :: r => some (pmNx c n (f x :: r), []) | _ => none
def pmI2 (n : Nat) (f : Int32 → Int32 → Value) (c : pmC) : pmQ := match c.2.2.1 with | .int y :: .int x :: r => some (pmNx c n (f x y :: r), []) | _ => none
def pmI2p (n : Nat) (f : Int32 → Int32 → Value) (c : pmC) : pmQ := match c.2.2.1 with | .int y :: .int x :: r => some (pmNx c n (f x y :: r), [¬ y = 0]) | _ => none
def pmJ1 (n : Nat) (f : Int64 → Value) (c : pmC) : pmQ := match c.2.2.1 with | .long x :: r => some (pmNx c n (f x :: r), []) | _ => none
def pmJ2 (n : Nat) (f : Int64 → Int64 → Value) (c : pmC) : pmQ := match c.2.2.1 with | .long y :: .long x :: r => some (pmNx c n (f x y :: r), []) | _ => none
def pmJ2p (n : Nat) (f : Int64 → Int64 → Value) (c : pmC) : pmQ := match c.2.2.1 with | .long y :: .long x :: r => some (pmNx c n (f x y :: r), [¬ y = 0]) | _ => none
def pmJI (n : Nat) (f : Int64 → Int32 → Value) (c : pmC) : pmQ := match c.2.2.1 with | .int y :: .long x :: r => some (pmNx c n (f x y :: r), []) | _ => none
def pmF1 (n : Nat) (f : UInt32 → Value) (P : UInt32 → List Prop) (c : pmC) : pmQ := match c.2.2.1 with | .float x :: r => some (pmNx c n (f x :: r), P x) | _ => none
def pmF2 (n : Nat) (f : UInt32 → UInt32 → Value) (P : UInt32 → UInt32 → List Prop) (c : pmC) : pmQ := match c.2.2.1 with | .float y :: .float x :: r => some (pmNx c n (f x y :: r), P x y) | _ => none
def pmD1 (n : Nat) (f : UInt64 → Value) (c : pmC) : pmQ := match c.2.2.1 with | .double x :: r => some (pmNx c n (f x :: r), []) | _ => none
def pmD2 (n : Nat) (f : UInt64 → UInt64 → Value) (P : UInt64 → UInt64 → List Prop) (c : pmC) : pmQ := match c.2.2.1 with | .double y :: .double x :: r => some (pmNx c n (f x y :: r), P x y) | _ => none
/-- the kind of a value: 0 int, 1 long, 2 float, 3 double, 4 reference, 5 null -/
def pmKd (v : Value) : Nat := match v with | .int _ => 0 | .long _ => 1 | .float _ => 2 | .double _ => 3 | .ref _ => 4 | .null => 5 | .retAddr _ => 6
def pmLd (n k t : Nat) (c : pmC) : pmQ := match c.2.1[k]? with
  | some (some v) => if pmKd v = t then some (pmNx c n (v :: c.2.2.1), []) else none
  | _ => none
def pmSt (n k t : Nat) (c : pmC) : pmQ := match c.2.2.1 with
  | v :: r => if pmKd v = t ∧ k + (v.category - 1) < c.2.1.length then some ((c.1 + n, pmSet c.2.1 k v, r, c.2.2.2), []) else none
  | _ => none
def pmInc (n k : Nat) (d : Int) (c : pmC) : pmQ := match c.2.1[k]? with
  | some (some (.int x)) => some ((c.1 + n, pmSet c.2.1 k (.int (x + Int32.ofInt d)), c.2.2.1, c.2.2.2), [])
  | _ => none
def pmTgt (c : pmC) (off : Int) (st : List Value) (P : List Prop) : pmQ :=
  if 0 ≤ (c.1 : Int) + off then some ((((c.1 : Int) + off).toNat, c.2.1, st, c.2.2.2), P) else none
def pmBr (b : Nat) (off : Int) (n : Nat) (c : pmC) (st : List Value) (P : Prop) : pmQ :=
  if 0 ≤ (c.1 : Int) + off then (if b = 0 then some (pmNx c n st, [¬ P]) else some ((((c.1 : Int) + off).toNat, c.2.1, st, c.2.2.2), [P])) else none
def pmCd (k : Jvm.ClassFile.Cond) (x y : Int32) : Prop := match k with | .eq => x = y | .ne => ¬ x = y | .lt => x < y | .ge => y ≤ x | .gt => y < x | .le => x ≤ y
def pmIf (b : Nat) (k : Jvm.ClassFile.Cond) (off : Int) (c : pmC) : pmQ := match c.2.2.1 with | .int x :: r => pmBr b off 3 c r (pmCd k x 0) | _ => none
def pmIc (b : Nat) (k : Jvm.ClassFile.Cond) (off : Int) (c : pmC) : pmQ := match c.2.2.1 with | .int y :: .int x :: r => pmBr b off 3 c r (pmCd k x y) | _ => none
/-- ifnull, ifnonnull: no choice -/
def pmNu (off : Int) (c : pmC) : pmQ := match c.2.2.1 with
  | .ref _ :: r => some (pmNx c 3 r, [])
  | .null :: r => pmTgt c off r []
  | _ => none
def pmNn (off : Int) (c : pmC) : pmQ := match c.2.2.1 with
  | .ref _ :: r => pmTgt c off r []
  | .null :: r => some (pmNx c 3 r, [])
  | _ => none
def pmTb (b : Nat) (dflt lo hi : Int) (offs : Array Int) (c : pmC) : pmQ := match c.2.2.1 with
  | .int x :: r => match offs[b]? with
    | some off => if lo + b ≤ hi then pmTgt c off r [x.toInt = lo + b] else none
    | none => pmTgt c dflt r [x.toInt < lo ∨ hi < x.toInt]
  | _ => none
def pmLk (b : Nat) (dflt : Int) (ps : Array (Int × Int)) (c : pmC) : pmQ := match c.2.2.1 with
  | .int x :: r => if (ps.toList.zip (ps.toList.drop 1)).all (fun (a, next) => a.1 < next.1) = true then
      match ps[b]? with
      | some q => pmTgt c q.2 r [x.toInt = q.1, Op.lookupswitch.offset ps.toList dflt q.1 = q.2]
      | none => pmTgt c dflt r [Op.lookupswitch.offset ps.toList dflt x.toInt = dflt]
    else none
  | _ => none
def pmDup (c : pmC) : pmQ := match c.2.2.1 with | v :: r => if v.category = 1 then some (pmNx c 1 (v :: v :: r), []) else none | _ => none
def pmDup2 (c : pmC) : pmQ := match c.2.2.1 with | v :: w :: r => if v.category = 1 ∧ w.category = 1 then some (pmNx c 1 (v :: w :: v :: w :: r), []) else none | _ => none
def pmPop (c : pmC) : pmQ := match c.2.2.1 with | v :: r => if v.category = 1 then some (pmNx c 1 r, []) else none | _ => none
def pmGet (x : Nat × Nat) (c : pmC) : pmQ := match c.2.2.1 with
  | .ref q :: r => match c.2.2.2.1[q]? with
    | some (.inl ci) => if (ci = x.1 ∧ ci < 11) ∧ x.2 < pmN ci then some (pmNx c 3 (pmRd (pmTy ci x.2) c.2.2.2.2 q x.2 :: r), []) else none
    | _ => none
  | _ => none
def pmPut (x : Nat × Nat) (c : pmC) : pmQ := match c.2.2.1 with
  | v :: .ref q :: r => match c.2.2.2.1[q]? with
    | some (.inl ci) => if ci = x.1 ∧ x.2 < pmN ci then
        match pmWr (pmTy ci x.2) v c.2.2.2.2 q x.2 with
        | some μ => some ((c.1 + 3, c.2.1, r, c.2.2.2.1, μ), [])
        | none => none
      else none
    | _ => none
  | _ => none
def pmLen (c : pmC) : pmQ := match c.2.2.1 with
  | .ref q :: r => match c.2.2.2.1[q]? with
    | some (.inr a) => if a.1 < 5 then some (pmNx c 1 (.int (Int32.ofNat a.2) :: r), []) else none
    | _ => none
  | _ => none
def pmAld (t : Nat) (f : Nat → Int32 → Value) (c : pmC) : pmQ := match c.2.2.1 with
  | .int j :: .ref q :: r => match c.2.2.2.1[q]? with
    | some (.inr a) => if a.1 = t then some (pmNx c 1 (f q j :: r), [vp_in j a.2]) else none
    | _ => none
  | _ => none
def pmAst (t : Nat) (f : Nat → Int32 → Value → Option pmM) (c : pmC) : pmQ := match c.2.2.1 with
  | v :: .int j :: .ref q :: r => match c.2.2.2.1[q]? with
    | some (.inr a) => if a.1 = t then
        match f q j v with
        | some μ => some ((c.1 + 1, c.2.1, r, c.2.2.2.1, μ), [vp_in j a.2])
        | none => none
      else none
    | _ => none
  | _ => none
def pmIst (μ : pmM) (q : Nat) (j : Int32) (v : Value) : Option pmM := match v with | .int x => some (pmU μ.1 q j.toNatClampNeg x, μ.2) | _ => none
def pmCst (μ : pmM) (q : Nat) (j : Int32) (v : Value) : Option pmM := match v with | .int x => some (pmU μ.1 q j.toNatClampNeg (vp_nar .char x), μ.2) | _ => none
def pmBst (μ : pmM) (q : Nat) (j : Int32) (v : Value) : Option pmM := match v with | .int x => some (pmU μ.1 q j.toNatClampNeg (vp_nar .byte x), μ.2) | _ => none
/-- an instruction that neither calls, makes, returns nor throws; b: which way it goes, x: what its entry of the pool means -/
def pmStep (b : Nat) (i : Instr) (x : Nat × Nat) (c : pmC) : pmQ := match i with
  | .aload_n k => pmLd 1 k.val 4 c
  | .aload k => pmLd 2 k 4 c
  | .iload_n k => pmLd 1 k.val 0 c
  | .iload k => pmLd 2 k 0 c
  | .lload_n k => pmLd 1 k.val 1 c
  | .lload k => pmLd 2 k 1 c
  | .fload_n k => pmLd 1 k.val 2 c
  | .fload k => pmLd 2 k 2 c
  | .dload_n k => pmLd 1 k.val 3 c
  | .dload k => pmLd 2 k 3 c
  | .astore_n k => pmSt 1 k.val 4 c
  | .astore k => pmSt 2 k 4 c
  | .istore_n k => pmSt 1 k.val 0 c
  | .istore k => pmSt 2 k 0 c
  | .lstore_n k => pmSt 1 k.val 1 c
  | .lstore k => pmSt 2 k 1 c
  | .fstore_n k => pmSt 1 k.val 2 c
  | .fstore k => pmSt 2 k 2 c
  | .dstore_n k => pmSt 1 k.val 3 c
  | .dstore k => pmSt 2 k 3 c
  | .iinc k d => pmInc 3 k d c
  | .iconst n => pmPush 1 (.int (Int32.ofInt n)) c
  | .bipush n => pmPush 2 (.int (Int8.ofInt n).toInt32) c
  | .sipush n => pmPush 3 (.int (Int16.ofInt n).toInt32) c
  | .lconst n => pmPush 1 (.long (Int64.ofNat n.val)) c
  | .fconst n => if n.val = 0 then pmPush 1 (.float FP.fconst0) c else if n.val = 1 then pmPush 1 (.float FP.fconst1) c else pmPush 1 (.float FP.fconst2) c
  | .dconst n => if n.val = 0 then pmPush 1 (.double FP.dconst0) c else pmPush 1 (.double FP.dconst1) c
  | .iadd => pmI2 1 (fun x y => .int (x + y)) c
  | .isub => pmI2 1 (fun x y => .int (x - y)) c
  | .imul => pmI2 1 (fun x y => .int (x * y)) c
  | .iand => pmI2 1 (fun x y => .int (x &&& y)) c
  | .ior => pmI2 1 (fun x y => .int (x ||| y)) c
  | .ixor => pmI2 1 (fun x y => .int (x ^^^ y)) c
  | .ineg => pmI1 1 (fun x => .int (-x)) c
  | .ishl => pmI2 1 (fun x y => .int (x <<< (y &&& 31))) c
  | .ishr => pmI2 1 (fun x y => .int (x >>> (y &&& 31))) c
  | .iushr => pmI2 1 (fun x y => .int (x.toUInt32 >>> (y.toUInt32 &&& Int32.toUInt32 31)).toInt32) c
  | .idiv => pmI2p 1 (fun x y => .int (x / y)) c
  | .irem => pmI2p 1 (fun x y => .int (x - x / y * y)) c
  | .ladd => pmJ2 1 (fun x y => .long (x + y)) c
  | .lsub => pmJ2 1 (fun x y => .long (x - y)) c
  | .ldiv => pmJ2p 1 (fun x y => .long (x / y)) c
  | .land => pmJ2 1 (fun x y => .long (x &&& y)) c
  | .lor => pmJ2 1 (fun x y => .long (x ||| y)) c
  | .lxor => pmJ2 1 (fun x y => .long (x ^^^ y)) c
  | .lcmp => pmJ2 1 (fun x y => .int (lg_cmp x y)) c
  | .lshl => pmJI 1 (fun x y => .long (x <<< (y.toInt64 &&& 63))) c
  | .lushr => pmJI 1 (fun x y => .long (x.toUInt64 >>> (y.toInt64.toUInt64 &&& Int64.toUInt64 63)).toInt64) c
  | .i2l => pmI1 1 (fun x => .long x.toInt64) c
  | .l2i => pmJ1 1 (fun x => .int x.toInt32) c
  | .i2c => pmI1 1 (fun x => .int (x.toUInt32 % 65536).toInt32) c
  | .i2f => pmI1 1 (fun x => .float (FP.i2f x)) c
  | .i2d => pmI1 1 (fun x => .double (FP.i2d x)) c
  | .f2d => pmF1 1 (fun x => .double (FP.f2d x)) (fun x => [vf_n64 (FP.f2d x)]) c
  | .f2i => pmF1 1 (fun x => .int (FP.f2i x)) (fun _ => []) c
  | .d2l => pmD1 1 (fun x => .long (FP.d2l x)) c
  | .fdiv => pmF2 1 (fun x y => .float (FP.fdiv x y)) (fun x y => [vf_n32 (FP.fdiv x y)]) c
  | .fmul => pmF2 1 (fun x y => .float (FP.fmul x y)) (fun x y => [vf_n32 (FP.fmul x y)]) c
  | .fsub => pmF2 1 (fun x y => .float (FP.fsub x y)) (fun x y => [vf_n32 (FP.fsub x y)]) c
  | .fcmp op => pmF2 1 (fun x y => .int (Op.cmpValue (FP.fcmp x y) op)) (fun _ _ => []) c
  | .ddiv => pmD2 1 (fun x y => .double (FP.ddiv x y)) (fun x y => [vf_n64 (FP.ddiv x y)]) c
  | .dmul => pmD2 1 (fun x y => .double (FP.dmul x y)) (fun x y => [vf_n64 (FP.dmul x y)]) c
  | .dsub => pmD2 1 (fun x y => .double (FP.dsub x y)) (fun x y => [vf_n64 (FP.dsub x y)]) c
  | .dcmp op => pmD2 1 (fun x y => .int (Op.cmpValue (FP.dcmp x y) op)) (fun _ _ => []) c
  | .ifCond k off => pmIf b k off c
  | .if_icmp k off => pmIc b k off c
  | .ifnull off => pmNu off c
  | .ifnonnull off => pmNn off c
  | .goto off => pmTgt c off c.2.2.1 []
  | .tableswitch dflt lo hi offs => pmTb b dflt lo hi offs c
  | .lookupswitch dflt ps => pmLk b dflt ps c
  | .dup => pmDup c
  | .dup2 => pmDup2 c
  | .pop => pmPop c
  | .getfield _ => pmGet x c
  | .putfield _ => pmPut x c
  | .arraylength => pmLen c
  | .iaload => pmAld 0 (fun q j => .int (c.2.2.2.2.1 q j.toNatClampNeg)) c
  | .baload => pmAld 1 (fun q j => .int (c.2.2.2.2.1 q j.toNatClampNeg)) c
  | .caload => pmAld 2 (fun q j => .int (c.2.2.2.2.1 q j.toNatClampNeg)) c
  | .aaload => pmAld 4 (fun q j => va_rf (c.2.2.2.2.2.2.1 q j.toNatClampNeg)) c
  | .iastore => pmAst 0 (pmIst c.2.2.2.2) c
  | .bastore => pmAst 1 (pmBst c.2.2.2.2) c
  | .castore => pmAst 2 (pmCst c.2.2.2.2) c
  | _ => none
end
section
/-! PM: locals, worlds: plain facts -/
theorem pmRe_cat (ad : Nat → Nat) (v : Value) : (pmRe ad v).category = v.category := by cases v <;> rfl
theorem pmLv_mem {ad : Nat → Nat} {L : List (Option Value)} {k : Nat} {v : Value} (h : L[k]? = some (some v)) : (k, pmRe ad v) ∈ pmLv ad L := by
  unfold pmLv
  refine List.mem_filterMap.mpr ⟨k, List.mem_range.mpr ?_, ?_⟩
  · exact (List.getElem?_eq_some_iff.mp h).1
  · rw [h]
theorem pmLv_of {ad : Nat → Nat} {L : List (Option Value)} {q : Nat × Value} (h : q ∈ pmLv ad L) : ∃ v, L[q.1]? = some (some v) ∧ q.2 = pmRe ad v := by
  unfold pmLv at h
  obtain ⟨i, -, hi⟩ := List.mem_filterMap.mp h
  split at hi
  · rename_i v hv
    cases hi
    exact ⟨v, hv, rfl⟩
  · cases hi
theorem lv_has_of {ls : Array Slot} {n : Nat} {l l' : List (Nat × Value)} (h : lv_has ls n l) (hs : ∀ q ∈ l', q ∈ l) : lv_has ls n l' := ⟨h.1, h.2.1, fun q hq => h.2.2 q (hs q hq)⟩
/-- ahead of a new value: what stood there of two words is lost -/
def pmCut (L : List (Option Value)) (k : Nat) : List (Option Value) := match k with
  | 0 => L
  | j + 1 => match L[j]? with
    | some (some w) => if w.category = 2 then L.set j none else L
    | _ => L
theorem pmSet_eq (L : List (Option Value)) (k : Nat) (v : Value) : pmSet L k v = if v.category = 2 then ((pmCut L k).set k (some v)).set (k + 1) none else (pmCut L k).set k (some v) := rfl
theorem pmCut_at {L : List (Option Value)} {k i : Nat} {w : Value} (h : (pmCut L k)[i]? = some (some w)) : L[i]? = some (some w) ∧ ¬ (i + 1 = k ∧ w.category = 2) := by
  unfold pmCut at h
  split at h
  · exact ⟨h, fun z => by omega⟩
  · rename_i j
    split at h
    · rename_i u hu
      split at h
      · rename_i hc
        rw [List.getElem?_set] at h
        split at h
        · split at h <;> cases h
        · rename_i hne
          exact ⟨h, fun z => hne (by omega)⟩
      · rename_i hc
        refine ⟨h, fun z => ?_⟩
        have e : i = j := by omega
        subst e
        rw [hu] at h
        cases h
        exact hc z.2
    · rename_i hu
      refine ⟨h, fun z => ?_⟩
      have e : i = j := by omega
      subst e
      exact hu _ h
theorem pmCut_len (L : List (Option Value)) (k : Nat) : (pmCut L k).length = L.length := by
  unfold pmCut
  split
  · rfl
  · split
    · split
      · exact List.length_set
      · rfl
    · rfl
theorem pmSet_len (L : List (Option Value)) (k : Nat) (v : Value) : (pmSet L k v).length = L.length := by
  rw [pmSet_eq]
  split
  · rw [List.length_set, List.length_set, pmCut_len]
  · rw [List.length_set, pmCut_len]
theorem pmLv_set1 {ad : Nat → Nat} {L : List (Option Value)} {k : Nat} {v : Value} (hc : v.category = 1) : ∀ q ∈ pmLv ad (pmSet L k v), q ∈ (k, pmRe ad v) :: (pmLv ad L).filter (fun q => !(q.1 == k) && !(q.1 + 1 == k && q.2.category == 2)) := by
  intro q hq
  obtain ⟨w, h1, h2⟩ := pmLv_of hq
  rw [pmSet_eq, if_neg (by omega), List.getElem?_set] at h1
  obtain ⟨i, u⟩ := q
  dsimp only at h1 h2 ⊢
  subst h2
  by_cases hk : k = i
  · subst hk
    rw [if_pos rfl] at h1
    split at h1
    · cases h1
      exact List.mem_cons_self
    · cases h1
  · rw [if_neg hk] at h1
    obtain ⟨h3, h4⟩ := pmCut_at h1
    refine List.mem_cons_of_mem _ (List.mem_filter.mpr ⟨pmLv_mem h3, ?_⟩)
    simp only [pmRe_cat]
    have e1 : (i == k) = false := by simp; omega
    rw [e1]
    cases h5 : (i + 1 == k && w.category == 2) with
    | false => rfl
    | true =>
      simp only [Bool.and_eq_true, beq_iff_eq] at h5
      exact absurd h5 h4
theorem pmLv_set2 {ad : Nat → Nat} {L : List (Option Value)} {k : Nat} {v : Value} (hc : v.category = 2) : ∀ q ∈ pmLv ad (pmSet L k v), q ∈ (k, pmRe ad v) :: (pmLv ad L).filter (fun q => !(q.1 == k) && (!(q.1 == k + 1) && !(q.1 + 1 == k && q.2.category == 2))) := by
  intro q hq
  obtain ⟨w, h1, h2⟩ := pmLv_of hq
  rw [pmSet_eq, if_pos hc, List.getElem?_set, List.getElem?_set] at h1
  obtain ⟨i, u⟩ := q
  dsimp only at h1 h2 ⊢
  subst h2
  by_cases hk1 : k + 1 = i
  · subst hk1
    rw [if_pos rfl] at h1
    split at h1 <;> cases h1
  · rw [if_neg hk1] at h1
    by_cases hk : k = i
    · subst hk
      rw [if_pos rfl] at h1
      split at h1
      · cases h1
        exact List.mem_cons_self
      · cases h1
    · rw [if_neg hk] at h1
      obtain ⟨h3, h4⟩ := pmCut_at h1
      refine List.mem_cons_of_mem _ (List.mem_filter.mpr ⟨pmLv_mem h3, ?_⟩)
      simp only [pmRe_cat]
      have e1 : (i == k) = false := by simp; omega
      have e2 : (i == k + 1) = false := by simp; omega
      rw [e1, e2]
      cases h5 : (i + 1 == k && w.category == 2) with
      | false => rfl
      | true =>
        simp only [Bool.and_eq_true, beq_iff_eq] at h5
        exact absurd h5 h4
-- the world's list
theorem pmW_at {ad : Nat → Nat} {cA : Nat → ClassId} {S : pmS} {q : Nat} {e : Nat ⊕ (Nat × Nat)} (h : S.1[q]? = some e) : (pmW ad cA S)[q]? = some (ad q, pmE ad cA S.2 q e) := by
  unfold pmW
  rw [List.getElem?_mapIdx, h]
  rfl
theorem pmW_of {ad : Nat → Nat} {cA : Nat → ClassId} {S : pmS} {q : Nat} {p : Nat × va_E} (h : (pmW ad cA S)[q]? = some p) : ∃ e, S.1[q]? = some e ∧ p = (ad q, pmE ad cA S.2 q e) := by
  unfold pmW at h
  rw [List.getElem?_mapIdx] at h
  cases he : S.1[q]? with
  | none => rw [he] at h; cases h
  | some e => rw [he] at h; exact ⟨e, rfl, (Option.some.inj h).symm⟩
/-- one thing changed -/
theorem pmW_set {ad : Nat → Nat} {cA : Nat → ClassId} {G : pmG} {μ μ' : pmM} {q : Nat} {e : Nat ⊕ (Nat × Nat)} (h : G[q]? = some e) (ho : ∀ i, i ≠ q → ∀ e, pmE ad cA μ' i e = pmE ad cA μ i e) : pmW ad cA (G, μ') = (pmW ad cA (G, μ)).set q (ad q, pmE ad cA μ' q e) := by
  refine List.ext_getElem? fun i => ?_
  rw [List.getElem?_set]
  by_cases hi : q = i
  · subst hi
    rw [if_pos rfl, pmW_at h, if_pos]
    unfold pmW
    rw [List.length_mapIdx]
    exact (List.getElem?_eq_some_iff.mp h).1
  · rw [if_neg hi]
    unfold pmW
    rw [List.getElem?_mapIdx, List.getElem?_mapIdx]
    cases G[i]? with
    | none => rfl
    | some e2 => exact congrArg some (by show (ad i, pmE ad cA μ' i e2) = (ad i, pmE ad cA μ i e2); rw [ho i (fun z => hi z.symm) e2])
theorem pmU_at {α : Type} (f : Nat → Nat → α) (i k : Nat) (x : α) : pmU f i k x i = fun b => if b = k then x else f i b := by
  funext b
  unfold pmU
  rw [if_pos rfl]
theorem pmU_ne {α : Type} (f : Nat → Nat → α) {i j k : Nat} (x : α) (h : j ≠ i) : pmU f i k x j = f j := by
  funext b
  unfold pmU
  rw [if_neg h]
/-- a thing's picture depends on its own row alone -/
theorem pmE_congr {ad : Nat → Nat} {cA : Nat → ClassId} {μ μ' : pmM} {i : Nat} (h1 : μ'.1 i = μ.1 i) (h2 : μ'.2.1 i = μ.2.1 i) (h3 : μ'.2.2.1 i = μ.2.2.1 i) (h4 : μ'.2.2.2 i = μ.2.2.2 i) (e : Nat ⊕ (Nat × Nat)) : pmE ad cA μ' i e = pmE ad cA μ i e := by
  obtain ⟨a1, a2, a3, a4⟩ := μ
  obtain ⟨b1, b2, b3, b4⟩ := μ'
  dsimp only at h1 h2 h3 h4
  cases e with
  | inl c =>
    have e1 : ∀ k, pmRd (pmTy c k) (b1, b2, b3, b4) i k = pmRd (pmTy c k) (a1, a2, a3, a4) i k := by
      intro k
      unfold pmRd
      split <;> simp only [h1, h2, h3, h4]
    unfold pmE
    simp only [e1]
  | inr a =>
    have e1 : pmPay ad (b1, b2, b3, b4) i a.1 = pmPay ad (a1, a2, a3, a4) i a.1 := by
      unfold pmPay
      split <;> simp only [h1, h2, h3, h4]
    unfold pmE
    simp only [e1]
end
section
/-! PM: one step of it is one step of the machine -/
def pmIl (i : Instr) (n : Nat) : Nat := match i with
  | .aload _ => 2 | .iload _ => 2 | .lload _ => 2 | .fload _ => 2 | .dload _ => 2
  | .astore _ => 2 | .istore _ => 2 | .lstore _ => 2 | .fstore _ => 2 | .dstore _ => 2
  | .iinc _ _ => 3 | .bipush _ => 2 | .sipush _ => 3
  | .ifCond _ _ => 3 | .if_icmp _ _ => 3 | .ifnull _ => 3 | .ifnonnull _ => 3 | .goto _ => 3
  | .getfield _ => 3 | .putfield _ => 3 | .getstatic _ => 3
  | .invokevirtual _ => 3 | .invokestatic _ => 3 | .invokespecial _ => 3
  | .new _ => 3 | .newarray _ => 2 | .anewarray _ => 3
  | .ldc _ => 2 | .ldc_w _ => 3 | .ldc2_w _ => 3
  | .tableswitch _ _ _ _ => n | .lookupswitch _ _ => n
  | _ => 1
/-- the store of a configuration is the heap's, its locals the frame's -/
def pmRel (D : va_G) (A : Nat → Prop) (H0 : Heap) (nL : Nat) (ad : Nat → Nat) (cA : Nat → ClassId) (c : pmC) (H : Heap) (locs : List Loc) (ls : Array Slot) : Prop :=
  va_P D pmCl (pmW ad cA c.2.2.2) H ∧ va_D A (pmW ad cA c.2.2.2) ∧ va_S A H0 H locs ∧ lv_has ls nL (pmLv ad c.2.1) ∧ c.2.1.length = nL
/-- the words that an instruction needs -/
def pmWs (own : String) (i : Instr) (x : Nat × Nat) : List Cond := match i with
  | .getfield k => if x.1 < 11 then .fieldLink own k (pmT x.1 x.2).1 (pmT x.1 x.2).2.1 (pmT x.1 x.2).2.2.1 :: u_ws (pmCN x.1) (pmT x.1) (pmN x.1) else if x.1 = 40 then .fieldLink own k "java/lang/String" "value" "[B" :: u_ws (pmCN 9) (pmT 9) (pmN 9) else .fieldLink own k "java/lang/String" "coder" "B" :: u_ws (pmCN 9) (pmT 9) (pmN 9)
  | .putfield k => .fieldLink own k (pmT x.1 x.2).1 (pmT x.1 x.2).2.1 (pmT x.1 x.2).2.2.1 :: u_ws (pmCN x.1) (pmT x.1) (pmN x.1)
  | .getstatic k => if x.1 = 20 then [.fieldLink own k "StageBallet" "MOVE_LETTERS" "[C"] else if x.1 = 21 then [.fieldLink own k "java/lang/String" "COMPACT_STRINGS" "Z"] else if x.1 = 22 then [.fieldLink own k "jdk/internal/util/Preconditions" "SIOOBE_FORMATTER" "Ljava/util/function/BiFunction;"] else if x.1 = 23 then [.fieldLink own k "java/lang/Integer" "DigitOnes" "[B"] else [.fieldLink own k "java/lang/Integer" "DigitTens" "[B"]
  | .ldc k => if x.1 = 31 then [.constant own k (Int32.ofNat x.2)] else []
  | .ldc_w k => if x.1 = 31 then [.constant own k (Int32.ofNat x.2)] else if x.1 = 32 then [.constantFloat own k (UInt32.ofNat x.2)] else []
  | .ldc2_w k => if x.1 = 33 then [.constantLong own k (Int64.ofNat x.2)] else [.constantDouble own k (UInt64.ofNat x.2)]
  | .invokestatic k => if x.1 = 50 then [.methodLink own k arraycopyName, .native arraycopyName, .static arraycopyName, .initialized "java/lang/System"]
      else if x.1 = 51 then [.methodLink own k ⟨"java/lang/Double", "doubleToRawLongBits", "(D)J"⟩, .native ⟨"java/lang/Double", "doubleToRawLongBits", "(D)J"⟩, .static ⟨"java/lang/Double", "doubleToRawLongBits", "(D)J"⟩, .initialized "java/lang/Double"]
      else if x.1 = 52 then [.methodLink own k ⟨"java/lang/Float", "floatToRawIntBits", "(F)I"⟩, .native ⟨"java/lang/Float", "floatToRawIntBits", "(F)I"⟩, .static ⟨"java/lang/Float", "floatToRawIntBits", "(F)I"⟩, .initialized "java/lang/Float"]
      else []
  | .invokespecial k => if x.1 = 53 then [.methodLink own k Lib.objectInit, .instanceMethod Lib.objectInit, .code Lib.objectInit ⟨#[0xb1]⟩ 1 none] else []
  | .new k => if x.1 = 60 then [.classLink own k (pmCN x.2), .instantiable (pmCN x.2) (pmN x.2), .initialized (pmCN x.2)] ++ u_ws (pmCN x.2) (pmT x.2) (pmN x.2) else []
  | .newarray _ => [.arrayClass (pmAt x.2)]
  | .anewarray k => [.classLink own k RX6]
  | _ => []
/-- what else must hold of the entry: its class is one of ours, its name is the class's own -/
def pmOk (ini : Bool) (own : String) (i : Instr) (x : Nat × Nat) : Bool := match i with
  | .putfield _ => decide (x.1 < 11) && ((pmT x.1 x.2).2.2.2 == false || (ini && decide (own = (pmT x.1 x.2).1)))
  | _ => true
theorem pmKd_0 {v : Value} (h : pmKd v = 0) : ∃ x, v = .int x := by cases v <;> first | exact ⟨_, rfl⟩ | simp [pmKd] at h
theorem pmKd_1 {v : Value} (h : pmKd v = 1) : ∃ x, v = .long x := by cases v <;> first | exact ⟨_, rfl⟩ | simp [pmKd] at h
theorem pmKd_2 {v : Value} (h : pmKd v = 2) : ∃ x, v = .float x := by cases v <;> first | exact ⟨_, rfl⟩ | simp [pmKd] at h
theorem pmKd_3 {v : Value} (h : pmKd v = 3) : ∃ x, v = .double x := by cases v <;> first | exact ⟨_, rfl⟩ | simp [pmKd] at h
theorem pmKd_4 {v : Value} (h : pmKd v = 4) : ∃ x, v = .ref x := by cases v <;> first | exact ⟨_, rfl⟩ | simp [pmKd] at h
section PMS
variable {p : Program} {l : Launch} {e : Env} {R : Room} {s : State} {m : MethodId} {args : Array Value} {below : List Frame} {meth : Method} {c0 : Code} {H H0 : Heap} {locs : List Loc} {cells slots : Nat} {Q : State → Prop}
variable {cc : ByteArray} {ls : Array Slot} {A : Nat → Prop} {D : va_G} {nL : Nat} {ad : Nat → Nat} {cA : Nat → ClassId} {pc : Nat} {L : List (Option Value)} {S : pmS} {st rest : List Value}
theorem pmRel.nx {st : List Value} {pc' : Nat} {st' : List Value} (h : pmRel D A H0 nL ad cA (pc, L, st, S) H locs ls) : pmRel D A H0 nL ad cA (pc', L, st', S) H locs ls := h
theorem pmRel.loc {k : Nat} {v : Value} (h : pmRel D A H0 nL ad cA (pc, L, st, S) H locs ls) (hk : L[k]? = some (some v)) : ls[k]? = some (.val (pmRe ad v)) := h.2.2.2.1.2.2 _ (pmLv_mem hk)
theorem pmRel.st1 {k : Nat} {v : Value} {ls' : Array Slot} {pc' : Nat} {st' : List Value} (h : pmRel D A H0 nL ad cA (pc, L, st, S) H locs ls) (hc : v.category = 1)
    (h' : lv_has ls' nL ((k, pmRe ad v) :: (pmLv ad L).filter (fun q => !(q.1 == k) && !(q.1 + 1 == k && q.2.category == 2)))) : pmRel D A H0 nL ad cA (pc', pmSet L k v, st', S) H locs ls' :=
  ⟨h.1, h.2.1, h.2.2.1, lv_has_of h' (pmLv_set1 hc), (pmSet_len L k v).trans h.2.2.2.2⟩
theorem pmRel.st2 {k : Nat} {v : Value} {ls' : Array Slot} {pc' : Nat} {st' : List Value} (h : pmRel D A H0 nL ad cA (pc, L, st, S) H locs ls) (hc : v.category = 2)
    (h' : lv_has ls' nL ((k, pmRe ad v) :: (pmLv ad L).filter (fun q => !(q.1 == k) && (!(q.1 == k + 1) && !(q.1 + 1 == k && q.2.category == 2))))) : pmRel D A H0 nL ad cA (pc', pmSet L k v, st', S) H locs ls' :=
  ⟨h.1, h.2.1, h.2.2.1, lv_has_of h' (pmLv_set2 hc), (pmSet_len L k v).trans h.2.2.2.2⟩
-- what a step says of its configuration
theorem pmI1_inv {n : Nat} {f : Int32 → Value} {c' : pmC} {ps : List Prop} (h : pmI1 n f (pc, L, st, S) = some (c', ps)) : ∃ x r, st = .int x :: r ∧ c' = (pc + n, L, f x :: r, S) := by
  unfold pmI1 at h
  split at h
  · rename_i x r hs
    cases h
    exact ⟨x, r, hs, rfl⟩
  · cases h
theorem pmI2_inv {n : Nat} {f : Int32 → Int32 → Value} {c' : pmC} {ps : List Prop} (h : pmI2 n f (pc, L, st, S) = some (c', ps)) : ∃ x y r, st = .int y :: .int x :: r ∧ c' = (pc + n, L, f x y :: r, S) := by
  unfold pmI2 at h
  split at h
  · rename_i y x r hs
    cases h
    exact ⟨x, y, r, hs, rfl⟩
  · cases h
theorem pmI2p_inv {n : Nat} {f : Int32 → Int32 → Value} {c' : pmC} {ps : List Prop} (h : pmI2p n f (pc, L, st, S) = some (c', ps)) (hp : ∀ P ∈ ps, P) : ∃ x y r, st = .int y :: .int x :: r ∧ c' = (pc + n, L, f x y :: r, S) ∧ ¬ y = 0 := by
  unfold pmI2p at h
  split at h
  · rename_i y x r hs
    cases h
    exact ⟨x, y, r, hs, rfl, hp _ List.mem_cons_self⟩
  · cases h
theorem pmJ1_inv {n : Nat} {f : Int64 → Value} {c' : pmC} {ps : List Prop} (h : pmJ1 n f (pc, L, st, S) = some (c', ps)) : ∃ x r, st = .long x :: r ∧ c' = (pc + n, L, f x :: r, S) := by
  unfold pmJ1 at h
  split at h
  · rename_i x r hs
    cases h
    exact ⟨x, r, hs, rfl⟩
  · cases h
theorem pmJ2_inv {n : Nat} {f : Int64 → Int64 → Value} {c' : pmC} {ps : List Prop} (h : pmJ2 n f (pc, L, st, S) = some (c', ps)) : ∃ x y r, st = .long y :: .long x :: r ∧ c' = (pc + n, L, f x y :: r, S) := by
  unfold pmJ2 at h
  split at h
  · rename_i y x r hs
    cases h
    exact ⟨x, y, r, hs, rfl⟩
  · cases h
theorem pmJ2p_inv {n : Nat} {f : Int64 → Int64 → Value} {c' : pmC} {ps : List Prop} (h : pmJ2p n f (pc, L, st, S) = some (c', ps)) (hp : ∀ P ∈ ps, P) : ∃ x y r, st = .long y :: .long x :: r ∧ c' = (pc + n, L, f x y :: r, S) ∧ ¬ y = 0 := by
  unfold pmJ2p at h
  split at h
  · rename_i y x r hs
    cases h
    exact ⟨x, y, r, hs, rfl, hp _ List.mem_cons_self⟩
  · cases h
theorem pmJI_inv {n : Nat} {f : Int64 → Int32 → Value} {c' : pmC} {ps : List Prop} (h : pmJI n f (pc, L, st, S) = some (c', ps)) : ∃ x y r, st = .int y :: .long x :: r ∧ c' = (pc + n, L, f x y :: r, S) := by
  unfold pmJI at h
  split at h
  · rename_i y x r hs
    cases h
    exact ⟨x, y, r, hs, rfl⟩
  · cases h
theorem pmF1_inv {n : Nat} {f : UInt32 → Value} {P : UInt32 → List Prop} {c' : pmC} {ps : List Prop} (h : pmF1 n f P (pc, L, st, S) = some (c', ps)) (hp : ∀ P ∈ ps, P) : ∃ x r, st = .float x :: r ∧ c' = (pc + n, L, f x :: r, S) ∧ ∀ q ∈ P x, q := by
  unfold pmF1 at h
  split at h
  · rename_i x r hs
    cases h
    exact ⟨x, r, hs, rfl, hp⟩
  · cases h
theorem pmF2_inv {n : Nat} {f : UInt32 → UInt32 → Value} {P : UInt32 → UInt32 → List Prop} {c' : pmC} {ps : List Prop} (h : pmF2 n f P (pc, L, st, S) = some (c', ps)) (hp : ∀ P ∈ ps, P) : ∃ x y r, st = .float y :: .float x :: r ∧ c' = (pc + n, L, f x y :: r, S) ∧ ∀ q ∈ P x y, q := by
  unfold pmF2 at h
  split at h
  · rename_i y x r hs
    cases h
    exact ⟨x, y, r, hs, rfl, hp⟩
  · cases h
theorem pmD1_inv {n : Nat} {f : UInt64 → Value} {c' : pmC} {ps : List Prop} (h : pmD1 n f (pc, L, st, S) = some (c', ps)) : ∃ x r, st = .double x :: r ∧ c' = (pc + n, L, f x :: r, S) := by
  unfold pmD1 at h
  split at h
  · rename_i x r hs
    cases h
    exact ⟨x, r, hs, rfl⟩
  · cases h
theorem pmD2_inv {n : Nat} {f : UInt64 → UInt64 → Value} {P : UInt64 → UInt64 → List Prop} {c' : pmC} {ps : List Prop} (h : pmD2 n f P (pc, L, st, S) = some (c', ps)) (hp : ∀ P ∈ ps, P) : ∃ x y r, st = .double y :: .double x :: r ∧ c' = (pc + n, L, f x y :: r, S) ∧ ∀ q ∈ P x y, q := by
  unfold pmD2 at h
  split at h
  · rename_i y x r hs
    cases h
    exact ⟨x, y, r, hs, rfl, hp⟩
  · cases h
theorem pmLd_inv {n k t : Nat} {c' : pmC} {ps : List Prop} (h : pmLd n k t (pc, L, st, S) = some (c', ps)) : ∃ v, L[k]? = some (some v) ∧ pmKd v = t ∧ c' = (pc + n, L, v :: st, S) := by
  unfold pmLd at h
  split at h
  · rename_i v hv
    split at h
    · rename_i ht
      cases h
      exact ⟨v, hv, ht, rfl⟩
    · cases h
  · cases h
theorem pmSt_inv {n k t : Nat} {c' : pmC} {ps : List Prop} (h : pmSt n k t (pc, L, st, S) = some (c', ps)) : ∃ v r, st = v :: r ∧ pmKd v = t ∧ k + (v.category - 1) < L.length ∧ c' = (pc + n, pmSet L k v, r, S) := by
  unfold pmSt at h
  split at h
  · rename_i v r hv
    split at h
    · rename_i ht
      cases h
      exact ⟨v, r, hv, ht.1, ht.2, rfl⟩
    · cases h
  · cases h
theorem pmTgt_inv {off : Int} {st' : List Value} {P ps : List Prop} {c' : pmC} (h : pmTgt (pc, L, st, S) off st' P = some (c', ps)) : ∃ tgt : Nat, (pc : Int) + off = (tgt : Int) ∧ c' = (tgt, L, st', S) ∧ ps = P := by
  unfold pmTgt at h
  split at h
  · rename_i ht
    cases h
    exact ⟨((pc : Int) + off).toNat, (Int.toNat_of_nonneg ht).symm, rfl, rfl⟩
  · cases h
theorem pmBr_inv {b : Nat} {off : Int} {n : Nat} {st' : List Value} {P : Prop} {ps : List Prop} {c' : pmC} (h : pmBr b off n (pc, L, st, S) st' P = some (c', ps)) (hp : ∀ P ∈ ps, P) :
    ∃ tgt : Nat, (pc : Int) + off = (tgt : Int) ∧ ((¬ P ∧ c' = (pc + n, L, st', S)) ∨ (P ∧ c' = (tgt, L, st', S))) := by
  unfold pmBr at h
  split at h
  · rename_i ht
    refine ⟨((pc : Int) + off).toNat, (Int.toNat_of_nonneg ht).symm, ?_⟩
    split at h
    · cases h
      exact Or.inl ⟨hp _ List.mem_cons_self, rfl⟩
    · cases h
      exact Or.inr ⟨hp _ List.mem_cons_self, rfl⟩
  · cases h
end PMS
end
section
/-! PM: one step of the small machine is one step of the machine (written by wip/whole/gen_pmstep.py) -/
section PMS2
variable {p : Program} {l : Launch} {e : Env} {R : Room} {s : State} {m : MethodId} {args : Array Value} {below : List Frame} {meth : Method} {c0 : Code} {H H0 : Heap} {locs : List Loc} {cells slots : Nat} {Q : State → Prop}
variable {cc : ByteArray} {ls : Array Slot} {A : Nat → Prop} {D : va_G} {nL : Nat} {ad : Nat → Nat} {cA : Nat → ClassId} {pc : Nat} {L : List (Option Value)} {S : pmS} {st rest : List Value}
/-- what goes on behind a step -/
def pmKk (p : Program) (l : Launch) (e : Env) (R : Room) (s : State) (m : MethodId) (args : Array Value) (below : List Frame) (meth : Method) (c0 : Code) (cells slots : Nat) (Q : State → Prop) (D : va_G) (A : Nat → Prop) (H0 : Heap) (nL : Nat) (ad : Nat → Nat) (cA : Nat → ClassId) (c : pmC) : Prop :=
  ∀ (H : Heap) (locs : List Loc) (ls : Array Slot), pmRel D A H0 nL ad cA c H locs ls → W p l e R s m args below meth c0 H locs cells slots Q (F0 m c.1 ls (c.2.2.1.map (pmRe ad)))
theorem pms_aload_n {c' : pmC} {ps : List Prop} {k : Fin 4} (hdg : decode cc pc = .ok (.aload_n k, 1)) (h : pmLd 1 k.val 4 (pc, L, st, S) = some (c', ps)) (hexec : p.tables.exec = Jvm.exec) (hb : c0.code = cc) (hr : pmRel D A H0 nL ad cA (pc, L, st, S) H locs ls) (kk : pmKk p l e R s m args below meth c0 cells slots Q D A H0 nL ad cA c') : W p l e R s m args below meth c0 H locs cells slots Q (F0 m pc ls (st.map (pmRe ad))) := by
  obtain ⟨v, h1, h2, rfl⟩ := pmLd_inv h
  obtain ⟨x, rfl⟩ := pmKd_4 h2
  exact lv_aload_n hexec hb hdg rfl (hr.loc h1) (kk _ _ _ hr)
theorem pms_aload {c' : pmC} {ps : List Prop} {k : Nat} (hdg : decode cc pc = .ok (.aload k, 2)) (h : pmLd 2 k 4 (pc, L, st, S) = some (c', ps)) (hexec : p.tables.exec = Jvm.exec) (hb : c0.code = cc) (hr : pmRel D A H0 nL ad cA (pc, L, st, S) H locs ls) (kk : pmKk p l e R s m args below meth c0 cells slots Q D A H0 nL ad cA c') : W p l e R s m args below meth c0 H locs cells slots Q (F0 m pc ls (st.map (pmRe ad))) := by
  obtain ⟨v, h1, h2, rfl⟩ := pmLd_inv h
  obtain ⟨x, rfl⟩ := pmKd_4 h2
  exact lv_aload hexec hb hdg (hr.loc h1) (kk _ _ _ hr)
theorem pms_iload_n {c' : pmC} {ps : List Prop} {k : Fin 4} (hdg : decode cc pc = .ok (.iload_n k, 1)) (h : pmLd 1 k.val 0 (pc, L, st, S) = some (c', ps)) (hexec : p.tables.exec = Jvm.exec) (hb : c0.code = cc) (hr : pmRel D A H0 nL ad cA (pc, L, st, S) H locs ls) (kk : pmKk p l e R s m args below meth c0 cells slots Q D A H0 nL ad cA c') : W p l e R s m args below meth c0 H locs cells slots Q (F0 m pc ls (st.map (pmRe ad))) := by
  obtain ⟨v, h1, h2, rfl⟩ := pmLd_inv h
  obtain ⟨x, rfl⟩ := pmKd_0 h2
  exact lv_iload_n hexec hb hdg rfl (hr.loc h1) (kk _ _ _ hr)
theorem pms_iload {c' : pmC} {ps : List Prop} {k : Nat} (hdg : decode cc pc = .ok (.iload k, 2)) (h : pmLd 2 k 0 (pc, L, st, S) = some (c', ps)) (hexec : p.tables.exec = Jvm.exec) (hb : c0.code = cc) (hr : pmRel D A H0 nL ad cA (pc, L, st, S) H locs ls) (kk : pmKk p l e R s m args below meth c0 cells slots Q D A H0 nL ad cA c') : W p l e R s m args below meth c0 H locs cells slots Q (F0 m pc ls (st.map (pmRe ad))) := by
  obtain ⟨v, h1, h2, rfl⟩ := pmLd_inv h
  obtain ⟨x, rfl⟩ := pmKd_0 h2
  exact lv_iload hexec hb hdg (hr.loc h1) (kk _ _ _ hr)
theorem pms_lload_n {c' : pmC} {ps : List Prop} {k : Fin 4} (hdg : decode cc pc = .ok (.lload_n k, 1)) (h : pmLd 1 k.val 1 (pc, L, st, S) = some (c', ps)) (hexec : p.tables.exec = Jvm.exec) (hb : c0.code = cc) (hr : pmRel D A H0 nL ad cA (pc, L, st, S) H locs ls) (kk : pmKk p l e R s m args below meth c0 cells slots Q D A H0 nL ad cA c') : W p l e R s m args below meth c0 H locs cells slots Q (F0 m pc ls (st.map (pmRe ad))) := by
  obtain ⟨v, h1, h2, rfl⟩ := pmLd_inv h
  obtain ⟨x, rfl⟩ := pmKd_1 h2
  exact lv_lload_n hexec hb hdg rfl (hr.loc h1) (kk _ _ _ hr)
theorem pms_lload {c' : pmC} {ps : List Prop} {k : Nat} (hdg : decode cc pc = .ok (.lload k, 2)) (h : pmLd 2 k 1 (pc, L, st, S) = some (c', ps)) (hexec : p.tables.exec = Jvm.exec) (hb : c0.code = cc) (hr : pmRel D A H0 nL ad cA (pc, L, st, S) H locs ls) (kk : pmKk p l e R s m args below meth c0 cells slots Q D A H0 nL ad cA c') : W p l e R s m args below meth c0 H locs cells slots Q (F0 m pc ls (st.map (pmRe ad))) := by
  obtain ⟨v, h1, h2, rfl⟩ := pmLd_inv h
  obtain ⟨x, rfl⟩ := pmKd_1 h2
  exact lv_lload hexec hb hdg (hr.loc h1) (kk _ _ _ hr)
theorem pms_fload_n {c' : pmC} {ps : List Prop} {k : Fin 4} (hdg : decode cc pc = .ok (.fload_n k, 1)) (h : pmLd 1 k.val 2 (pc, L, st, S) = some (c', ps)) (hexec : p.tables.exec = Jvm.exec) (hb : c0.code = cc) (hr : pmRel D A H0 nL ad cA (pc, L, st, S) H locs ls) (kk : pmKk p l e R s m args below meth c0 cells slots Q D A H0 nL ad cA c') : W p l e R s m args below meth c0 H locs cells slots Q (F0 m pc ls (st.map (pmRe ad))) := by
  obtain ⟨v, h1, h2, rfl⟩ := pmLd_inv h
  obtain ⟨x, rfl⟩ := pmKd_2 h2
  exact lv_fload_n hexec hb hdg rfl (hr.loc h1) (kk _ _ _ hr)
theorem pms_fload {c' : pmC} {ps : List Prop} {k : Nat} (hdg : decode cc pc = .ok (.fload k, 2)) (h : pmLd 2 k 2 (pc, L, st, S) = some (c', ps)) (hexec : p.tables.exec = Jvm.exec) (hb : c0.code = cc) (hr : pmRel D A H0 nL ad cA (pc, L, st, S) H locs ls) (kk : pmKk p l e R s m args below meth c0 cells slots Q D A H0 nL ad cA c') : W p l e R s m args below meth c0 H locs cells slots Q (F0 m pc ls (st.map (pmRe ad))) := by
  obtain ⟨v, h1, h2, rfl⟩ := pmLd_inv h
  obtain ⟨x, rfl⟩ := pmKd_2 h2
  exact lv_fload hexec hb hdg (hr.loc h1) (kk _ _ _ hr)
theorem pms_dload_n {c' : pmC} {ps : List Prop} {k : Fin 4} (hdg : decode cc pc = .ok (.dload_n k, 1)) (h : pmLd 1 k.val 3 (pc, L, st, S) = some (c', ps)) (hexec : p.tables.exec = Jvm.exec) (hb : c0.code = cc) (hr : pmRel D A H0 nL ad cA (pc, L, st, S) H locs ls) (kk : pmKk p l e R s m args below meth c0 cells slots Q D A H0 nL ad cA c') : W p l e R s m args below meth c0 H locs cells slots Q (F0 m pc ls (st.map (pmRe ad))) := by
  obtain ⟨v, h1, h2, rfl⟩ := pmLd_inv h
  obtain ⟨x, rfl⟩ := pmKd_3 h2
  exact lv_dload_n hexec hb hdg rfl (hr.loc h1) (kk _ _ _ hr)
theorem pms_dload {c' : pmC} {ps : List Prop} {k : Nat} (hdg : decode cc pc = .ok (.dload k, 2)) (h : pmLd 2 k 3 (pc, L, st, S) = some (c', ps)) (hexec : p.tables.exec = Jvm.exec) (hb : c0.code = cc) (hr : pmRel D A H0 nL ad cA (pc, L, st, S) H locs ls) (kk : pmKk p l e R s m args below meth c0 cells slots Q D A H0 nL ad cA c') : W p l e R s m args below meth c0 H locs cells slots Q (F0 m pc ls (st.map (pmRe ad))) := by
  obtain ⟨v, h1, h2, rfl⟩ := pmLd_inv h
  obtain ⟨x, rfl⟩ := pmKd_3 h2
  exact lv_dload hexec hb hdg (hr.loc h1) (kk _ _ _ hr)
theorem pms_astore_n {c' : pmC} {ps : List Prop} {k : Fin 4} (hdg : decode cc pc = .ok (.astore_n k, 1)) (h : pmSt 1 k.val 4 (pc, L, st, S) = some (c', ps)) (hexec : p.tables.exec = Jvm.exec) (hb : c0.code = cc) (hr : pmRel D A H0 nL ad cA (pc, L, st, S) H locs ls) (kk : pmKk p l e R s m args below meth c0 cells slots Q D A H0 nL ad cA c') : W p l e R s m args below meth c0 H locs cells slots Q (F0 m pc ls (st.map (pmRe ad))) := by
  obtain ⟨v, r, rfl, h2, h3, rfl⟩ := pmSt_inv h
  obtain ⟨x, rfl⟩ := pmKd_4 h2
  exact lv_astore_n hexec hb hdg rfl hr.2.2.2.1 (by have h9 := hr.2.2.2.2; simp only [Value.category] at h3; dsimp only at h9; omega) rfl (fun ls' h' => kk _ _ _ (hr.st1 rfl h'))
theorem pms_astore {c' : pmC} {ps : List Prop} {k : Nat} (hdg : decode cc pc = .ok (.astore k, 2)) (h : pmSt 2 k 4 (pc, L, st, S) = some (c', ps)) (hexec : p.tables.exec = Jvm.exec) (hb : c0.code = cc) (hr : pmRel D A H0 nL ad cA (pc, L, st, S) H locs ls) (kk : pmKk p l e R s m args below meth c0 cells slots Q D A H0 nL ad cA c') : W p l e R s m args below meth c0 H locs cells slots Q (F0 m pc ls (st.map (pmRe ad))) := by
  obtain ⟨v, r, rfl, h2, h3, rfl⟩ := pmSt_inv h
  obtain ⟨x, rfl⟩ := pmKd_4 h2
  exact lv_astore hexec hb hdg hr.2.2.2.1 (by have h9 := hr.2.2.2.2; simp only [Value.category] at h3; dsimp only at h9; omega) rfl (fun ls' h' => kk _ _ _ (hr.st1 rfl h'))
theorem pms_istore_n {c' : pmC} {ps : List Prop} {k : Fin 4} (hdg : decode cc pc = .ok (.istore_n k, 1)) (h : pmSt 1 k.val 0 (pc, L, st, S) = some (c', ps)) (hexec : p.tables.exec = Jvm.exec) (hb : c0.code = cc) (hr : pmRel D A H0 nL ad cA (pc, L, st, S) H locs ls) (kk : pmKk p l e R s m args below meth c0 cells slots Q D A H0 nL ad cA c') : W p l e R s m args below meth c0 H locs cells slots Q (F0 m pc ls (st.map (pmRe ad))) := by
  obtain ⟨v, r, rfl, h2, h3, rfl⟩ := pmSt_inv h
  obtain ⟨x, rfl⟩ := pmKd_0 h2
  exact lv_istore_n hexec hb hdg rfl hr.2.2.2.1 (by have h9 := hr.2.2.2.2; simp only [Value.category] at h3; dsimp only at h9; omega) rfl (fun ls' h' => kk _ _ _ (hr.st1 rfl h'))
theorem pms_istore {c' : pmC} {ps : List Prop} {k : Nat} (hdg : decode cc pc = .ok (.istore k, 2)) (h : pmSt 2 k 0 (pc, L, st, S) = some (c', ps)) (hexec : p.tables.exec = Jvm.exec) (hb : c0.code = cc) (hr : pmRel D A H0 nL ad cA (pc, L, st, S) H locs ls) (kk : pmKk p l e R s m args below meth c0 cells slots Q D A H0 nL ad cA c') : W p l e R s m args below meth c0 H locs cells slots Q (F0 m pc ls (st.map (pmRe ad))) := by
  obtain ⟨v, r, rfl, h2, h3, rfl⟩ := pmSt_inv h
  obtain ⟨x, rfl⟩ := pmKd_0 h2
  exact lv_istore hexec hb hdg hr.2.2.2.1 (by have h9 := hr.2.2.2.2; simp only [Value.category] at h3; dsimp only at h9; omega) rfl (fun ls' h' => kk _ _ _ (hr.st1 rfl h'))
theorem pms_lstore_n {c' : pmC} {ps : List Prop} {k : Fin 4} (hdg : decode cc pc = .ok (.lstore_n k, 1)) (h : pmSt 1 k.val 1 (pc, L, st, S) = some (c', ps)) (hexec : p.tables.exec = Jvm.exec) (hb : c0.code = cc) (hr : pmRel D A H0 nL ad cA (pc, L, st, S) H locs ls) (kk : pmKk p l e R s m args below meth c0 cells slots Q D A H0 nL ad cA c') : W p l e R s m args below meth c0 H locs cells slots Q (F0 m pc ls (st.map (pmRe ad))) := by
  obtain ⟨v, r, rfl, h2, h3, rfl⟩ := pmSt_inv h
  obtain ⟨x, rfl⟩ := pmKd_1 h2
  exact lv_lstore_n hexec hb hdg rfl hr.2.2.2.1 (by have h9 := hr.2.2.2.2; simp only [Value.category] at h3; dsimp only at h9; omega) rfl (fun ls' h' => kk _ _ _ (hr.st2 rfl h'))
theorem pms_lstore {c' : pmC} {ps : List Prop} {k : Nat} (hdg : decode cc pc = .ok (.lstore k, 2)) (h : pmSt 2 k 1 (pc, L, st, S) = some (c', ps)) (hexec : p.tables.exec = Jvm.exec) (hb : c0.code = cc) (hr : pmRel D A H0 nL ad cA (pc, L, st, S) H locs ls) (kk : pmKk p l e R s m args below meth c0 cells slots Q D A H0 nL ad cA c') : W p l e R s m args below meth c0 H locs cells slots Q (F0 m pc ls (st.map (pmRe ad))) := by
  obtain ⟨v, r, rfl, h2, h3, rfl⟩ := pmSt_inv h
  obtain ⟨x, rfl⟩ := pmKd_1 h2
  exact lv_lstore hexec hb hdg hr.2.2.2.1 (by have h9 := hr.2.2.2.2; simp only [Value.category] at h3; dsimp only at h9; omega) rfl (fun ls' h' => kk _ _ _ (hr.st2 rfl h'))
theorem pms_fstore_n {c' : pmC} {ps : List Prop} {k : Fin 4} (hdg : decode cc pc = .ok (.fstore_n k, 1)) (h : pmSt 1 k.val 2 (pc, L, st, S) = some (c', ps)) (hexec : p.tables.exec = Jvm.exec) (hb : c0.code = cc) (hr : pmRel D A H0 nL ad cA (pc, L, st, S) H locs ls) (kk : pmKk p l e R s m args below meth c0 cells slots Q D A H0 nL ad cA c') : W p l e R s m args below meth c0 H locs cells slots Q (F0 m pc ls (st.map (pmRe ad))) := by
  obtain ⟨v, r, rfl, h2, h3, rfl⟩ := pmSt_inv h
  obtain ⟨x, rfl⟩ := pmKd_2 h2
  exact lv_fstore_n hexec hb hdg rfl hr.2.2.2.1 (by have h9 := hr.2.2.2.2; simp only [Value.category] at h3; dsimp only at h9; omega) rfl (fun ls' h' => kk _ _ _ (hr.st1 rfl h'))
theorem pms_fstore {c' : pmC} {ps : List Prop} {k : Nat} (hdg : decode cc pc = .ok (.fstore k, 2)) (h : pmSt 2 k 2 (pc, L, st, S) = some (c', ps)) (hexec : p.tables.exec = Jvm.exec) (hb : c0.code = cc) (hr : pmRel D A H0 nL ad cA (pc, L, st, S) H locs ls) (kk : pmKk p l e R s m args below meth c0 cells slots Q D A H0 nL ad cA c') : W p l e R s m args below meth c0 H locs cells slots Q (F0 m pc ls (st.map (pmRe ad))) := by
  obtain ⟨v, r, rfl, h2, h3, rfl⟩ := pmSt_inv h
  obtain ⟨x, rfl⟩ := pmKd_2 h2
  exact lv_fstore hexec hb hdg hr.2.2.2.1 (by have h9 := hr.2.2.2.2; simp only [Value.category] at h3; dsimp only at h9; omega) rfl (fun ls' h' => kk _ _ _ (hr.st1 rfl h'))
theorem pms_dstore_n {c' : pmC} {ps : List Prop} {k : Fin 4} (hdg : decode cc pc = .ok (.dstore_n k, 1)) (h : pmSt 1 k.val 3 (pc, L, st, S) = some (c', ps)) (hexec : p.tables.exec = Jvm.exec) (hb : c0.code = cc) (hr : pmRel D A H0 nL ad cA (pc, L, st, S) H locs ls) (kk : pmKk p l e R s m args below meth c0 cells slots Q D A H0 nL ad cA c') : W p l e R s m args below meth c0 H locs cells slots Q (F0 m pc ls (st.map (pmRe ad))) := by
  obtain ⟨v, r, rfl, h2, h3, rfl⟩ := pmSt_inv h
  obtain ⟨x, rfl⟩ := pmKd_3 h2
  exact lv_dstore_n hexec hb hdg rfl hr.2.2.2.1 (by have h9 := hr.2.2.2.2; simp only [Value.category] at h3; dsimp only at h9; omega) rfl (fun ls' h' => kk _ _ _ (hr.st2 rfl h'))
theorem pms_dstore {c' : pmC} {ps : List Prop} {k : Nat} (hdg : decode cc pc = .ok (.dstore k, 2)) (h : pmSt 2 k 3 (pc, L, st, S) = some (c', ps)) (hexec : p.tables.exec = Jvm.exec) (hb : c0.code = cc) (hr : pmRel D A H0 nL ad cA (pc, L, st, S) H locs ls) (kk : pmKk p l e R s m args below meth c0 cells slots Q D A H0 nL ad cA c') : W p l e R s m args below meth c0 H locs cells slots Q (F0 m pc ls (st.map (pmRe ad))) := by
  obtain ⟨v, r, rfl, h2, h3, rfl⟩ := pmSt_inv h
  obtain ⟨x, rfl⟩ := pmKd_3 h2
  exact lv_dstore hexec hb hdg hr.2.2.2.1 (by have h9 := hr.2.2.2.2; simp only [Value.category] at h3; dsimp only at h9; omega) rfl (fun ls' h' => kk _ _ _ (hr.st2 rfl h'))
theorem pms_iinc {c' : pmC} {ps : List Prop} {k : Nat} {d : Int} (hdg : decode cc pc = .ok (.iinc k d, 3)) (h : pmInc 3 k d (pc, L, st, S) = some (c', ps)) (hexec : p.tables.exec = Jvm.exec) (hb : c0.code = cc) (hr : pmRel D A H0 nL ad cA (pc, L, st, S) H locs ls) (kk : pmKk p l e R s m args below meth c0 cells slots Q D A H0 nL ad cA c') : W p l e R s m args below meth c0 H locs cells slots Q (F0 m pc ls (st.map (pmRe ad))) := by
  unfold pmInc at h
  split at h
  · rename_i x hx
    cases h
    have h1 := pmLv_mem (ad := ad) hx
    obtain ⟨i, hi⟩ := List.getElem?_of_mem h1
    have hlt : k < nL := by
      have h9 := hr.2.2.2.2
      dsimp only at h9 hx
      have := (List.getElem?_eq_some_iff.mp hx).1
      omega
    exact lv_iinc hexec hb hdg hr.2.2.2.1 hi rfl hlt rfl (fun ls' h' => kk _ _ _ (hr.st1 rfl h'))
  · cases h
theorem pms_iconst {c' : pmC} {ps : List Prop} {n : Int} (hdg : decode cc pc = .ok (.iconst n, 1)) (h : pmPush 1 (.int (Int32.ofInt n)) (pc, L, st, S) = some (c', ps)) (hexec : p.tables.exec = Jvm.exec) (hb : c0.code = cc) (hr : pmRel D A H0 nL ad cA (pc, L, st, S) H locs ls) (kk : pmKk p l e R s m args below meth c0 cells slots Q D A H0 nL ad cA c') : W p l e R s m args below meth c0 H locs cells slots Q (F0 m pc ls (st.map (pmRe ad))) := by
  cases h
  exact lv_iconst hexec hb hdg rfl (kk _ _ _ hr)
theorem pms_bipush {c' : pmC} {ps : List Prop} {n : Int} (hdg : decode cc pc = .ok (.bipush n, 2)) (h : pmPush 2 (.int (Int8.ofInt n).toInt32) (pc, L, st, S) = some (c', ps)) (hexec : p.tables.exec = Jvm.exec) (hb : c0.code = cc) (hr : pmRel D A H0 nL ad cA (pc, L, st, S) H locs ls) (kk : pmKk p l e R s m args below meth c0 cells slots Q D A H0 nL ad cA c') : W p l e R s m args below meth c0 H locs cells slots Q (F0 m pc ls (st.map (pmRe ad))) := by
  cases h
  exact lv_bipush hexec hb hdg rfl (kk _ _ _ hr)
theorem pms_sipush {c' : pmC} {ps : List Prop} {n : Int} (hdg : decode cc pc = .ok (.sipush n, 3)) (h : pmPush 3 (.int (Int16.ofInt n).toInt32) (pc, L, st, S) = some (c', ps)) (hexec : p.tables.exec = Jvm.exec) (hb : c0.code = cc) (hr : pmRel D A H0 nL ad cA (pc, L, st, S) H locs ls) (kk : pmKk p l e R s m args below meth c0 cells slots Q D A H0 nL ad cA c') : W p l e R s m args below meth c0 H locs cells slots Q (F0 m pc ls (st.map (pmRe ad))) := by
  cases h
  exact lv_sipush hexec hb hdg rfl (kk _ _ _ hr)
theorem pms_lconst {c' : pmC} {ps : List Prop} {n : Fin 2} (hdg : decode cc pc = .ok (.lconst n, 1)) (h : pmPush 1 (.long (Int64.ofNat n.val)) (pc, L, st, S) = some (c', ps)) (hexec : p.tables.exec = Jvm.exec) (hb : c0.code = cc) (hr : pmRel D A H0 nL ad cA (pc, L, st, S) H locs ls) (kk : pmKk p l e R s m args below meth c0 cells slots Q D A H0 nL ad cA c') : W p l e R s m args below meth c0 H locs cells slots Q (F0 m pc ls (st.map (pmRe ad))) := by
  cases h
  exact lv_lconst hexec hb hdg rfl (kk _ _ _ hr)
theorem pms_fconst {c' : pmC} {ps : List Prop} {n : Fin 3} (hdg : decode cc pc = .ok (.fconst n, 1)) (h : (if n.val = 0 then pmPush 1 (.float FP.fconst0) (pc, L, st, S) else if n.val = 1 then pmPush 1 (.float FP.fconst1) (pc, L, st, S) else pmPush 1 (.float FP.fconst2) (pc, L, st, S)) = some (c', ps)) (hexec : p.tables.exec = Jvm.exec) (hb : c0.code = cc) (hr : pmRel D A H0 nL ad cA (pc, L, st, S) H locs ls) (kk : pmKk p l e R s m args below meth c0 cells slots Q D A H0 nL ad cA c') : W p l e R s m args below meth c0 H locs cells slots Q (F0 m pc ls (st.map (pmRe ad))) := by
  split at h
  · rename_i hn
    obtain rfl : n = 0 := Fin.ext hn
    cases h
    exact lv_fconst0 hexec hb hdg (kk _ _ _ hr)
  · split at h
    · rename_i hn
      obtain rfl : n = 1 := Fin.ext hn
      cases h
      exact lv_fconst1 hexec hb hdg (kk _ _ _ hr)
    · rename_i h0 h1
      obtain rfl : n = 2 := Fin.ext (by have := n.isLt; omega)
      cases h
      exact lv_fconst2 hexec hb hdg (kk _ _ _ hr)
theorem pms_dconst {c' : pmC} {ps : List Prop} {n : Fin 2} (hdg : decode cc pc = .ok (.dconst n, 1)) (h : (if n.val = 0 then pmPush 1 (.double FP.dconst0) (pc, L, st, S) else pmPush 1 (.double FP.dconst1) (pc, L, st, S)) = some (c', ps)) (hexec : p.tables.exec = Jvm.exec) (hb : c0.code = cc) (hr : pmRel D A H0 nL ad cA (pc, L, st, S) H locs ls) (kk : pmKk p l e R s m args below meth c0 cells slots Q D A H0 nL ad cA c') : W p l e R s m args below meth c0 H locs cells slots Q (F0 m pc ls (st.map (pmRe ad))) := by
  split at h
  · rename_i hn
    obtain rfl : n = 0 := Fin.ext hn
    cases h
    exact lv_dconst0 hexec hb hdg (kk _ _ _ hr)
  · rename_i hn
    obtain rfl : n = 1 := Fin.ext (by show n.val = 1; have := n.isLt; omega)
    cases h
    exact lv_dconst1 hexec hb hdg (kk _ _ _ hr)
theorem pms_iadd {c' : pmC} {ps : List Prop} (hdg : decode cc pc = .ok (.iadd, 1)) (h : pmI2 1 (fun x y => .int (x + y)) (pc, L, st, S) = some (c', ps)) (hexec : p.tables.exec = Jvm.exec) (hb : c0.code = cc) (hr : pmRel D A H0 nL ad cA (pc, L, st, S) H locs ls) (kk : pmKk p l e R s m args below meth c0 cells slots Q D A H0 nL ad cA c') : W p l e R s m args below meth c0 H locs cells slots Q (F0 m pc ls (st.map (pmRe ad))) := by
  obtain ⟨x, y, r, rfl, rfl⟩ := pmI2_inv h
  exact lv_iadd hexec hb hdg (kk _ _ _ hr)
theorem pms_isub {c' : pmC} {ps : List Prop} (hdg : decode cc pc = .ok (.isub, 1)) (h : pmI2 1 (fun x y => .int (x - y)) (pc, L, st, S) = some (c', ps)) (hexec : p.tables.exec = Jvm.exec) (hb : c0.code = cc) (hr : pmRel D A H0 nL ad cA (pc, L, st, S) H locs ls) (kk : pmKk p l e R s m args below meth c0 cells slots Q D A H0 nL ad cA c') : W p l e R s m args below meth c0 H locs cells slots Q (F0 m pc ls (st.map (pmRe ad))) := by
  obtain ⟨x, y, r, rfl, rfl⟩ := pmI2_inv h
  exact lv_isub hexec hb hdg (kk _ _ _ hr)
theorem pms_imul {c' : pmC} {ps : List Prop} (hdg : decode cc pc = .ok (.imul, 1)) (h : pmI2 1 (fun x y => .int (x * y)) (pc, L, st, S) = some (c', ps)) (hexec : p.tables.exec = Jvm.exec) (hb : c0.code = cc) (hr : pmRel D A H0 nL ad cA (pc, L, st, S) H locs ls) (kk : pmKk p l e R s m args below meth c0 cells slots Q D A H0 nL ad cA c') : W p l e R s m args below meth c0 H locs cells slots Q (F0 m pc ls (st.map (pmRe ad))) := by
  obtain ⟨x, y, r, rfl, rfl⟩ := pmI2_inv h
  exact lv_imul hexec hb hdg (kk _ _ _ hr)
theorem pms_iand {c' : pmC} {ps : List Prop} (hdg : decode cc pc = .ok (.iand, 1)) (h : pmI2 1 (fun x y => .int (x &&& y)) (pc, L, st, S) = some (c', ps)) (hexec : p.tables.exec = Jvm.exec) (hb : c0.code = cc) (hr : pmRel D A H0 nL ad cA (pc, L, st, S) H locs ls) (kk : pmKk p l e R s m args below meth c0 cells slots Q D A H0 nL ad cA c') : W p l e R s m args below meth c0 H locs cells slots Q (F0 m pc ls (st.map (pmRe ad))) := by
  obtain ⟨x, y, r, rfl, rfl⟩ := pmI2_inv h
  exact lv_iand hexec hb hdg (kk _ _ _ hr)
theorem pms_ixor {c' : pmC} {ps : List Prop} (hdg : decode cc pc = .ok (.ixor, 1)) (h : pmI2 1 (fun x y => .int (x ^^^ y)) (pc, L, st, S) = some (c', ps)) (hexec : p.tables.exec = Jvm.exec) (hb : c0.code = cc) (hr : pmRel D A H0 nL ad cA (pc, L, st, S) H locs ls) (kk : pmKk p l e R s m args below meth c0 cells slots Q D A H0 nL ad cA c') : W p l e R s m args below meth c0 H locs cells slots Q (F0 m pc ls (st.map (pmRe ad))) := by
  obtain ⟨x, y, r, rfl, rfl⟩ := pmI2_inv h
  exact lv_ixor hexec hb hdg (kk _ _ _ hr)
theorem pms_ineg {c' : pmC} {ps : List Prop} (hdg : decode cc pc = .ok (.ineg, 1)) (h : pmI1 1 (fun x => .int (-x)) (pc, L, st, S) = some (c', ps)) (hexec : p.tables.exec = Jvm.exec) (hb : c0.code = cc) (hr : pmRel D A H0 nL ad cA (pc, L, st, S) H locs ls) (kk : pmKk p l e R s m args below meth c0 cells slots Q D A H0 nL ad cA c') : W p l e R s m args below meth c0 H locs cells slots Q (F0 m pc ls (st.map (pmRe ad))) := by
  obtain ⟨x, r, rfl, rfl⟩ := pmI1_inv h
  exact lv_ineg hexec hb hdg (kk _ _ _ hr)
theorem pms_ldiv {c' : pmC} {ps : List Prop} (hdg : decode cc pc = .ok (.ldiv, 1)) (h : pmJ2p 1 (fun x y => .long (x / y)) (pc, L, st, S) = some (c', ps)) (hp : ∀ P ∈ ps, P) (hexec : p.tables.exec = Jvm.exec) (hb : c0.code = cc) (hr : pmRel D A H0 nL ad cA (pc, L, st, S) H locs ls) (kk : pmKk p l e R s m args below meth c0 cells slots Q D A H0 nL ad cA c') : W p l e R s m args below meth c0 H locs cells slots Q (F0 m pc ls (st.map (pmRe ad))) := by
  obtain ⟨x, y, r, rfl, rfl, hy⟩ := pmJ2p_inv h hp
  exact lv_ldiv hexec hb hdg hy (kk _ _ _ hr)
theorem pms_ior {c' : pmC} {ps : List Prop} (hdg : decode cc pc = .ok (.ior, 1)) (h : pmI2 1 (fun x y => .int (x ||| y)) (pc, L, st, S) = some (c', ps)) (hexec : p.tables.exec = Jvm.exec) (hb : c0.code = cc) (hr : pmRel D A H0 nL ad cA (pc, L, st, S) H locs ls) (kk : pmKk p l e R s m args below meth c0 cells slots Q D A H0 nL ad cA c') : W p l e R s m args below meth c0 H locs cells slots Q (F0 m pc ls (st.map (pmRe ad))) := by
  obtain ⟨x, y, r, rfl, rfl⟩ := pmI2_inv h
  exact lv_ior hexec hb hdg (kk _ _ _ hr)
theorem pms_ishl {c' : pmC} {ps : List Prop} (hdg : decode cc pc = .ok (.ishl, 1)) (h : pmI2 1 (fun x y => .int (x <<< (y &&& 31))) (pc, L, st, S) = some (c', ps)) (hexec : p.tables.exec = Jvm.exec) (hb : c0.code = cc) (hr : pmRel D A H0 nL ad cA (pc, L, st, S) H locs ls) (kk : pmKk p l e R s m args below meth c0 cells slots Q D A H0 nL ad cA c') : W p l e R s m args below meth c0 H locs cells slots Q (F0 m pc ls (st.map (pmRe ad))) := by
  obtain ⟨x, y, r, rfl, rfl⟩ := pmI2_inv h
  exact lv_ishl hexec hb hdg (kk _ _ _ hr)
theorem pms_ishr {c' : pmC} {ps : List Prop} (hdg : decode cc pc = .ok (.ishr, 1)) (h : pmI2 1 (fun x y => .int (x >>> (y &&& 31))) (pc, L, st, S) = some (c', ps)) (hexec : p.tables.exec = Jvm.exec) (hb : c0.code = cc) (hr : pmRel D A H0 nL ad cA (pc, L, st, S) H locs ls) (kk : pmKk p l e R s m args below meth c0 cells slots Q D A H0 nL ad cA c') : W p l e R s m args below meth c0 H locs cells slots Q (F0 m pc ls (st.map (pmRe ad))) := by
  obtain ⟨x, y, r, rfl, rfl⟩ := pmI2_inv h
  exact lv_ishr hexec hb hdg (kk _ _ _ hr)
theorem pms_iushr {c' : pmC} {ps : List Prop} (hdg : decode cc pc = .ok (.iushr, 1)) (h : pmI2 1 (fun x y => .int (x.toUInt32 >>> (y.toUInt32 &&& Int32.toUInt32 31)).toInt32) (pc, L, st, S) = some (c', ps)) (hexec : p.tables.exec = Jvm.exec) (hb : c0.code = cc) (hr : pmRel D A H0 nL ad cA (pc, L, st, S) H locs ls) (kk : pmKk p l e R s m args below meth c0 cells slots Q D A H0 nL ad cA c') : W p l e R s m args below meth c0 H locs cells slots Q (F0 m pc ls (st.map (pmRe ad))) := by
  obtain ⟨x, y, r, rfl, rfl⟩ := pmI2_inv h
  exact lv_iushr hexec hb hdg rfl (kk _ _ _ hr)
theorem pms_idiv {c' : pmC} {ps : List Prop} (hdg : decode cc pc = .ok (.idiv, 1)) (h : pmI2p 1 (fun x y => .int (x / y)) (pc, L, st, S) = some (c', ps)) (hp : ∀ P ∈ ps, P) (hexec : p.tables.exec = Jvm.exec) (hb : c0.code = cc) (hr : pmRel D A H0 nL ad cA (pc, L, st, S) H locs ls) (kk : pmKk p l e R s m args below meth c0 cells slots Q D A H0 nL ad cA c') : W p l e R s m args below meth c0 H locs cells slots Q (F0 m pc ls (st.map (pmRe ad))) := by
  obtain ⟨x, y, r, rfl, rfl, hy⟩ := pmI2p_inv h hp
  exact lv_idiv hexec hb hdg hy (kk _ _ _ hr)
theorem pms_irem {c' : pmC} {ps : List Prop} (hdg : decode cc pc = .ok (.irem, 1)) (h : pmI2p 1 (fun x y => .int (x - x / y * y)) (pc, L, st, S) = some (c', ps)) (hp : ∀ P ∈ ps, P) (hexec : p.tables.exec = Jvm.exec) (hb : c0.code = cc) (hr : pmRel D A H0 nL ad cA (pc, L, st, S) H locs ls) (kk : pmKk p l e R s m args below meth c0 cells slots Q D A H0 nL ad cA c') : W p l e R s m args below meth c0 H locs cells slots Q (F0 m pc ls (st.map (pmRe ad))) := by
  obtain ⟨x, y, r, rfl, rfl, hy⟩ := pmI2p_inv h hp
  exact lv_irem hexec hb hdg hy (kk _ _ _ hr)
theorem pms_ladd {c' : pmC} {ps : List Prop} (hdg : decode cc pc = .ok (.ladd, 1)) (h : pmJ2 1 (fun x y => .long (x + y)) (pc, L, st, S) = some (c', ps)) (hexec : p.tables.exec = Jvm.exec) (hb : c0.code = cc) (hr : pmRel D A H0 nL ad cA (pc, L, st, S) H locs ls) (kk : pmKk p l e R s m args below meth c0 cells slots Q D A H0 nL ad cA c') : W p l e R s m args below meth c0 H locs cells slots Q (F0 m pc ls (st.map (pmRe ad))) := by
  obtain ⟨x, y, r, rfl, rfl⟩ := pmJ2_inv h
  exact lv_ladd hexec hb hdg (kk _ _ _ hr)
theorem pms_lsub {c' : pmC} {ps : List Prop} (hdg : decode cc pc = .ok (.lsub, 1)) (h : pmJ2 1 (fun x y => .long (x - y)) (pc, L, st, S) = some (c', ps)) (hexec : p.tables.exec = Jvm.exec) (hb : c0.code = cc) (hr : pmRel D A H0 nL ad cA (pc, L, st, S) H locs ls) (kk : pmKk p l e R s m args below meth c0 cells slots Q D A H0 nL ad cA c') : W p l e R s m args below meth c0 H locs cells slots Q (F0 m pc ls (st.map (pmRe ad))) := by
  obtain ⟨x, y, r, rfl, rfl⟩ := pmJ2_inv h
  exact lv_lsub hexec hb hdg (kk _ _ _ hr)
theorem pms_land {c' : pmC} {ps : List Prop} (hdg : decode cc pc = .ok (.land, 1)) (h : pmJ2 1 (fun x y => .long (x &&& y)) (pc, L, st, S) = some (c', ps)) (hexec : p.tables.exec = Jvm.exec) (hb : c0.code = cc) (hr : pmRel D A H0 nL ad cA (pc, L, st, S) H locs ls) (kk : pmKk p l e R s m args below meth c0 cells slots Q D A H0 nL ad cA c') : W p l e R s m args below meth c0 H locs cells slots Q (F0 m pc ls (st.map (pmRe ad))) := by
  obtain ⟨x, y, r, rfl, rfl⟩ := pmJ2_inv h
  exact lv_land hexec hb hdg (kk _ _ _ hr)
theorem pms_lor {c' : pmC} {ps : List Prop} (hdg : decode cc pc = .ok (.lor, 1)) (h : pmJ2 1 (fun x y => .long (x ||| y)) (pc, L, st, S) = some (c', ps)) (hexec : p.tables.exec = Jvm.exec) (hb : c0.code = cc) (hr : pmRel D A H0 nL ad cA (pc, L, st, S) H locs ls) (kk : pmKk p l e R s m args below meth c0 cells slots Q D A H0 nL ad cA c') : W p l e R s m args below meth c0 H locs cells slots Q (F0 m pc ls (st.map (pmRe ad))) := by
  obtain ⟨x, y, r, rfl, rfl⟩ := pmJ2_inv h
  exact lv_lor hexec hb hdg (kk _ _ _ hr)
theorem pms_lxor {c' : pmC} {ps : List Prop} (hdg : decode cc pc = .ok (.lxor, 1)) (h : pmJ2 1 (fun x y => .long (x ^^^ y)) (pc, L, st, S) = some (c', ps)) (hexec : p.tables.exec = Jvm.exec) (hb : c0.code = cc) (hr : pmRel D A H0 nL ad cA (pc, L, st, S) H locs ls) (kk : pmKk p l e R s m args below meth c0 cells slots Q D A H0 nL ad cA c') : W p l e R s m args below meth c0 H locs cells slots Q (F0 m pc ls (st.map (pmRe ad))) := by
  obtain ⟨x, y, r, rfl, rfl⟩ := pmJ2_inv h
  exact lv_lxor hexec hb hdg (kk _ _ _ hr)
theorem pms_lcmp {c' : pmC} {ps : List Prop} (hdg : decode cc pc = .ok (.lcmp, 1)) (h : pmJ2 1 (fun x y => .int (lg_cmp x y)) (pc, L, st, S) = some (c', ps)) (hexec : p.tables.exec = Jvm.exec) (hb : c0.code = cc) (hr : pmRel D A H0 nL ad cA (pc, L, st, S) H locs ls) (kk : pmKk p l e R s m args below meth c0 cells slots Q D A H0 nL ad cA c') : W p l e R s m args below meth c0 H locs cells slots Q (F0 m pc ls (st.map (pmRe ad))) := by
  obtain ⟨x, y, r, rfl, rfl⟩ := pmJ2_inv h
  exact W.lcmp hexec hb hdg (kk _ _ _ hr)
theorem pms_lshl {c' : pmC} {ps : List Prop} (hdg : decode cc pc = .ok (.lshl, 1)) (h : pmJI 1 (fun x y => .long (x <<< (y.toInt64 &&& 63))) (pc, L, st, S) = some (c', ps)) (hexec : p.tables.exec = Jvm.exec) (hb : c0.code = cc) (hr : pmRel D A H0 nL ad cA (pc, L, st, S) H locs ls) (kk : pmKk p l e R s m args below meth c0 cells slots Q D A H0 nL ad cA c') : W p l e R s m args below meth c0 H locs cells slots Q (F0 m pc ls (st.map (pmRe ad))) := by
  obtain ⟨x, y, r, rfl, rfl⟩ := pmJI_inv h
  exact lv_lshl hexec hb hdg rfl (kk _ _ _ hr)
theorem pms_lushr {c' : pmC} {ps : List Prop} (hdg : decode cc pc = .ok (.lushr, 1)) (h : pmJI 1 (fun x y => .long (x.toUInt64 >>> (y.toInt64.toUInt64 &&& Int64.toUInt64 63)).toInt64) (pc, L, st, S) = some (c', ps)) (hexec : p.tables.exec = Jvm.exec) (hb : c0.code = cc) (hr : pmRel D A H0 nL ad cA (pc, L, st, S) H locs ls) (kk : pmKk p l e R s m args below meth c0 cells slots Q D A H0 nL ad cA c') : W p l e R s m args below meth c0 H locs cells slots Q (F0 m pc ls (st.map (pmRe ad))) := by
  obtain ⟨x, y, r, rfl, rfl⟩ := pmJI_inv h
  exact lv_lushr hexec hb hdg rfl (kk _ _ _ hr)
theorem pms_i2l {c' : pmC} {ps : List Prop} (hdg : decode cc pc = .ok (.i2l, 1)) (h : pmI1 1 (fun x => .long x.toInt64) (pc, L, st, S) = some (c', ps)) (hexec : p.tables.exec = Jvm.exec) (hb : c0.code = cc) (hr : pmRel D A H0 nL ad cA (pc, L, st, S) H locs ls) (kk : pmKk p l e R s m args below meth c0 cells slots Q D A H0 nL ad cA c') : W p l e R s m args below meth c0 H locs cells slots Q (F0 m pc ls (st.map (pmRe ad))) := by
  obtain ⟨x, r, rfl, rfl⟩ := pmI1_inv h
  exact lv_i2l hexec hb hdg rfl (kk _ _ _ hr)
theorem pms_i2c {c' : pmC} {ps : List Prop} (hdg : decode cc pc = .ok (.i2c, 1)) (h : pmI1 1 (fun x => .int (x.toUInt32 % 65536).toInt32) (pc, L, st, S) = some (c', ps)) (hexec : p.tables.exec = Jvm.exec) (hb : c0.code = cc) (hr : pmRel D A H0 nL ad cA (pc, L, st, S) H locs ls) (kk : pmKk p l e R s m args below meth c0 cells slots Q D A H0 nL ad cA c') : W p l e R s m args below meth c0 H locs cells slots Q (F0 m pc ls (st.map (pmRe ad))) := by
  obtain ⟨x, r, rfl, rfl⟩ := pmI1_inv h
  exact lv_i2c hexec hb hdg rfl (kk _ _ _ hr)
theorem pms_i2f {c' : pmC} {ps : List Prop} (hdg : decode cc pc = .ok (.i2f, 1)) (h : pmI1 1 (fun x => .float (FP.i2f x)) (pc, L, st, S) = some (c', ps)) (hexec : p.tables.exec = Jvm.exec) (hb : c0.code = cc) (hr : pmRel D A H0 nL ad cA (pc, L, st, S) H locs ls) (kk : pmKk p l e R s m args below meth c0 cells slots Q D A H0 nL ad cA c') : W p l e R s m args below meth c0 H locs cells slots Q (F0 m pc ls (st.map (pmRe ad))) := by
  obtain ⟨x, r, rfl, rfl⟩ := pmI1_inv h
  exact lv_i2f hexec hb hdg (kk _ _ _ hr)
theorem pms_i2d {c' : pmC} {ps : List Prop} (hdg : decode cc pc = .ok (.i2d, 1)) (h : pmI1 1 (fun x => .double (FP.i2d x)) (pc, L, st, S) = some (c', ps)) (hexec : p.tables.exec = Jvm.exec) (hb : c0.code = cc) (hr : pmRel D A H0 nL ad cA (pc, L, st, S) H locs ls) (kk : pmKk p l e R s m args below meth c0 cells slots Q D A H0 nL ad cA c') : W p l e R s m args below meth c0 H locs cells slots Q (F0 m pc ls (st.map (pmRe ad))) := by
  obtain ⟨x, r, rfl, rfl⟩ := pmI1_inv h
  exact lv_i2d hexec hb hdg (kk _ _ _ hr)
theorem pms_l2i {c' : pmC} {ps : List Prop} (hdg : decode cc pc = .ok (.l2i, 1)) (h : pmJ1 1 (fun x => .int x.toInt32) (pc, L, st, S) = some (c', ps)) (hexec : p.tables.exec = Jvm.exec) (hb : c0.code = cc) (hr : pmRel D A H0 nL ad cA (pc, L, st, S) H locs ls) (kk : pmKk p l e R s m args below meth c0 cells slots Q D A H0 nL ad cA c') : W p l e R s m args below meth c0 H locs cells slots Q (F0 m pc ls (st.map (pmRe ad))) := by
  obtain ⟨x, r, rfl, rfl⟩ := pmJ1_inv h
  exact lv_l2i hexec hb hdg rfl (kk _ _ _ hr)
theorem pms_d2l {c' : pmC} {ps : List Prop} (hdg : decode cc pc = .ok (.d2l, 1)) (h : pmD1 1 (fun x => .long (FP.d2l x)) (pc, L, st, S) = some (c', ps)) (hexec : p.tables.exec = Jvm.exec) (hb : c0.code = cc) (hr : pmRel D A H0 nL ad cA (pc, L, st, S) H locs ls) (kk : pmKk p l e R s m args below meth c0 cells slots Q D A H0 nL ad cA c') : W p l e R s m args below meth c0 H locs cells slots Q (F0 m pc ls (st.map (pmRe ad))) := by
  obtain ⟨x, r, rfl, rfl⟩ := pmD1_inv h
  exact lv_d2l hexec hb hdg (kk _ _ _ hr)
theorem pms_f2d {c' : pmC} {ps : List Prop} (hdg : decode cc pc = .ok (.f2d, 1)) (h : pmF1 1 (fun x => .double (FP.f2d x)) (fun x => [vf_n64 (FP.f2d x)]) (pc, L, st, S) = some (c', ps)) (hp : ∀ P ∈ ps, P) (hexec : p.tables.exec = Jvm.exec) (hb : c0.code = cc) (hr : pmRel D A H0 nL ad cA (pc, L, st, S) H locs ls) (kk : pmKk p l e R s m args below meth c0 cells slots Q D A H0 nL ad cA c') : W p l e R s m args below meth c0 H locs cells slots Q (F0 m pc ls (st.map (pmRe ad))) := by
  obtain ⟨x, r, rfl, rfl, hq⟩ := pmF1_inv h hp
  exact lv_f2d hexec hb hdg (hq _ List.mem_cons_self) (kk _ _ _ hr)
theorem pms_f2i {c' : pmC} {ps : List Prop} (hdg : decode cc pc = .ok (.f2i, 1)) (h : pmF1 1 (fun x => .int (FP.f2i x)) (fun _ => []) (pc, L, st, S) = some (c', ps)) (hp : ∀ P ∈ ps, P) (hexec : p.tables.exec = Jvm.exec) (hb : c0.code = cc) (hr : pmRel D A H0 nL ad cA (pc, L, st, S) H locs ls) (kk : pmKk p l e R s m args below meth c0 cells slots Q D A H0 nL ad cA c') : W p l e R s m args below meth c0 H locs cells slots Q (F0 m pc ls (st.map (pmRe ad))) := by
  obtain ⟨x, r, rfl, rfl, hq⟩ := pmF1_inv h hp
  exact lv_f2i hexec hb hdg (kk _ _ _ hr)
theorem pms_fdiv {c' : pmC} {ps : List Prop} (hdg : decode cc pc = .ok (.fdiv, 1)) (h : pmF2 1 (fun x y => .float (FP.fdiv x y)) (fun x y => [vf_n32 (FP.fdiv x y)]) (pc, L, st, S) = some (c', ps)) (hp : ∀ P ∈ ps, P) (hexec : p.tables.exec = Jvm.exec) (hb : c0.code = cc) (hr : pmRel D A H0 nL ad cA (pc, L, st, S) H locs ls) (kk : pmKk p l e R s m args below meth c0 cells slots Q D A H0 nL ad cA c') : W p l e R s m args below meth c0 H locs cells slots Q (F0 m pc ls (st.map (pmRe ad))) := by
  obtain ⟨x, y, r, rfl, rfl, hq⟩ := pmF2_inv h hp
  exact lv_fdiv hexec hb hdg (hq _ List.mem_cons_self) (kk _ _ _ hr)
theorem pms_fmul {c' : pmC} {ps : List Prop} (hdg : decode cc pc = .ok (.fmul, 1)) (h : pmF2 1 (fun x y => .float (FP.fmul x y)) (fun x y => [vf_n32 (FP.fmul x y)]) (pc, L, st, S) = some (c', ps)) (hp : ∀ P ∈ ps, P) (hexec : p.tables.exec = Jvm.exec) (hb : c0.code = cc) (hr : pmRel D A H0 nL ad cA (pc, L, st, S) H locs ls) (kk : pmKk p l e R s m args below meth c0 cells slots Q D A H0 nL ad cA c') : W p l e R s m args below meth c0 H locs cells slots Q (F0 m pc ls (st.map (pmRe ad))) := by
  obtain ⟨x, y, r, rfl, rfl, hq⟩ := pmF2_inv h hp
  exact lv_fmul hexec hb hdg (hq _ List.mem_cons_self) (kk _ _ _ hr)
theorem pms_fsub {c' : pmC} {ps : List Prop} (hdg : decode cc pc = .ok (.fsub, 1)) (h : pmF2 1 (fun x y => .float (FP.fsub x y)) (fun x y => [vf_n32 (FP.fsub x y)]) (pc, L, st, S) = some (c', ps)) (hp : ∀ P ∈ ps, P) (hexec : p.tables.exec = Jvm.exec) (hb : c0.code = cc) (hr : pmRel D A H0 nL ad cA (pc, L, st, S) H locs ls) (kk : pmKk p l e R s m args below meth c0 cells slots Q D A H0 nL ad cA c') : W p l e R s m args below meth c0 H locs cells slots Q (F0 m pc ls (st.map (pmRe ad))) := by
  obtain ⟨x, y, r, rfl, rfl, hq⟩ := pmF2_inv h hp
  exact lv_fsub hexec hb hdg (hq _ List.mem_cons_self) (kk _ _ _ hr)
theorem pms_ddiv {c' : pmC} {ps : List Prop} (hdg : decode cc pc = .ok (.ddiv, 1)) (h : pmD2 1 (fun x y => .double (FP.ddiv x y)) (fun x y => [vf_n64 (FP.ddiv x y)]) (pc, L, st, S) = some (c', ps)) (hp : ∀ P ∈ ps, P) (hexec : p.tables.exec = Jvm.exec) (hb : c0.code = cc) (hr : pmRel D A H0 nL ad cA (pc, L, st, S) H locs ls) (kk : pmKk p l e R s m args below meth c0 cells slots Q D A H0 nL ad cA c') : W p l e R s m args below meth c0 H locs cells slots Q (F0 m pc ls (st.map (pmRe ad))) := by
  obtain ⟨x, y, r, rfl, rfl, hq⟩ := pmD2_inv h hp
  exact lv_ddiv hexec hb hdg (hq _ List.mem_cons_self) (kk _ _ _ hr)
theorem pms_dmul {c' : pmC} {ps : List Prop} (hdg : decode cc pc = .ok (.dmul, 1)) (h : pmD2 1 (fun x y => .double (FP.dmul x y)) (fun x y => [vf_n64 (FP.dmul x y)]) (pc, L, st, S) = some (c', ps)) (hp : ∀ P ∈ ps, P) (hexec : p.tables.exec = Jvm.exec) (hb : c0.code = cc) (hr : pmRel D A H0 nL ad cA (pc, L, st, S) H locs ls) (kk : pmKk p l e R s m args below meth c0 cells slots Q D A H0 nL ad cA c') : W p l e R s m args below meth c0 H locs cells slots Q (F0 m pc ls (st.map (pmRe ad))) := by
  obtain ⟨x, y, r, rfl, rfl, hq⟩ := pmD2_inv h hp
  exact lv_dmul hexec hb hdg (hq _ List.mem_cons_self) (kk _ _ _ hr)
theorem pms_dsub {c' : pmC} {ps : List Prop} (hdg : decode cc pc = .ok (.dsub, 1)) (h : pmD2 1 (fun x y => .double (FP.dsub x y)) (fun x y => [vf_n64 (FP.dsub x y)]) (pc, L, st, S) = some (c', ps)) (hp : ∀ P ∈ ps, P) (hexec : p.tables.exec = Jvm.exec) (hb : c0.code = cc) (hr : pmRel D A H0 nL ad cA (pc, L, st, S) H locs ls) (kk : pmKk p l e R s m args below meth c0 cells slots Q D A H0 nL ad cA c') : W p l e R s m args below meth c0 H locs cells slots Q (F0 m pc ls (st.map (pmRe ad))) := by
  obtain ⟨x, y, r, rfl, rfl, hq⟩ := pmD2_inv h hp
  exact lv_dsub hexec hb hdg (hq _ List.mem_cons_self) (kk _ _ _ hr)
theorem pms_fcmp {c' : pmC} {ps : List Prop} {op : CmpOp} (hdg : decode cc pc = .ok (.fcmp op, 1)) (h : pmF2 1 (fun x y => .int (Op.cmpValue (FP.fcmp x y) op)) (fun _ _ => []) (pc, L, st, S) = some (c', ps)) (hp : ∀ P ∈ ps, P) (hexec : p.tables.exec = Jvm.exec) (hb : c0.code = cc) (hr : pmRel D A H0 nL ad cA (pc, L, st, S) H locs ls) (kk : pmKk p l e R s m args below meth c0 cells slots Q D A H0 nL ad cA c') : W p l e R s m args below meth c0 H locs cells slots Q (F0 m pc ls (st.map (pmRe ad))) := by
  obtain ⟨x, y, r, rfl, rfl, hq⟩ := pmF2_inv h hp
  exact lv_fcmp hexec hb hdg (kk _ _ _ hr)
theorem pms_dcmp {c' : pmC} {ps : List Prop} {op : CmpOp} (hdg : decode cc pc = .ok (.dcmp op, 1)) (h : pmD2 1 (fun x y => .int (Op.cmpValue (FP.dcmp x y) op)) (fun _ _ => []) (pc, L, st, S) = some (c', ps)) (hp : ∀ P ∈ ps, P) (hexec : p.tables.exec = Jvm.exec) (hb : c0.code = cc) (hr : pmRel D A H0 nL ad cA (pc, L, st, S) H locs ls) (kk : pmKk p l e R s m args below meth c0 cells slots Q D A H0 nL ad cA c') : W p l e R s m args below meth c0 H locs cells slots Q (F0 m pc ls (st.map (pmRe ad))) := by
  obtain ⟨x, y, r, rfl, rfl, hq⟩ := pmD2_inv h hp
  exact lv_dcmp hexec hb hdg (kk _ _ _ hr)
theorem pms_if {c' : pmC} {ps : List Prop} {b : Nat} {k : Jvm.ClassFile.Cond} {off : Int} (hdg : decode cc pc = .ok (.ifCond k off, 3)) (h : pmIf b k off (pc, L, st, S) = some (c', ps)) (hp : ∀ P ∈ ps, P) (hexec : p.tables.exec = Jvm.exec) (hb : c0.code = cc) (hr : pmRel D A H0 nL ad cA (pc, L, st, S) H locs ls) (kk : pmKk p l e R s m args below meth c0 cells slots Q D A H0 nL ad cA c') : W p l e R s m args below meth c0 H locs cells slots Q (F0 m pc ls (st.map (pmRe ad))) := by
  unfold pmIf at h
  split at h
  · rename_i x r hs
    dsimp only at hs
    subst hs
    obtain ⟨tgt, ht, ⟨hc, rfl⟩ | ⟨hc, rfl⟩⟩ := pmBr_inv h hp
    · cases k
      · exact lv_if_eq hexec hb hdg ht (fun z => absurd z hc) (fun _ => kk _ _ _ hr)
      · exact lv_if_ne hexec hb hdg ht (fun z => absurd z hc) (fun _ => kk _ _ _ hr)
      · exact lv_if_lt hexec hb hdg ht (fun z => absurd z hc) (fun _ => kk _ _ _ hr)
      · exact lv_if_ge hexec hb hdg ht (fun z => absurd z hc) (fun _ => kk _ _ _ hr)
      · exact lv_if_gt hexec hb hdg ht (fun z => absurd z hc) (fun _ => kk _ _ _ hr)
      · exact lv_if_le hexec hb hdg ht (fun z => absurd z hc) (fun _ => kk _ _ _ hr)
    · cases k
      · exact lv_if_eq hexec hb hdg ht (fun _ => kk _ _ _ hr) (fun z => absurd hc z)
      · exact lv_if_ne hexec hb hdg ht (fun _ => kk _ _ _ hr) (fun z => absurd z hc)
      · exact lv_if_lt hexec hb hdg ht (fun _ => kk _ _ _ hr) (fun z => absurd hc z)
      · exact lv_if_ge hexec hb hdg ht (fun _ => kk _ _ _ hr) (fun z => absurd hc z)
      · exact lv_if_gt hexec hb hdg ht (fun _ => kk _ _ _ hr) (fun z => absurd hc z)
      · exact lv_if_le hexec hb hdg ht (fun _ => kk _ _ _ hr) (fun z => absurd hc z)
  · cases h
theorem pms_ic {c' : pmC} {ps : List Prop} {b : Nat} {k : Jvm.ClassFile.Cond} {off : Int} (hdg : decode cc pc = .ok (.if_icmp k off, 3)) (h : pmIc b k off (pc, L, st, S) = some (c', ps)) (hp : ∀ P ∈ ps, P) (hexec : p.tables.exec = Jvm.exec) (hb : c0.code = cc) (hr : pmRel D A H0 nL ad cA (pc, L, st, S) H locs ls) (kk : pmKk p l e R s m args below meth c0 cells slots Q D A H0 nL ad cA c') : W p l e R s m args below meth c0 H locs cells slots Q (F0 m pc ls (st.map (pmRe ad))) := by
  unfold pmIc at h
  split at h
  · rename_i y x r hs
    dsimp only at hs
    subst hs
    obtain ⟨tgt, ht, ⟨hc, rfl⟩ | ⟨hc, rfl⟩⟩ := pmBr_inv h hp
    · cases k
      · exact lv_icmp_eq hexec hb hdg ht (fun z => absurd z hc) (fun _ => kk _ _ _ hr)
      · exact lv_icmp_ne hexec hb hdg ht (fun z => absurd z hc) (fun _ => kk _ _ _ hr)
      · exact lv_icmp_lt hexec hb hdg ht (fun z => absurd z hc) (fun _ => kk _ _ _ hr)
      · exact lv_icmp_ge hexec hb hdg ht (fun z => absurd z hc) (fun _ => kk _ _ _ hr)
      · exact lv_icmp_gt hexec hb hdg ht (fun z => absurd z hc) (fun _ => kk _ _ _ hr)
      · exact lv_icmp_le hexec hb hdg ht (fun z => absurd z hc) (fun _ => kk _ _ _ hr)
    · cases k
      · exact lv_icmp_eq hexec hb hdg ht (fun _ => kk _ _ _ hr) (fun z => absurd hc z)
      · exact lv_icmp_ne hexec hb hdg ht (fun _ => kk _ _ _ hr) (fun z => absurd z hc)
      · exact lv_icmp_lt hexec hb hdg ht (fun _ => kk _ _ _ hr) (fun z => absurd hc z)
      · exact lv_icmp_ge hexec hb hdg ht (fun _ => kk _ _ _ hr) (fun z => absurd hc z)
      · exact lv_icmp_gt hexec hb hdg ht (fun _ => kk _ _ _ hr) (fun z => absurd hc z)
      · exact lv_icmp_le hexec hb hdg ht (fun _ => kk _ _ _ hr) (fun z => absurd hc z)
  · cases h
theorem pms_ifnull {c' : pmC} {ps : List Prop} {off : Int} (hdg : decode cc pc = .ok (.ifnull off, 3)) (h : pmNu off (pc, L, st, S) = some (c', ps)) (hexec : p.tables.exec = Jvm.exec) (hb : c0.code = cc) (hr : pmRel D A H0 nL ad cA (pc, L, st, S) H locs ls) (kk : pmKk p l e R s m args below meth c0 cells slots Q D A H0 nL ad cA c') : W p l e R s m args below meth c0 H locs cells slots Q (F0 m pc ls (st.map (pmRe ad))) := by
  unfold pmNu at h
  split at h
  · rename_i x r hs
    dsimp only at hs
    subst hs
    cases h
    exact lv_ifnull hexec hb hdg (kk _ _ _ hr)
  · rename_i r hs
    dsimp only at hs
    subst hs
    obtain ⟨tgt, ht, rfl, -⟩ := pmTgt_inv h
    exact lv_ifnullN hexec hb hdg ht (kk _ _ _ hr)
  · cases h
theorem pms_ifnonnull {c' : pmC} {ps : List Prop} {off : Int} (hdg : decode cc pc = .ok (.ifnonnull off, 3)) (h : pmNn off (pc, L, st, S) = some (c', ps)) (hexec : p.tables.exec = Jvm.exec) (hb : c0.code = cc) (hr : pmRel D A H0 nL ad cA (pc, L, st, S) H locs ls) (kk : pmKk p l e R s m args below meth c0 cells slots Q D A H0 nL ad cA c') : W p l e R s m args below meth c0 H locs cells slots Q (F0 m pc ls (st.map (pmRe ad))) := by
  unfold pmNn at h
  split at h
  · rename_i x r hs
    dsimp only at hs
    subst hs
    obtain ⟨tgt, ht, rfl, -⟩ := pmTgt_inv h
    exact lv_ifnonnull hexec hb hdg ht (kk _ _ _ hr)
  · rename_i r hs
    dsimp only at hs
    subst hs
    cases h
    exact lv_ifnonnullN hexec hb hdg (kk _ _ _ hr)
  · cases h
theorem pms_goto {c' : pmC} {ps : List Prop} {off : Int} (hdg : decode cc pc = .ok (.goto off, 3)) (h : pmTgt (pc, L, st, S) off st [] = some (c', ps)) (hexec : p.tables.exec = Jvm.exec) (hb : c0.code = cc) (hr : pmRel D A H0 nL ad cA (pc, L, st, S) H locs ls) (kk : pmKk p l e R s m args below meth c0 cells slots Q D A H0 nL ad cA c') : W p l e R s m args below meth c0 H locs cells slots Q (F0 m pc ls (st.map (pmRe ad))) := by
  obtain ⟨tgt, ht, rfl, -⟩ := pmTgt_inv h
  exact lv_goto hexec hb hdg ht (kk _ _ _ hr)
theorem pms_tableswitch {c' : pmC} {ps : List Prop} {b n : Nat} {dflt lo hi : Int} {offs : Array Int} (hdg : decode cc pc = .ok (.tableswitch dflt lo hi offs, n)) (h : pmTb b dflt lo hi offs (pc, L, st, S) = some (c', ps)) (hp : ∀ P ∈ ps, P) (hexec : p.tables.exec = Jvm.exec) (hb : c0.code = cc) (hr : pmRel D A H0 nL ad cA (pc, L, st, S) H locs ls) (kk : pmKk p l e R s m args below meth c0 cells slots Q D A H0 nL ad cA c') : W p l e R s m args below meth c0 H locs cells slots Q (F0 m pc ls (st.map (pmRe ad))) := by
  unfold pmTb at h
  split at h
  · rename_i x r hs
    dsimp only at hs
    subst hs
    split at h
    · rename_i off ho
      split at h
      · rename_i hhi
        obtain ⟨tgt, ht, rfl, rfl⟩ := pmTgt_inv h
        have hx : x.toInt = lo + b := hp _ List.mem_cons_self
        exact lv_tableIn hexec hb hdg (by omega) (by omega) (by rw [hx, show (lo + (b : Int) - lo).toNat = b by omega]; exact ho) ht (kk _ _ _ hr)
      · cases h
    · obtain ⟨tgt, ht, rfl, rfl⟩ := pmTgt_inv h
      exact lv_tableOut hexec hb hdg (hp _ List.mem_cons_self) ht (kk _ _ _ hr)
  · cases h
theorem pms_lookupswitch {c' : pmC} {ps : List Prop} {b n : Nat} {dflt : Int} {qs : Array (Int × Int)} (hdg : decode cc pc = .ok (.lookupswitch dflt qs, n)) (h : pmLk b dflt qs (pc, L, st, S) = some (c', ps)) (hp : ∀ P ∈ ps, P) (hexec : p.tables.exec = Jvm.exec) (hb : c0.code = cc) (hr : pmRel D A H0 nL ad cA (pc, L, st, S) H locs ls) (kk : pmKk p l e R s m args below meth c0 cells slots Q D A H0 nL ad cA c') : W p l e R s m args below meth c0 H locs cells slots Q (F0 m pc ls (st.map (pmRe ad))) := by
  unfold pmLk at h
  split at h
  · rename_i x r hs
    dsimp only at hs
    subst hs
    split at h
    · rename_i hq
      split at h
      · rename_i q ho
        obtain ⟨tgt, ht, rfl, rfl⟩ := pmTgt_inv h
        have h1 : x.toInt = q.1 := hp _ List.mem_cons_self
        have h2 : Op.lookupswitch.offset qs.toList dflt q.1 = q.2 := hp _ (List.mem_cons_of_mem _ List.mem_cons_self)
        exact lv_lookup hexec hb hdg hq (by rw [h1]; exact h2) ht (kk _ _ _ hr)
      · obtain ⟨tgt, ht, rfl, rfl⟩ := pmTgt_inv h
        exact lv_lookup hexec hb hdg hq (hp _ List.mem_cons_self) ht (kk _ _ _ hr)
    · cases h
  · cases h
theorem pms_dup {c' : pmC} {ps : List Prop} (hdg : decode cc pc = .ok (.dup, 1)) (h : pmDup (pc, L, st, S) = some (c', ps)) (hexec : p.tables.exec = Jvm.exec) (hb : c0.code = cc) (hr : pmRel D A H0 nL ad cA (pc, L, st, S) H locs ls) (kk : pmKk p l e R s m args below meth c0 cells slots Q D A H0 nL ad cA c') : W p l e R s m args below meth c0 H locs cells slots Q (F0 m pc ls (st.map (pmRe ad))) := by
  unfold pmDup at h
  split at h
  · rename_i v r hs
    dsimp only at hs
    subst hs
    split at h
    · rename_i hv
      cases h
      exact lv_dup hexec hb hdg ((pmRe_cat ad v).trans hv) (kk _ _ _ hr)
    · cases h
  · cases h
theorem pms_dup2 {c' : pmC} {ps : List Prop} (hdg : decode cc pc = .ok (.dup2, 1)) (h : pmDup2 (pc, L, st, S) = some (c', ps)) (hexec : p.tables.exec = Jvm.exec) (hb : c0.code = cc) (hr : pmRel D A H0 nL ad cA (pc, L, st, S) H locs ls) (kk : pmKk p l e R s m args below meth c0 cells slots Q D A H0 nL ad cA c') : W p l e R s m args below meth c0 H locs cells slots Q (F0 m pc ls (st.map (pmRe ad))) := by
  unfold pmDup2 at h
  split at h
  · rename_i v w r hs
    dsimp only at hs
    subst hs
    split at h
    · rename_i hv
      cases h
      exact lv_dup2_11 hexec hb hdg ((pmRe_cat ad v).trans hv.1) ((pmRe_cat ad w).trans hv.2) (kk _ _ _ hr)
    · cases h
  · cases h
theorem pms_pop {c' : pmC} {ps : List Prop} (hdg : decode cc pc = .ok (.pop, 1)) (h : pmPop (pc, L, st, S) = some (c', ps)) (hexec : p.tables.exec = Jvm.exec) (hb : c0.code = cc) (hr : pmRel D A H0 nL ad cA (pc, L, st, S) H locs ls) (kk : pmKk p l e R s m args below meth c0 cells slots Q D A H0 nL ad cA c') : W p l e R s m args below meth c0 H locs cells slots Q (F0 m pc ls (st.map (pmRe ad))) := by
  unfold pmPop at h
  split at h
  · rename_i v r hs
    dsimp only at hs
    subst hs
    split at h
    · rename_i hv
      cases h
      exact lv_pop hexec hb hdg ((pmRe_cat ad v).trans hv) (kk _ _ _ hr)
    · cases h
  · cases h
end PMS2
end
section
/-! PM: fields and arrays; then the row of all steps -/
theorem pmWr_ok {t : FieldType} {v : Value} {μ μ' : pmM} {q k : Nat} (ad : Nat → Nat) (h : pmWr t v μ q k = some μ') :
    pmRd t μ' q k = v ∧ (∀ j, j ≠ k → ∀ t', pmRd t' μ' q j = pmRd t' μ q j) ∧ (∀ i, i ≠ q → μ'.1 i = μ.1 i ∧ μ'.2.1 i = μ.2.1 i ∧ μ'.2.2.1 i = μ.2.2.1 i ∧ μ'.2.2.2 i = μ.2.2.2 i) ∧ narrow t (pmRe ad v) = pmRe ad v ∧ fits t (pmRe ad v) = true := by
  unfold pmWr at h
  split at h
  · split at h
    · cases h
      refine ⟨?_, ?_, ?_, rfl, rfl⟩
      · show Value.long _ = _; simp only [pmU_at]; simp
      · intro j hj t'; unfold pmRd; simp only [pmU_at]; split <;> simp [hj]
      · intro i hi; exact ⟨rfl, pmU_ne _ _ hi, rfl, rfl⟩
    · cases h
  · split at h
    · cases h
      refine ⟨?_, ?_, ?_, rfl, rfl⟩
      · show Value.int _ = _; simp only [pmU_at]; simp
      · intro j hj t'; unfold pmRd; simp only [pmU_at]; split <;> simp [hj]
      · intro i hi; exact ⟨pmU_ne _ _ hi, rfl, rfl, rfl⟩
    · cases h
  · split at h
    · rename_i x
      split at h
      · rename_i hx
        cases h
        refine ⟨?_, ?_, ?_, ?_, ?_⟩
        · show Value.int _ = _; simp only [pmU_at]; simp
        · intro j hj t'; unfold pmRd; simp only [pmU_at]; split <;> simp [hj]
        · intro i hi; exact ⟨pmU_ne _ _ hi, rfl, rfl, rfl⟩
        · rcases hx with rfl | rfl <;> rfl
        · rcases hx with rfl | rfl <;> rfl
      · cases h
    · cases h
  · split at h
    · rename_i x
      split at h
      · rename_i hx
        cases h
        refine ⟨?_, ?_, ?_, ?_, ?_⟩
        · show Value.int _ = _; simp only [pmU_at]; simp
        · intro j hj t'; unfold pmRd; simp only [pmU_at]; split <;> simp [hj]
        · intro i hi; exact ⟨pmU_ne _ _ hi, rfl, rfl, rfl⟩
        · subst hx; rfl
        · subst hx; rfl
      · cases h
    · cases h
  · split at h
    · cases h
      refine ⟨?_, ?_, ?_, rfl, rfl⟩
      · show va_rf _ = _; simp only [pmU_at]; simp [va_rf]
      · intro j hj t'; unfold pmRd; simp only [pmU_at]; split <;> simp [hj]
      · intro i hi; exact ⟨rfl, rfl, pmU_ne _ _ hi, rfl⟩
    · cases h
  · split at h
    · cases h
      refine ⟨?_, ?_, ?_, rfl, rfl⟩
      · show va_rf _ = _; simp only [pmU_at]; simp [va_rf]
      · intro j hj t'; unfold pmRd; simp only [pmU_at]; split <;> simp [hj]
      · intro i hi; exact ⟨rfl, rfl, pmU_ne _ _ hi, rfl⟩
    · cases h
  · cases h
theorem pm_row_set {f g : Nat → Value} {N k : Nat} (hk : k < N) (ho : ∀ j, j ≠ k → g j = f j) : (List.range N).map g = ((List.range N).map f).set k (g k) := by
  refine List.ext_getElem? fun i => ?_
  rw [List.getElem?_set, List.getElem?_map, List.length_map, List.length_range]
  by_cases hi : k = i
  · subst hi
    rw [if_pos rfl, if_pos hk, List.getElem?_range hk]
    rfl
  · rw [if_neg hi, List.getElem?_map]
    cases h : (List.range N)[i]? with
    | none => rfl
    | some z =>
      have hz : z = i := by
        obtain ⟨h1, h2⟩ := List.getElem?_eq_some_iff.mp h
        rw [List.getElem_range] at h2
        exact h2.symm
      subst hz
      exact congrArg some (ho z (fun z => hi z.symm))
theorem pmRe_rf (ad : Nat → Nat) (r : Option Nat) : pmRe ad (va_rf r) = va_rf (r.map ad) := by cases r <;> rfl
theorem pmCl_nm {c : Nat} (h : c < 11) : ∀ a, a < pmN c → ∀ b, b < pmN c → a ≠ b → (pmT c a).2.1 ≠ (pmT c b).2.1 := by
  rcases (show c = 0 ∨ c = 1 ∨ c = 2 ∨ c = 3 ∨ c = 4 ∨ c = 5 ∨ c = 6 ∨ c = 7 ∨ c = 8 ∨ c = 9 ∨ c = 10 by omega) with rfl | rfl | rfl | rfl | rfl | rfl | rfl | rfl | rfl | rfl | rfl
  · exact nmX0
  · exact nmX1
  · exact nmX2
  · exact nmX3
  · exact nmX4
  · exact nmX5
  · exact nmX6
  · exact nmX7
  · exact nmX8
  · exact nmJ0
  · exact nmJ4
theorem pmCl_ty {c : Nat} (h : c < 11) : ∀ k, k < pmN c → parseFieldDescriptor (pmT c k).2.2.1 = some (pmTy c k) := by
  rcases (show c = 0 ∨ c = 1 ∨ c = 2 ∨ c = 3 ∨ c = 4 ∨ c = 5 ∨ c = 6 ∨ c = 7 ∨ c = 8 ∨ c = 9 ∨ c = 10 by omega) with rfl | rfl | rfl | rfl | rfl | rfl | rfl | rfl | rfl | rfl | rfl
  · exact tyX0_ok
  · exact tyX1_ok
  · exact tyX2_ok
  · exact tyX3_ok
  · exact tyX4_ok
  · exact tyX5_ok
  · exact tyX6_ok
  · exact tyX7_ok
  · exact tyX8_ok
  · exact tyJ0_ok
  · exact tyJ4_ok
section PMS3
variable {p : Program} {l : Launch} {e : Env} {R : Room} {s : State} {m : MethodId} {args : Array Value} {below : List Frame} {meth : Method} {c0 : Code} {H H0 : Heap} {locs : List Loc} {cells slots : Nat} {Q : State → Prop}
variable {cc : ByteArray} {ls : Array Slot} {A : Nat → Prop} {D : va_G} {nL : Nat} {ad : Nat → Nat} {cA : Nat → ClassId} {pc : Nat} {L : List (Option Value)} {S : pmS} {st rest : List Value}
theorem pms_getfield {c' : pmC} {ps : List Prop} {own : String} {ini : Bool} {k : Nat} {x : Nat × Nat} (hdg : decode cc pc = .ok (.getfield k, 3)) (h : pmGet x (pc, L, st, S) = some (c', ps)) (hws : ∀ w ∈ pmWs own (.getfield k) x, w.before args s = true) (hok : pmOk ini own (.getfield k) x = true) (hown : s.vm.findClass own = some m.cls) (hK : va_K D pmCl (pmTs cA) s) (hexec : p.tables.exec = Jvm.exec) (hb : c0.code = cc) (hr : pmRel D A H0 nL ad cA (pc, L, st, S) H locs ls) (kk : pmKk p l e R s m args below meth c0 cells slots Q D A H0 nL ad cA c') : W p l e R s m args below meth c0 H locs cells slots Q (F0 m pc ls (st.map (pmRe ad))) := by
  unfold pmGet at h
  split at h
  · rename_i q r hs
    dsimp only at hs
    subst hs
    split at h
    · rename_i ci hq
      split at h
      · rename_i hc
        obtain ⟨⟨hc1, hc10⟩, hc2⟩ := hc
        subst hc1
        cases h
        have hws : ∀ w ∈ (.fieldLink own k (pmT x.1 x.2).1 (pmT x.1 x.2).2.1 (pmT x.1 x.2).2.2.1 :: u_ws (pmCN x.1) (pmT x.1) (pmN x.1) : List Cond), w.before args s = true := by
          intro w hw
          refine hws w ?_
          dsimp only [pmWs]
          rw [if_pos hc10]
          exact hw
        refine va_get (D := D) (ci := x.1) (C := pmCN x.1) (T := pmT x.1) (N := pmN x.1) (ref := (pmT x.1 x.2).1) hexec hb hws (fun w hw => List.mem_cons_of_mem _ hw) hown hK hr.1 q (pmW_at hq) (pmCl_at hc10) x.2 hc2 (hws _ List.mem_cons_self) (fun _ hz => hz) (v := pmRe ad (pmRd (pmTy x.1 x.2) S.2 q x.2)) ?_ hdg (kk _ _ _ hr)
        rw [List.getElem?_map, List.getElem?_range hc2]
        rfl
      · cases h
    · cases h
  · cases h
theorem pms_putfield {c' : pmC} {ps : List Prop} {own : String} {ini : Bool} {k : Nat} {x : Nat × Nat} (hdg : decode cc pc = .ok (.putfield k, 3)) (h : pmPut x (pc, L, st, S) = some (c', ps)) (hws : ∀ w ∈ pmWs own (.putfield k) x, w.before args s = true) (hok : pmOk ini own (.putfield k) x = true) (hini : ini = true → meth.name = "<init>") (hown : s.vm.findClass own = some m.cls) (hK : va_K D pmCl (pmTs cA) s) (hexec : p.tables.exec = Jvm.exec) (hb : c0.code = cc) (hr : pmRel D A H0 nL ad cA (pc, L, st, S) H locs ls) (kk : pmKk p l e R s m args below meth c0 cells slots Q D A H0 nL ad cA c') : W p l e R s m args below meth c0 H locs cells slots Q (F0 m pc ls (st.map (pmRe ad))) := by
  unfold pmPut at h
  split at h
  · rename_i v q r hs
    dsimp only at hs
    subst hs
    split at h
    · rename_i ci hq
      split at h
      · rename_i hc
        obtain ⟨hc1, hc2⟩ := hc
        subst hc1
        split at h
        · rename_i μ' hw
          cases h
          obtain ⟨w1, w2, w3, w4, w5⟩ := pmWr_ok ad hw
          simp only [pmOk, Bool.and_eq_true, Bool.or_eq_true, decide_eq_true_eq, beq_iff_eq] at hok
          obtain ⟨o1, o3⟩ := hok
          have hg : (List.range (pmN x.1)).map (fun k => pmRe ad (pmRd (pmTy x.1 k) μ' q k)) = ((List.range (pmN x.1)).map (fun k => pmRe ad (pmRd (pmTy x.1 k) S.2 q k))).set x.2 (pmRe ad v) := by
            rw [pm_row_set (f := fun k => pmRe ad (pmRd (pmTy x.1 k) S.2 q k)) (g := fun k => pmRe ad (pmRd (pmTy x.1 k) μ' q k)) hc2 (fun j hj => by show pmRe ad _ = pmRe ad _; rw [w2 j hj])]
            rw [w1]
          have hE : pmW ad cA (S.1, μ') = (pmW ad cA S).set q (ad q, .inr (x.1, ((List.range (pmN x.1)).map (fun k => pmRe ad (pmRd (pmTy x.1 k) S.2 q k))).set x.2 (pmRe ad v))) := by
            rw [← hg]
            exact pmW_set (ad := ad) (cA := cA) (G := S.1) (μ := S.2) (μ' := μ') hq (fun i hi e => pmE_congr (w3 i hi).1 (w3 i hi).2.1 (w3 i hi).2.2.1 (w3 i hi).2.2.2 e)
          have kk2 : ∀ (H1 : Heap) (locs1 : List Loc), va_P D pmCl ((pmW ad cA S).set q (ad q, .inr (x.1, ((List.range (pmN x.1)).map (fun k => pmRe ad (pmRd (pmTy x.1 k) S.2 q k))).set x.2 (pmRe ad v)))) H1 → va_D A ((pmW ad cA S).set q (ad q, .inr (x.1, ((List.range (pmN x.1)).map (fun k => pmRe ad (pmRd (pmTy x.1 k) S.2 q k))).set x.2 (pmRe ad v)))) → va_S A H0 H1 locs1 → W p l e R s m args below meth c0 H1 locs1 cells slots Q (F0 m (pc + 3) ls (r.map (pmRe ad))) := by
            intro H1 locs1 g1 g2 g3
            rw [← hE] at g1 g2
            exact kk _ _ _ ⟨g1, g2, g3, hr.2.2.2⟩
          have hlen : x.2 < ((List.range (pmN x.1)).map (fun k => pmRe ad (pmRd (pmTy x.1 k) S.2 q k))).length := by rw [List.length_map, List.length_range]; exact hc2
          rcases o3 with o3 | o3
          · exact va_put (D := D) (ci := x.1) (C := pmCN x.1) (T := pmT x.1) (N := pmN x.1) (Ts := pmWs own (.putfield k) x) (ref := (pmT x.1 x.2).1) hexec hb hws (fun w hw => List.mem_cons_of_mem _ hw) (pmTy x.1) (pmCl_ty o1) (pmCl_nm o1) hown hK hr.1 hr.2.1 hr.2.2.1 q (pmW_at hq) (pmCl_at o1) x.2 hc2 (hws _ List.mem_cons_self) (fun _ hz => hz) o3 (pmCl_ty o1 x.2 hc2) w4 w5 hlen hdg kk2
          · cases ho : (pmT x.1 x.2).2.2.2 with
            | false => exact va_put (D := D) (ci := x.1) (C := pmCN x.1) (T := pmT x.1) (N := pmN x.1) (Ts := pmWs own (.putfield k) x) (ref := (pmT x.1 x.2).1) hexec hb hws (fun w hw => List.mem_cons_of_mem _ hw) (pmTy x.1) (pmCl_ty o1) (pmCl_nm o1) hown hK hr.1 hr.2.1 hr.2.2.1 q (pmW_at hq) (pmCl_at o1) x.2 hc2 (hws _ List.mem_cons_self) (fun _ hz => hz) ho (pmCl_ty o1 x.2 hc2) w4 w5 hlen hdg kk2
            | true => exact va_putF (D := D) (ci := x.1) (C := pmCN x.1) (T := pmT x.1) (N := pmN x.1) (Ts := pmWs own (.putfield k) x) (ref := (pmT x.1 x.2).1) hexec hb hws (fun w hw => List.mem_cons_of_mem _ hw) (pmTy x.1) (pmCl_ty o1) (pmCl_nm o1) hown hK hr.1 hr.2.1 hr.2.2.1 q (pmW_at hq) (pmCl_at o1) x.2 hc2 (hws _ List.mem_cons_self) (fun _ hz => hz) ho (hini o3.1) o3.2.symm (pmCl_ty o1 x.2 hc2) w4 w5 hlen hdg kk2
        · cases h
      · cases h
    · cases h
  · cases h
theorem pmTs_at {cA : Nat → ClassId} {t : Nat} (h : t < 5) : (pmTs cA)[t]? = some (cA t, pmAt t) := by
  rcases (show t = 0 ∨ t = 1 ∨ t = 2 ∨ t = 3 ∨ t = 4 by omega) with rfl | rfl | rfl | rfl | rfl <;> rfl
theorem pms_arraylength {c' : pmC} {ps : List Prop} (hdg : decode cc pc = .ok (.arraylength, 1)) (h : pmLen (pc, L, st, S) = some (c', ps)) (hK : va_K D pmCl (pmTs cA) s) (hexec : p.tables.exec = Jvm.exec) (hb : c0.code = cc) (hr : pmRel D A H0 nL ad cA (pc, L, st, S) H locs ls) (kk : pmKk p l e R s m args below meth c0 cells slots Q D A H0 nL ad cA c') : W p l e R s m args below meth c0 H locs cells slots Q (F0 m pc ls (st.map (pmRe ad))) := by
  unfold pmLen at h
  split at h
  · rename_i q r hs
    dsimp only at hs
    subst hs
    split at h
    · rename_i a hq
      split at h
      · rename_i ha
        cases h
        exact va_alen hexec hb hK hr.1 q a.1 (pmW_at hq) (pmTs_at ha) rfl hdg (kk _ _ _ hr)
      · cases h
    · cases h
  · cases h
theorem pmAld_inv {t : Nat} {f : Nat → Int32 → Value} {c' : pmC} {ps : List Prop} (h : pmAld t f (pc, L, st, S) = some (c', ps)) (hp : ∀ P ∈ ps, P) : ∃ j q r n, st = .int j :: .ref q :: r ∧ S.1[q]? = some (.inr (t, n)) ∧ vp_in j n ∧ c' = (pc + 1, L, f q j :: r, S) := by
  unfold pmAld at h
  split at h
  · rename_i j q r hs
    split at h
    · rename_i a hq
      split at h
      · rename_i ha
        cases h
        obtain ⟨a1, a2⟩ := a
        dsimp only at ha
        subst ha
        exact ⟨j, q, r, a2, hs, hq, hp _ List.mem_cons_self, rfl⟩
      · cases h
    · cases h
  · cases h
theorem pmAst_inv {t : Nat} {f : Nat → Int32 → Value → Option pmM} {c' : pmC} {ps : List Prop} (h : pmAst t f (pc, L, st, S) = some (c', ps)) (hp : ∀ P ∈ ps, P) : ∃ v j q r n μ, st = v :: .int j :: .ref q :: r ∧ S.1[q]? = some (.inr (t, n)) ∧ vp_in j n ∧ f q j v = some μ ∧ c' = (pc + 1, L, r, S.1, μ) := by
  unfold pmAst at h
  split at h
  · rename_i v j q r hs
    split at h
    · rename_i a hq
      split at h
      · rename_i ha
        split at h
        · rename_i μ hf
          cases h
          obtain ⟨a1, a2⟩ := a
          dsimp only at ha
          subst ha
          exact ⟨v, j, q, r, a2, μ, hs, hq, hp _ List.mem_cons_self, hf, rfl⟩
        · cases h
      · cases h
    · cases h
  · cases h
theorem pms_iaload {c' : pmC} {ps : List Prop} (hdg : decode cc pc = .ok (.iaload, 1)) (h : pmAld 0 (fun q j => .int (S.2.1 q j.toNatClampNeg)) (pc, L, st, S) = some (c', ps)) (hp : ∀ P ∈ ps, P) (hK : va_K D pmCl (pmTs cA) s) (hexec : p.tables.exec = Jvm.exec) (hb : c0.code = cc) (hr : pmRel D A H0 nL ad cA (pc, L, st, S) H locs ls) (kk : pmKk p l e R s m args below meth c0 cells slots Q D A H0 nL ad cA c') : W p l e R s m args below meth c0 H locs cells slots Q (F0 m pc ls (st.map (pmRe ad))) := by
  obtain ⟨j, q, r, n, rfl, hq, hin, rfl⟩ := pmAld_inv h hp
  exact va_iald hexec hb hK hr.1 q 0 (pmW_at hq) (pmTs_at (by decide)) hin hdg (kk _ _ _ hr)
theorem pms_baload {c' : pmC} {ps : List Prop} (hdg : decode cc pc = .ok (.baload, 1)) (h : pmAld 1 (fun q j => .int (S.2.1 q j.toNatClampNeg)) (pc, L, st, S) = some (c', ps)) (hp : ∀ P ∈ ps, P) (hK : va_K D pmCl (pmTs cA) s) (hexec : p.tables.exec = Jvm.exec) (hb : c0.code = cc) (hr : pmRel D A H0 nL ad cA (pc, L, st, S) H locs ls) (kk : pmKk p l e R s m args below meth c0 cells slots Q D A H0 nL ad cA c') : W p l e R s m args below meth c0 H locs cells slots Q (F0 m pc ls (st.map (pmRe ad))) := by
  obtain ⟨j, q, r, n, rfl, hq, hin, rfl⟩ := pmAld_inv h hp
  exact va_bald hexec hb hK hr.1 q 1 (pmW_at hq) (pmTs_at (by decide)) hin hdg (kk _ _ _ hr)
theorem pms_caload {c' : pmC} {ps : List Prop} (hdg : decode cc pc = .ok (.caload, 1)) (h : pmAld 2 (fun q j => .int (S.2.1 q j.toNatClampNeg)) (pc, L, st, S) = some (c', ps)) (hp : ∀ P ∈ ps, P) (hK : va_K D pmCl (pmTs cA) s) (hexec : p.tables.exec = Jvm.exec) (hb : c0.code = cc) (hr : pmRel D A H0 nL ad cA (pc, L, st, S) H locs ls) (kk : pmKk p l e R s m args below meth c0 cells slots Q D A H0 nL ad cA c') : W p l e R s m args below meth c0 H locs cells slots Q (F0 m pc ls (st.map (pmRe ad))) := by
  obtain ⟨j, q, r, n, rfl, hq, hin, rfl⟩ := pmAld_inv h hp
  exact va_cald hexec hb hK hr.1 q 2 (pmW_at hq) (pmTs_at (by decide)) hin hdg (kk _ _ _ hr)
theorem pms_aaload {c' : pmC} {ps : List Prop} (hdg : decode cc pc = .ok (.aaload, 1)) (h : pmAld 4 (fun q j => va_rf (S.2.2.2.1 q j.toNatClampNeg)) (pc, L, st, S) = some (c', ps)) (hp : ∀ P ∈ ps, P) (hK : va_K D pmCl (pmTs cA) s) (hexec : p.tables.exec = Jvm.exec) (hb : c0.code = cc) (hr : pmRel D A H0 nL ad cA (pc, L, st, S) H locs ls) (kk : pmKk p l e R s m args below meth c0 cells slots Q D A H0 nL ad cA c') : W p l e R s m args below meth c0 H locs cells slots Q (F0 m pc ls (st.map (pmRe ad))) := by
  obtain ⟨j, q, r, n, rfl, hq, hin, rfl⟩ := pmAld_inv h hp
  have k1 := kk _ _ _ hr
  simp only [List.map_cons, pmRe_rf] at k1
  exact va_aldq hexec hb hK hr.1 q 4 (pmW_at hq) (pmTs_at (by decide)) hin hdg k1
theorem pms_iastore {c' : pmC} {ps : List Prop} (hdg : decode cc pc = .ok (.iastore, 1)) (h : pmAst 0 (pmIst S.2) (pc, L, st, S) = some (c', ps)) (hp : ∀ P ∈ ps, P) (hK : va_K D pmCl (pmTs cA) s) (hexec : p.tables.exec = Jvm.exec) (hb : c0.code = cc) (hr : pmRel D A H0 nL ad cA (pc, L, st, S) H locs ls) (kk : pmKk p l e R s m args below meth c0 cells slots Q D A H0 nL ad cA c') : W p l e R s m args below meth c0 H locs cells slots Q (F0 m pc ls (st.map (pmRe ad))) := by
  obtain ⟨v, j, q, r, n, μ', rfl, hq, hin, hf, rfl⟩ := pmAst_inv h hp
  unfold pmIst at hf
  split at hf
  · rename_i z
    have hμ := (Option.some.inj hf).symm
    have w3 : ∀ i, i ≠ q → μ'.1 i = S.2.1 i ∧ μ'.2.1 i = S.2.2.1 i ∧ μ'.2.2.1 i = S.2.2.2.1 i ∧ μ'.2.2.2 i = S.2.2.2.2 i := by
      intro i hi
      rw [hμ]
      exact ⟨pmU_ne _ _ hi, rfl, rfl, rfl⟩
    have hE : pmW ad cA (S.1, μ') = (pmW ad cA S).set q (ad q, .inl (cA 0, n, .inl (upd (S.2.1 q) j.toNatClampNeg z))) := by
      rw [pmW_set (ad := ad) (cA := cA) (G := S.1) (μ := S.2) (μ' := μ') hq (fun i hi e => pmE_congr (w3 i hi).1 (w3 i hi).2.1 (w3 i hi).2.2.1 (w3 i hi).2.2.2 e), hμ]
      unfold pmE pmPay
      simp only [pmU_at]
      rfl
    refine va_iast hexec hb hK hr.1 hr.2.1 hr.2.2.1 q 0 (pmW_at hq) (pmTs_at (by decide)) hin hdg (fun H1 locs1 g1 g2 g3 => ?_)
    have g1 : va_P D pmCl ((pmW ad cA S).set q (ad q, .inl (cA 0, n, .inl (upd (S.2.1 q) j.toNatClampNeg z)))) H1 := g1
    have g2 : va_D A ((pmW ad cA S).set q (ad q, .inl (cA 0, n, .inl (upd (S.2.1 q) j.toNatClampNeg z)))) := g2
    rw [← hE] at g1 g2
    exact kk _ _ _ ⟨g1, g2, g3, hr.2.2.2⟩
  · cases hf
theorem pms_bastore {c' : pmC} {ps : List Prop} (hdg : decode cc pc = .ok (.bastore, 1)) (h : pmAst 1 (pmBst S.2) (pc, L, st, S) = some (c', ps)) (hp : ∀ P ∈ ps, P) (hK : va_K D pmCl (pmTs cA) s) (hexec : p.tables.exec = Jvm.exec) (hb : c0.code = cc) (hr : pmRel D A H0 nL ad cA (pc, L, st, S) H locs ls) (kk : pmKk p l e R s m args below meth c0 cells slots Q D A H0 nL ad cA c') : W p l e R s m args below meth c0 H locs cells slots Q (F0 m pc ls (st.map (pmRe ad))) := by
  obtain ⟨v, j, q, r, n, μ', rfl, hq, hin, hf, rfl⟩ := pmAst_inv h hp
  unfold pmBst at hf
  split at hf
  · rename_i z
    have hμ := (Option.some.inj hf).symm
    have w3 : ∀ i, i ≠ q → μ'.1 i = S.2.1 i ∧ μ'.2.1 i = S.2.2.1 i ∧ μ'.2.2.1 i = S.2.2.2.1 i ∧ μ'.2.2.2 i = S.2.2.2.2 i := by
      intro i hi
      rw [hμ]
      exact ⟨pmU_ne _ _ hi, rfl, rfl, rfl⟩
    have hE : pmW ad cA (S.1, μ') = (pmW ad cA S).set q (ad q, .inl (cA 1, n, .inl (upd (S.2.1 q) j.toNatClampNeg (vp_nar .byte z)))) := by
      rw [pmW_set (ad := ad) (cA := cA) (G := S.1) (μ := S.2) (μ' := μ') hq (fun i hi e => pmE_congr (w3 i hi).1 (w3 i hi).2.1 (w3 i hi).2.2.1 (w3 i hi).2.2.2 e), hμ]
      unfold pmE pmPay
      simp only [pmU_at]
      rfl
    refine va_bast hexec hb hK hr.1 hr.2.1 hr.2.2.1 q 1 (pmW_at hq) (pmTs_at (by decide)) hin hdg (fun H1 locs1 g1 g2 g3 => ?_)
    have g1 : va_P D pmCl ((pmW ad cA S).set q (ad q, .inl (cA 1, n, .inl (upd (S.2.1 q) j.toNatClampNeg (vp_nar .byte z))))) H1 := g1
    have g2 : va_D A ((pmW ad cA S).set q (ad q, .inl (cA 1, n, .inl (upd (S.2.1 q) j.toNatClampNeg (vp_nar .byte z))))) := g2
    rw [← hE] at g1 g2
    exact kk _ _ _ ⟨g1, g2, g3, hr.2.2.2⟩
  · cases hf
theorem pms_castore {c' : pmC} {ps : List Prop} (hdg : decode cc pc = .ok (.castore, 1)) (h : pmAst 2 (pmCst S.2) (pc, L, st, S) = some (c', ps)) (hp : ∀ P ∈ ps, P) (hK : va_K D pmCl (pmTs cA) s) (hexec : p.tables.exec = Jvm.exec) (hb : c0.code = cc) (hr : pmRel D A H0 nL ad cA (pc, L, st, S) H locs ls) (kk : pmKk p l e R s m args below meth c0 cells slots Q D A H0 nL ad cA c') : W p l e R s m args below meth c0 H locs cells slots Q (F0 m pc ls (st.map (pmRe ad))) := by
  obtain ⟨v, j, q, r, n, μ', rfl, hq, hin, hf, rfl⟩ := pmAst_inv h hp
  unfold pmCst at hf
  split at hf
  · rename_i z
    have hμ := (Option.some.inj hf).symm
    have w3 : ∀ i, i ≠ q → μ'.1 i = S.2.1 i ∧ μ'.2.1 i = S.2.2.1 i ∧ μ'.2.2.1 i = S.2.2.2.1 i ∧ μ'.2.2.2 i = S.2.2.2.2 i := by
      intro i hi
      rw [hμ]
      exact ⟨pmU_ne _ _ hi, rfl, rfl, rfl⟩
    have hE : pmW ad cA (S.1, μ') = (pmW ad cA S).set q (ad q, .inl (cA 2, n, .inl (upd (S.2.1 q) j.toNatClampNeg (vp_nar .char z)))) := by
      rw [pmW_set (ad := ad) (cA := cA) (G := S.1) (μ := S.2) (μ' := μ') hq (fun i hi e => pmE_congr (w3 i hi).1 (w3 i hi).2.1 (w3 i hi).2.2.1 (w3 i hi).2.2.2 e), hμ]
      unfold pmE pmPay
      simp only [pmU_at]
      rfl
    refine va_cast hexec hb hK hr.1 hr.2.1 hr.2.2.1 q 2 (pmW_at hq) (pmTs_at (by decide)) hin hdg (fun H1 locs1 g1 g2 g3 => ?_)
    have g1 : va_P D pmCl ((pmW ad cA S).set q (ad q, .inl (cA 2, n, .inl (upd (S.2.1 q) j.toNatClampNeg (vp_nar .char z))))) H1 := g1
    have g2 : va_D A ((pmW ad cA S).set q (ad q, .inl (cA 2, n, .inl (upd (S.2.1 q) j.toNatClampNeg (vp_nar .char z))))) := g2
    rw [← hE] at g1 g2
    exact kk _ _ _ ⟨g1, g2, g3, hr.2.2.2⟩
  · cases hf
end PMS3
end
section
/-! PM: all steps in one row (written by wip/whole/gen_pmall.py) -/
section PMS4
variable {p : Program} {l : Launch} {e : Env} {R : Room} {s : State} {m : MethodId} {args : Array Value} {below : List Frame} {meth : Method} {c0 : Code} {H H0 : Heap} {locs : List Loc} {cells slots : Nat} {Q : State → Prop}
variable {cc : ByteArray} {ls : Array Slot} {A : Nat → Prop} {D : va_G} {nL : Nat} {ad : Nat → Nat} {cA : Nat → ClassId} {pc : Nat} {L : List (Option Value)} {S : pmS} {st rest : List Value}
theorem pm_step_ok {b n : Nat} {i : Instr} {x : Nat × Nat} {c' : pmC} {ps : List Prop} {own : String} {ini : Bool} (hdg : decode cc pc = .ok (i, pmIl i n)) (h : pmStep b i x (pc, L, st, S) = some (c', ps)) (hp : ∀ P ∈ ps, P) (hws : ∀ w ∈ pmWs own i x, w.before args s = true) (hok : pmOk ini own i x = true) (hini : ini = true → meth.name = "<init>") (hown : s.vm.findClass own = some m.cls) (hK : va_K D pmCl (pmTs cA) s) (hexec : p.tables.exec = Jvm.exec) (hb : c0.code = cc) (hr : pmRel D A H0 nL ad cA (pc, L, st, S) H locs ls) (kk : pmKk p l e R s m args below meth c0 cells slots Q D A H0 nL ad cA c') : W p l e R s m args below meth c0 H locs cells slots Q (F0 m pc ls (st.map (pmRe ad))) := by
  unfold pmStep at h
  split at h
  · exact pms_aload_n hdg h hexec hb hr kk
  · exact pms_aload hdg h hexec hb hr kk
  · exact pms_iload_n hdg h hexec hb hr kk
  · exact pms_iload hdg h hexec hb hr kk
  · exact pms_lload_n hdg h hexec hb hr kk
  · exact pms_lload hdg h hexec hb hr kk
  · exact pms_fload_n hdg h hexec hb hr kk
  · exact pms_fload hdg h hexec hb hr kk
  · exact pms_dload_n hdg h hexec hb hr kk
  · exact pms_dload hdg h hexec hb hr kk
  · exact pms_astore_n hdg h hexec hb hr kk
  · exact pms_astore hdg h hexec hb hr kk
  · exact pms_istore_n hdg h hexec hb hr kk
  · exact pms_istore hdg h hexec hb hr kk
  · exact pms_lstore_n hdg h hexec hb hr kk
  · exact pms_lstore hdg h hexec hb hr kk
  · exact pms_fstore_n hdg h hexec hb hr kk
  · exact pms_fstore hdg h hexec hb hr kk
  · exact pms_dstore_n hdg h hexec hb hr kk
  · exact pms_dstore hdg h hexec hb hr kk
  · exact pms_iinc hdg h hexec hb hr kk
  · exact pms_iconst hdg h hexec hb hr kk
  · exact pms_bipush hdg h hexec hb hr kk
  · exact pms_sipush hdg h hexec hb hr kk
  · exact pms_lconst hdg h hexec hb hr kk
  · exact pms_fconst hdg h hexec hb hr kk
  · exact pms_dconst hdg h hexec hb hr kk
  · exact pms_iadd hdg h hexec hb hr kk
  · exact pms_isub hdg h hexec hb hr kk
  · exact pms_imul hdg h hexec hb hr kk
  · exact pms_iand hdg h hexec hb hr kk
  · exact pms_ior hdg h hexec hb hr kk
  · exact pms_ixor hdg h hexec hb hr kk
  · exact pms_ineg hdg h hexec hb hr kk
  · exact pms_ishl hdg h hexec hb hr kk
  · exact pms_ishr hdg h hexec hb hr kk
  · exact pms_iushr hdg h hexec hb hr kk
  · exact pms_idiv hdg h hp hexec hb hr kk
  · exact pms_irem hdg h hp hexec hb hr kk
  · exact pms_ladd hdg h hexec hb hr kk
  · exact pms_lsub hdg h hexec hb hr kk
  · exact pms_ldiv hdg h hp hexec hb hr kk
  · exact pms_land hdg h hexec hb hr kk
  · exact pms_lor hdg h hexec hb hr kk
  · exact pms_lxor hdg h hexec hb hr kk
  · exact pms_lcmp hdg h hexec hb hr kk
  · exact pms_lshl hdg h hexec hb hr kk
  · exact pms_lushr hdg h hexec hb hr kk
  · exact pms_i2l hdg h hexec hb hr kk
  · exact pms_l2i hdg h hexec hb hr kk
  · exact pms_i2c hdg h hexec hb hr kk
  · exact pms_i2f hdg h hexec hb hr kk
  · exact pms_i2d hdg h hexec hb hr kk
  · exact pms_f2d hdg h hp hexec hb hr kk
  · exact pms_f2i hdg h hp hexec hb hr kk
  · exact pms_d2l hdg h hexec hb hr kk
  · exact pms_fdiv hdg h hp hexec hb hr kk
  · exact pms_fmul hdg h hp hexec hb hr kk
  · exact pms_fsub hdg h hp hexec hb hr kk
  · exact pms_fcmp hdg h hp hexec hb hr kk
  · exact pms_ddiv hdg h hp hexec hb hr kk
  · exact pms_dmul hdg h hp hexec hb hr kk
  · exact pms_dsub hdg h hp hexec hb hr kk
  · exact pms_dcmp hdg h hp hexec hb hr kk
  · exact pms_if hdg h hp hexec hb hr kk
  · exact pms_ic hdg h hp hexec hb hr kk
  · exact pms_ifnull hdg h hexec hb hr kk
  · exact pms_ifnonnull hdg h hexec hb hr kk
  · exact pms_goto hdg h hexec hb hr kk
  · exact pms_tableswitch hdg h hp hexec hb hr kk
  · exact pms_lookupswitch hdg h hp hexec hb hr kk
  · exact pms_dup hdg h hexec hb hr kk
  · exact pms_dup2 hdg h hexec hb hr kk
  · exact pms_pop hdg h hexec hb hr kk
  · exact pms_getfield hdg h hws hok hown hK hexec hb hr kk
  · exact pms_putfield hdg h hws hok hini hown hK hexec hb hr kk
  · exact pms_arraylength hdg h hK hexec hb hr kk
  · exact pms_iaload hdg h hp hK hexec hb hr kk
  · exact pms_baload hdg h hp hK hexec hb hr kk
  · exact pms_caload hdg h hp hK hexec hb hr kk
  · exact pms_aaload hdg h hp hK hexec hb hr kk
  · exact pms_iastore hdg h hp hK hexec hb hr kk
  · exact pms_bastore hdg h hp hK hexec hb hr kk
  · exact pms_castore hdg h hp hK hexec hb hr kk
  · cases h
end PMS4
end
section
/-! PM: references stay valid: each is a place of the shape, or one of the given things outside (from 90000 on) -/
def pmVv (n : Nat) (v : Value) : Prop := match v with | .ref i => i < n ∨ 90000 ≤ i | _ => True
def pmVm (n : Nat) (μ : pmM) : Prop := ∀ (i k q : Nat), μ.2.2.1 i k = some q → q < n ∨ 90000 ≤ q
def pmVl (n : Nat) (L : List (Option Value)) : Prop := ∀ (k : Nat) (v : Value), L[k]? = some (some v) → pmVv n v
def pmVd (c : pmC) : Prop := pmVl c.2.2.2.1.length c.2.1 ∧ (∀ v ∈ c.2.2.1, pmVv c.2.2.2.1.length v) ∧ pmVm c.2.2.2.1.length c.2.2.2.2
theorem pmVl_set {n : Nat} {L : List (Option Value)} {k : Nat} {v : Value} (h : pmVl n L) (hv : pmVv n v) : pmVl n (pmSet L k v) := by
  intro i w hi
  rw [pmSet_eq] at hi
  have cut : ∀ {i : Nat} {w : Value}, ((pmCut L k).set k (some v))[i]? = some (some w) → pmVv n w := by
    intro i w hi
    rw [List.getElem?_set] at hi
    split at hi
    · split at hi
      · cases hi; exact hv
      · cases hi
    · exact h _ _ (pmCut_at hi).1
  split at hi
  · rw [List.getElem?_set] at hi
    split at hi
    · split at hi <;> cases hi
    · exact cut hi
  · exact cut hi
theorem pmVv_rf {n : Nat} {μ : pmM} (h : pmVm n μ) (i k : Nat) : pmVv n (va_rf (μ.2.2.1 i k)) := by
  cases hq : μ.2.2.1 i k with
  | none => trivial
  | some q => exact h i k q hq
theorem pmVv_rd {n : Nat} {μ : pmM} (h : pmVm n μ) (t : FieldType) (i k : Nat) : pmVv n (pmRd t μ i k) := by
  unfold pmRd
  split
  · trivial
  · trivial
  · exact pmVv_rf h i k
  · exact pmVv_rf h i k
  · trivial
theorem pmVm_wr {n : Nat} {t : FieldType} {v : Value} {μ μ' : pmM} {q k : Nat} (h : pmVm n μ) (hv : pmVv n v) (hw : pmWr t v μ q k = some μ') : pmVm n μ' := by
  have up : ∀ z : Nat, (z < n ∨ 90000 ≤ z) → ∀ i j w, pmU μ.2.2.1 q k (some z) i j = some w → w < n ∨ 90000 ≤ w := by
    intro z hz i j w hw
    unfold pmU at hw
    split at hw
    · split at hw
      · cases hw; exact hz
      · exact h _ _ _ hw
    · exact h _ _ _ hw
  unfold pmWr at hw
  split at hw
  · split at hw
    · cases hw; exact h
    · cases hw
  · split at hw
    · cases hw; exact h
    · cases hw
  · split at hw
    · split at hw
      · cases hw; exact h
      · cases hw
    · cases hw
  · split at hw
    · split at hw
      · cases hw; exact h
      · cases hw
    · cases hw
  · split at hw
    · cases hw; exact up _ hv
    · cases hw
  · split at hw
    · cases hw; exact up _ hv
    · cases hw
  · cases hw
section PMV
variable {pc : Nat} {L : List (Option Value)} {S : pmS} {st : List Value} {c' : pmC} {ps : List Prop}
/-- the stack's top is another value -/
theorem pmVd.push {pc' : Nat} {v : Value} {r : List Value} (h : pmVd (pc, L, st, S)) (hr : ∀ w ∈ r, w ∈ st) (hv : pmVv S.1.length v) : pmVd (pc', L, v :: r, S) :=
  ⟨h.1, fun w hw => by rcases List.mem_cons.mp hw with rfl | hw; exact hv; exact h.2.1 w (hr w hw), h.2.2⟩
theorem pmVd.pops {pc' : Nat} {r : List Value} (h : pmVd (pc, L, st, S)) (hr : ∀ w ∈ r, w ∈ st) : pmVd (pc', L, r, S) := ⟨h.1, fun w hw => h.2.1 w (hr w hw), h.2.2⟩
theorem pm_in1 {a : Value} {r : List Value} : ∀ w ∈ r, w ∈ a :: r := fun _ h => List.mem_cons_of_mem _ h
theorem pm_in2 {a b : Value} {r : List Value} : ∀ w ∈ r, w ∈ a :: b :: r := fun _ h => List.mem_cons_of_mem _ (List.mem_cons_of_mem _ h)
theorem pm_in3 {a b c : Value} {r : List Value} : ∀ w ∈ r, w ∈ a :: b :: c :: r := fun _ h => List.mem_cons_of_mem _ (List.mem_cons_of_mem _ (List.mem_cons_of_mem _ h))
theorem vd_Ld {n k t : Nat} (hv : pmVd (pc, L, st, S)) (h : pmLd n k t (pc, L, st, S) = some (c', ps)) : pmVd c' ∧ c'.2.2.2.1 = S.1 := by
  obtain ⟨v, h1, -, rfl⟩ := pmLd_inv h
  exact ⟨hv.push (fun _ h => h) (hv.1 _ _ h1), rfl⟩
theorem vd_St {n k t : Nat} (hv : pmVd (pc, L, st, S)) (h : pmSt n k t (pc, L, st, S) = some (c', ps)) : pmVd c' ∧ c'.2.2.2.1 = S.1 := by
  obtain ⟨v, r, rfl, -, -, rfl⟩ := pmSt_inv h
  exact ⟨⟨pmVl_set hv.1 (hv.2.1 _ List.mem_cons_self), fun w hw => hv.2.1 w (List.mem_cons_of_mem _ hw), hv.2.2⟩, rfl⟩
theorem vd_Inc {n k : Nat} {d : Int} (hv : pmVd (pc, L, st, S)) (h : pmInc n k d (pc, L, st, S) = some (c', ps)) : pmVd c' ∧ c'.2.2.2.1 = S.1 := by
  unfold pmInc at h
  split at h
  · cases h
    exact ⟨⟨pmVl_set (v := .int _) hv.1 trivial, hv.2.1, hv.2.2⟩, rfl⟩
  · cases h
theorem vd_Push {n : Nat} {v : Value} (hv : pmVd (pc, L, st, S)) (h : pmPush n v (pc, L, st, S) = some (c', ps)) (h9 : pmVv S.1.length v) : pmVd c' ∧ c'.2.2.2.1 = S.1 := by
  cases h
  exact ⟨hv.push (fun _ h => h) h9, rfl⟩
theorem vd_Tgt {off : Int} {st' : List Value} {P : List Prop} (hv : pmVd (pc, L, st, S)) (hs : ∀ w ∈ st', w ∈ st) (h : pmTgt (pc, L, st, S) off st' P = some (c', ps)) : pmVd c' ∧ c'.2.2.2.1 = S.1 := by
  obtain ⟨tgt, -, rfl, -⟩ := pmTgt_inv h
  exact ⟨hv.pops hs, rfl⟩
theorem vd_Br {b : Nat} {off : Int} {n : Nat} {st' : List Value} {P : Prop} (hv : pmVd (pc, L, st, S)) (hs : ∀ w ∈ st', w ∈ st) (h : pmBr b off n (pc, L, st, S) st' P = some (c', ps)) : pmVd c' ∧ c'.2.2.2.1 = S.1 := by
  unfold pmBr at h
  split at h
  · split at h
    · cases h; exact ⟨hv.pops hs, rfl⟩
    · cases h; exact ⟨hv.pops hs, rfl⟩
  · cases h
theorem vd_I1 {n : Nat} {f : Int32 → Value} (hv : pmVd (pc, L, st, S)) (h : pmI1 n f (pc, L, st, S) = some (c', ps)) (hf : ∀ x, pmVv S.1.length (f x)) : pmVd c' ∧ c'.2.2.2.1 = S.1 := by
  obtain ⟨x, r, rfl, rfl⟩ := pmI1_inv h
  exact ⟨hv.push pm_in1 (hf x), rfl⟩
theorem vd_I2 {n : Nat} {f : Int32 → Int32 → Value} (hv : pmVd (pc, L, st, S)) (h : pmI2 n f (pc, L, st, S) = some (c', ps)) (hf : ∀ x y, pmVv S.1.length (f x y)) : pmVd c' ∧ c'.2.2.2.1 = S.1 := by
  obtain ⟨x, y, r, rfl, rfl⟩ := pmI2_inv h
  exact ⟨hv.push pm_in2 (hf x y), rfl⟩
theorem vd_J1 {n : Nat} {f : Int64 → Value} (hv : pmVd (pc, L, st, S)) (h : pmJ1 n f (pc, L, st, S) = some (c', ps)) (hf : ∀ x, pmVv S.1.length (f x)) : pmVd c' ∧ c'.2.2.2.1 = S.1 := by
  obtain ⟨x, r, rfl, rfl⟩ := pmJ1_inv h
  exact ⟨hv.push pm_in1 (hf x), rfl⟩
theorem vd_J2 {n : Nat} {f : Int64 → Int64 → Value} (hv : pmVd (pc, L, st, S)) (h : pmJ2 n f (pc, L, st, S) = some (c', ps)) (hf : ∀ x y, pmVv S.1.length (f x y)) : pmVd c' ∧ c'.2.2.2.1 = S.1 := by
  obtain ⟨x, y, r, rfl, rfl⟩ := pmJ2_inv h
  exact ⟨hv.push pm_in2 (hf x y), rfl⟩
theorem vd_JI {n : Nat} {f : Int64 → Int32 → Value} (hv : pmVd (pc, L, st, S)) (h : pmJI n f (pc, L, st, S) = some (c', ps)) (hf : ∀ x y, pmVv S.1.length (f x y)) : pmVd c' ∧ c'.2.2.2.1 = S.1 := by
  obtain ⟨x, y, r, rfl, rfl⟩ := pmJI_inv h
  exact ⟨hv.push pm_in2 (hf x y), rfl⟩
theorem vd_D1 {n : Nat} {f : UInt64 → Value} (hv : pmVd (pc, L, st, S)) (h : pmD1 n f (pc, L, st, S) = some (c', ps)) (hf : ∀ x, pmVv S.1.length (f x)) : pmVd c' ∧ c'.2.2.2.1 = S.1 := by
  obtain ⟨x, r, rfl, rfl⟩ := pmD1_inv h
  exact ⟨hv.push pm_in1 (hf x), rfl⟩
theorem vd_I2p {n : Nat} {f : Int32 → Int32 → Value} (hv : pmVd (pc, L, st, S)) (hp : ∀ P ∈ ps, P) (h : pmI2p n f (pc, L, st, S) = some (c', ps)) (hf : ∀ x y, pmVv S.1.length (f x y)) : pmVd c' ∧ c'.2.2.2.1 = S.1 := by
  obtain ⟨x, y, r, rfl, rfl, -⟩ := pmI2p_inv h hp
  exact ⟨hv.push pm_in2 (hf x y), rfl⟩
theorem vd_J2p {n : Nat} {f : Int64 → Int64 → Value} (hv : pmVd (pc, L, st, S)) (hp : ∀ P ∈ ps, P) (h : pmJ2p n f (pc, L, st, S) = some (c', ps)) (hf : ∀ x y, pmVv S.1.length (f x y)) : pmVd c' ∧ c'.2.2.2.1 = S.1 := by
  obtain ⟨x, y, r, rfl, rfl, -⟩ := pmJ2p_inv h hp
  exact ⟨hv.push pm_in2 (hf x y), rfl⟩
theorem vd_F1 {n : Nat} {f : UInt32 → Value} {P : UInt32 → List Prop} (hv : pmVd (pc, L, st, S)) (hp : ∀ P ∈ ps, P) (h : pmF1 n f P (pc, L, st, S) = some (c', ps)) (hf : ∀ x, pmVv S.1.length (f x)) : pmVd c' ∧ c'.2.2.2.1 = S.1 := by
  obtain ⟨x, r, rfl, rfl, -⟩ := pmF1_inv h hp
  exact ⟨hv.push pm_in1 (hf x), rfl⟩
theorem vd_F2 {n : Nat} {f : UInt32 → UInt32 → Value} {P : UInt32 → UInt32 → List Prop} (hv : pmVd (pc, L, st, S)) (hp : ∀ P ∈ ps, P) (h : pmF2 n f P (pc, L, st, S) = some (c', ps)) (hf : ∀ x y, pmVv S.1.length (f x y)) : pmVd c' ∧ c'.2.2.2.1 = S.1 := by
  obtain ⟨x, y, r, rfl, rfl, -⟩ := pmF2_inv h hp
  exact ⟨hv.push pm_in2 (hf x y), rfl⟩
theorem vd_D2 {n : Nat} {f : UInt64 → UInt64 → Value} {P : UInt64 → UInt64 → List Prop} (hv : pmVd (pc, L, st, S)) (hp : ∀ P ∈ ps, P) (h : pmD2 n f P (pc, L, st, S) = some (c', ps)) (hf : ∀ x y, pmVv S.1.length (f x y)) : pmVd c' ∧ c'.2.2.2.1 = S.1 := by
  obtain ⟨x, y, r, rfl, rfl, -⟩ := pmD2_inv h hp
  exact ⟨hv.push pm_in2 (hf x y), rfl⟩
theorem vd_Ald {t : Nat} {f : Nat → Int32 → Value} (hv : pmVd (pc, L, st, S)) (hp : ∀ P ∈ ps, P) (h : pmAld t f (pc, L, st, S) = some (c', ps)) (hf : ∀ q j, pmVv S.1.length (f q j)) : pmVd c' ∧ c'.2.2.2.1 = S.1 := by
  obtain ⟨j, q, r, n, rfl, -, -, rfl⟩ := pmAld_inv h hp
  exact ⟨hv.push pm_in2 (hf q j), rfl⟩
theorem vd_Ast {t : Nat} {f : Nat → Int32 → Value → Option pmM} (hv : pmVd (pc, L, st, S)) (hp : ∀ P ∈ ps, P) (h : pmAst t f (pc, L, st, S) = some (c', ps)) (hf : ∀ q j v μ', f q j v = some μ' → μ'.2.2.1 = S.2.2.2.1) : pmVd c' ∧ c'.2.2.2.1 = S.1 := by
  obtain ⟨v, j, q, r, n, μ', rfl, -, -, h9, rfl⟩ := pmAst_inv h hp
  refine ⟨⟨hv.1, fun w hw => hv.2.1 w (pm_in3 w hw), ?_⟩, rfl⟩
  intro i k z hz
  rw [show (_, _, _, _, μ').2.2.2.2 = μ' from rfl, hf _ _ _ _ h9] at hz
  exact hv.2.2 i k z hz
theorem pm_step_vd {b : Nat} {i : Instr} {x : Nat × Nat} (h : pmStep b i x (pc, L, st, S) = some (c', ps)) (hp : ∀ P ∈ ps, P) (hv : pmVd (pc, L, st, S)) : pmVd c' ∧ c'.2.2.2.1 = S.1 := by
  unfold pmStep at h
  split at h
  · exact vd_Ld hv h
  · exact vd_Ld hv h
  · exact vd_Ld hv h
  · exact vd_Ld hv h
  · exact vd_Ld hv h
  · exact vd_Ld hv h
  · exact vd_Ld hv h
  · exact vd_Ld hv h
  · exact vd_Ld hv h
  · exact vd_Ld hv h
  · exact vd_St hv h
  · exact vd_St hv h
  · exact vd_St hv h
  · exact vd_St hv h
  · exact vd_St hv h
  · exact vd_St hv h
  · exact vd_St hv h
  · exact vd_St hv h
  · exact vd_St hv h
  · exact vd_St hv h
  · exact vd_Inc hv h
  · exact vd_Push hv h trivial
  · exact vd_Push hv h trivial
  · exact vd_Push hv h trivial
  · exact vd_Push hv h trivial
  · exact (by split at h; exact vd_Push hv h trivial; split at h; exact vd_Push hv h trivial; exact vd_Push hv h trivial)
  · exact (by split at h; exact vd_Push hv h trivial; exact vd_Push hv h trivial)
  · exact vd_I2 hv h (fun _ _ => trivial)
  · exact vd_I2 hv h (fun _ _ => trivial)
  · exact vd_I2 hv h (fun _ _ => trivial)
  · exact vd_I2 hv h (fun _ _ => trivial)
  · exact vd_I2 hv h (fun _ _ => trivial)
  · exact vd_I2 hv h (fun _ _ => trivial)
  · exact vd_I1 hv h (fun _ => trivial)
  · exact vd_I2 hv h (fun _ _ => trivial)
  · exact vd_I2 hv h (fun _ _ => trivial)
  · exact vd_I2 hv h (fun _ _ => trivial)
  · exact vd_I2p hv hp h (fun _ _ => trivial)
  · exact vd_I2p hv hp h (fun _ _ => trivial)
  · exact vd_J2 hv h (fun _ _ => trivial)
  · exact vd_J2 hv h (fun _ _ => trivial)
  · exact vd_J2p hv hp h (fun _ _ => trivial)
  · exact vd_J2 hv h (fun _ _ => trivial)
  · exact vd_J2 hv h (fun _ _ => trivial)
  · exact vd_J2 hv h (fun _ _ => trivial)
  · exact vd_J2 hv h (fun _ _ => trivial)
  · exact vd_JI hv h (fun _ _ => trivial)
  · exact vd_JI hv h (fun _ _ => trivial)
  · exact vd_I1 hv h (fun _ => trivial)
  · exact vd_J1 hv h (fun _ => trivial)
  · exact vd_I1 hv h (fun _ => trivial)
  · exact vd_I1 hv h (fun _ => trivial)
  · exact vd_I1 hv h (fun _ => trivial)
  · exact vd_F1 hv hp h (fun _ => trivial)
  · exact vd_F1 hv hp h (fun _ => trivial)
  · exact vd_D1 hv h (fun _ => trivial)
  · exact vd_F2 hv hp h (fun _ _ => trivial)
  · exact vd_F2 hv hp h (fun _ _ => trivial)
  · exact vd_F2 hv hp h (fun _ _ => trivial)
  · exact vd_F2 hv hp h (fun _ _ => trivial)
  · exact vd_D2 hv hp h (fun _ _ => trivial)
  · exact vd_D2 hv hp h (fun _ _ => trivial)
  · exact vd_D2 hv hp h (fun _ _ => trivial)
  · exact vd_D2 hv hp h (fun _ _ => trivial)
  · unfold pmIf at h
    split at h
    · rename_i hs
      dsimp only at hs
      subst hs
      exact vd_Br hv pm_in1 h
    · cases h
  · unfold pmIc at h
    split at h
    · rename_i hs
      dsimp only at hs
      subst hs
      exact vd_Br hv pm_in2 h
    · cases h
  · unfold pmNu at h
    split at h
    · rename_i hs
      dsimp only at hs
      subst hs
      (cases h; exact ⟨hv.pops pm_in1, rfl⟩)
    · rename_i hs
      dsimp only at hs
      subst hs
      exact vd_Tgt hv pm_in1 h
    · cases h
  · unfold pmNn at h
    split at h
    · rename_i hs
      dsimp only at hs
      subst hs
      exact vd_Tgt hv pm_in1 h
    · rename_i hs
      dsimp only at hs
      subst hs
      (cases h; exact ⟨hv.pops pm_in1, rfl⟩)
    · cases h
  · exact vd_Tgt hv (fun _ h => h) h
  · unfold pmTb at h
    split at h
    · rename_i hs
      dsimp only at hs
      subst hs
      split at h
      · split at h
        · exact vd_Tgt hv pm_in1 h
        · cases h
      · exact vd_Tgt hv pm_in1 h
    · cases h
  · unfold pmLk at h
    split at h
    · rename_i hs
      dsimp only at hs
      subst hs
      split at h
      · split at h
        · exact vd_Tgt hv pm_in1 h
        · exact vd_Tgt hv pm_in1 h
      · cases h
    · cases h
  · unfold pmDup at h
    split at h
    · rename_i hs
      dsimp only at hs
      subst hs
      split at h
      · cases h
        exact ⟨hv.push (fun _ h => h) (hv.2.1 _ List.mem_cons_self), rfl⟩
      · cases h
    · cases h
  · unfold pmDup2 at h
    split at h
    · rename_i v w r hs
      dsimp only at hs
      subst hs
      split at h
      · cases h
        refine ⟨⟨hv.1, fun z hz => hv.2.1 z ?_, hv.2.2⟩, rfl⟩
        rcases List.mem_cons.mp hz with rfl | hz
        · exact List.mem_cons_self
        · rcases List.mem_cons.mp hz with rfl | hz
          · exact List.mem_cons_of_mem _ List.mem_cons_self
          · exact hz
      · cases h
    · cases h
  · unfold pmPop at h
    split at h
    · rename_i hs
      dsimp only at hs
      subst hs
      split at h
      · cases h
        exact ⟨hv.pops pm_in1, rfl⟩
      · cases h
    · cases h
  · unfold pmGet at h
    split at h
    · rename_i hs
      dsimp only at hs
      subst hs
      split at h
      · split at h
        · cases h
          exact ⟨hv.push pm_in1 (pmVv_rd hv.2.2 _ _ _), rfl⟩
        · cases h
      · cases h
    · cases h
  · unfold pmPut at h
    split at h
    · rename_i hs
      dsimp only at hs
      subst hs
      split at h
      · split at h
        · split at h
          · rename_i μ' hw
            cases h
            exact ⟨⟨hv.1, fun w hw => hv.2.1 w (pm_in2 w hw), pmVm_wr hv.2.2 (hv.2.1 _ List.mem_cons_self) hw⟩, rfl⟩
          · cases h
        · cases h
      · cases h
    · cases h
  · unfold pmLen at h
    split at h
    · rename_i hs
      dsimp only at hs
      subst hs
      split at h
      · split at h
        · cases h
          exact ⟨hv.push pm_in1 trivial, rfl⟩
        · cases h
      · cases h
    · cases h
  · exact vd_Ald hv hp h (fun _ _ => trivial)
  · exact vd_Ald hv hp h (fun _ _ => trivial)
  · exact vd_Ald hv hp h (fun _ _ => trivial)
  · exact vd_Ald hv hp h (fun q j => pmVv_rf hv.2.2 q _)
  · exact vd_Ast hv hp h (fun q j v μ' h9 => by unfold pmIst at h9; split at h9; (cases h9; rfl); cases h9)
  · exact vd_Ast hv hp h (fun q j v μ' h9 => by unfold pmBst at h9; split at h9; (cases h9; rfl); cases h9)
  · exact vd_Ast hv hp h (fun q j v μ' h9 => by unfold pmCst at h9; split at h9; (cases h9; rfl); cases h9)
  · cases h
end PMV
end
section
/-! PM: what stands outside (constants, Strings, the script), calls, makes, throws; runs -/
/-- the script's length and ints, and what a static of the JDK's holds (null or a reference) -/
abbrev pmEv0 : Type := Nat × (Nat → Int32) × Option Nat
/-- the letters of the class's one static array -/
def pmLt (j : Nat) : Int32 := match j with | 0 => 85 | 1 => 68 | 2 => 76 | 3 => 82 | _ => 83
/-- String constants: class, entry of its pool, text, bytes -/
def pmSt0 : List (String × Nat × String × List Int32) := [("StageBalletLaw", 142, "UDLRS", [85, 68, 76, 82, 83]),
  ("StageBalletLaw", 165, "UDLRSX", [85, 68, 76, 82, 83, 88]),
  ("StageBalletLaw", 182, "figure ", [102, 105, 103, 117, 114, 101, 32]),
  ("StageBalletLaw", 191, ":URL;perform ", [58, 85, 82, 76, 59, 112, 101, 114, 102, 111, 114, 109, 32]),
  ("StageBalletLaw", 193, " ", [32]),
  ("StageBalletLaw", 199, "walk ", [119, 97, 108, 107, 32]),
  ("StageBalletLaw", 201, ">", [62]),
  ("StageBalletLaw", 203, ";nails ", [59, 110, 97, 105, 108, 115, 32]),
  ("StageBalletLaw", 205, "prop ", [112, 114, 111, 112, 32]),
  ("StageBalletLaw", 207, ";dancer ", [59, 100, 97, 110, 99, 101, 114, 32]),
  ("StageBalletLaw", 209, "*", [42]),
  ("StageBalletLaw", 211, "exit ", [101, 120, 105, 116, 32]),
  ("StageBalletLaw", 213, ";perform ", [59, 112, 101, 114, 102, 111, 114, 109, 32]),
  ("StageBallet$Program", 104, "prop ", [112, 114, 111, 112, 32]),
  ("StageBallet$Program", 106, "dancer ", [100, 97, 110, 99, 101, 114, 32]),
  ("StageBallet$Program", 108, "pair ", [112, 97, 105, 114, 32]),
  ("StageBallet$Program", 110, "figure ", [102, 105, 103, 117, 114, 101, 32]),
  ("StageBallet$Program", 112, "perform ", [112, 101, 114, 102, 111, 114, 109, 32]),
  ("StageBallet$Program", 114, "walk ", [119, 97, 108, 107, 32]),
  ("StageBallet$Program", 116, "exit ", [101, 120, 105, 116, 32]),
  ("StageBallet$Program", 118, "nails ", [110, 97, 105, 108, 115, 32]),
  ("StageBallet$Program", 120, "leave", [108, 101, 97, 118, 101]),
  ("StageBallet$Program", 122, "dd", [100, 100]),
  ("StageBallet$Program", 124, "dd*n", [100, 100, 42, 110]),
  ("StageBallet$Program", 126, "n&n", [110, 38, 110]),
  ("StageBallet$Program", 128, "d:m", [100, 58, 109]),
  ("StageBallet$Program", 130, "d n", [100, 32, 110]),
  ("StageBallet$Program", 132, "n>dd", [110, 62, 100, 100]),
  ("StageBallet$Program", 134, "n", [110]),
  ("StageBallet$Program", 136, "", [])]
def pmStB (k : Nat) : List Int32 := match pmSt0[k]? with | some q => q.2.2.2 | none => []
/-- steps on what stands outside: places 99998 the script, 99999 the letters, 100000+k a String, 200000+k its bytes -/
def pmXs (E : pmEv0) (i : Instr) (x : Nat × Nat) (c : pmC) : pmQ := match i with
  | .getstatic _ => if x.1 = 20 then pmPush 3 (.ref 99999) c else if x.1 = 21 then pmPush 3 (.int 1) c else if x.1 = 22 then pmPush 3 (va_rf E.2.2) c else none
  | .ldc _ => if x.1 = 30 then (if x.2 < pmSt0.length then pmPush 2 (.ref (100000 + x.2)) c else none) else if x.1 = 31 then pmPush 2 (.int (Int32.ofNat x.2)) c else none
  | .ldc_w _ => if x.1 = 30 then (if x.2 < pmSt0.length then pmPush 3 (.ref (100000 + x.2)) c else none) else if x.1 = 31 then pmPush 3 (.int (Int32.ofNat x.2)) c else if x.1 = 32 then pmPush 3 (.float (UInt32.ofNat x.2)) c else none
  | .ldc2_w _ => if x.1 = 33 then pmPush 3 (.long (Int64.ofNat x.2)) c else if x.1 = 34 then pmPush 3 (.double (UInt64.ofNat x.2)) c else none
  | .getfield _ => match c.2.2.1 with
    | .ref q :: r => if 100000 ≤ q ∧ q - 100000 < pmSt0.length then
        (if x.1 = 40 then some (pmNx c 3 (.ref (q + 100000) :: r), []) else if x.1 = 41 then some (pmNx c 3 (.int 0 :: r), []) else none) else none
    | _ => none
  | .arraylength => match c.2.2.1 with
    | .ref q :: r => if q = 99998 then some (pmNx c 1 (.int (Int32.ofNat E.1) :: r), []) else if q = 99999 then some (pmNx c 1 (.int 5 :: r), []) else
        if 200000 ≤ q ∧ q - 200000 < pmSt0.length then some (pmNx c 1 (.int (Int32.ofNat (pmStB (q - 200000)).length) :: r), []) else none
    | _ => none
  | .iaload => match c.2.2.1 with
    | .int j :: .ref q :: r => if q = 99998 then some (pmNx c 1 (.int (E.2.1 j.toNatClampNeg) :: r), [vp_in j E.1]) else none
    | _ => none
  | .caload => match c.2.2.1 with
    | .int j :: .ref q :: r => if q = 99999 then some (pmNx c 1 (.int (pmLt j.toNatClampNeg) :: r), [vp_in j 5]) else none
    | _ => none
  | .baload => match c.2.2.1 with
    | .int j :: .ref q :: r => if 200000 ≤ q ∧ q - 200000 < pmSt0.length then some (pmNx c 1 (.int ((pmStB (q - 200000)).getD j.toNatClampNeg 0) :: r), [vp_in j (pmStB (q - 200000)).length]) else none
    | _ => none
  | .invokestatic _ => match c.2.2.1 with
    | .int n :: .int dp :: .ref q :: .int sp :: .ref q0 :: r => if x.1 = 50 then
        match c.2.2.2.1[q0]?, c.2.2.2.1[q]? with
        | some (.inr a0), some (.inr a) => if a0.1 = 0 ∧ a.1 = 0 ∧ (r.map fun v => v.category).sum ≤ 8 then
            some ((c.1 + 3, c.2.1, r, c.2.2.2.1, (fun i => if i = q then va_cpy (c.2.2.2.2.1 q0) (c.2.2.2.2.1 q) sp.toNatClampNeg dp.toNatClampNeg n.toNatClampNeg else c.2.2.2.2.1 i), c.2.2.2.2.2),
              [¬ sp < 0, ¬ dp < 0, ¬ n < 0, sp.toNatClampNeg + n.toNatClampNeg ≤ a0.2, dp.toNatClampNeg + n.toNatClampNeg ≤ a.2]) else none
        | _, _ => none
      else none
    | .double b :: r => if x.1 = 51 ∧ (r.map fun v => v.category).sum ≤ 8 then some (pmNx c 3 (.long b.toInt64 :: r), []) else none
    | .float b :: r => if x.1 = 52 ∧ (r.map fun v => v.category).sum ≤ 8 then some (pmNx c 3 (.int b.toInt32 :: r), []) else none
    | _ => none
  | .invokespecial _ => match c.2.2.1 with
    | .ref q :: r => if x.1 = 53 ∧ (r.map fun v => v.category).sum ≤ 8 then some (pmNx c 3 r, []) else none
    | _ => none
  | .aconst_null => pmPush 1 .null c
  | _ => none
/-- the digits' bytes (static rows of Integer): 99996 the ones, 99995 the tens -/
def pmDo (j : Nat) : Int32 := Int32.ofNat (48 + j % 10)
def pmDt (j : Nat) : Int32 := Int32.ofNat (48 + j / 10)
/-- steps on Strings that were made, rows of bytes, the digits -/
def pmXt (i : Instr) (x : Nat × Nat) (c : pmC) : pmQ := match i with
  | .getstatic _ => if x.1 = 23 then pmPush 3 (.ref 99996) c else if x.1 = 24 then pmPush 3 (.ref 99995) c else none
  | .getfield _ => match c.2.2.1 with
    | .ref q :: r => match c.2.2.2.1[q]? with
      | some (.inl ci) => if ci = 9 then
          (if x.1 = 40 then some (pmNx c 3 (va_rf (c.2.2.2.2.2.2.1 q 0) :: r), []) else if x.1 = 41 then some (pmNx c 3 (.int (c.2.2.2.2.1 q 1) :: r), []) else none) else none
      | _ => none
    | _ => none
  | .baload => match c.2.2.1 with
    | .int j :: .ref q :: r => if q = 99996 then some (pmNx c 1 (.int (pmDo j.toNatClampNeg) :: r), [vp_in j 100]) else if q = 99995 then some (pmNx c 1 (.int (pmDt j.toNatClampNeg) :: r), [vp_in j 100]) else none
    | _ => none
  | .invokestatic _ => match c.2.2.1 with
    | .int n :: .int dp :: .ref q :: .int sp :: .ref q0 :: r => if x.1 = 50 then
        match c.2.2.2.1[q]? with
        | some (.inr a) => if a.1 = 1 ∧ (r.map fun v => v.category).sum ≤ 8 then
            (if 200000 ≤ q0 ∧ q0 - 200000 < pmSt0.length then
              some ((c.1 + 3, c.2.1, r, c.2.2.2.1, (fun i => if i = q then va_cpy (fun j => (pmStB (q0 - 200000)).getD j 0) (c.2.2.2.2.1 q) sp.toNatClampNeg dp.toNatClampNeg n.toNatClampNeg else c.2.2.2.2.1 i), c.2.2.2.2.2),
                [¬ sp < 0, ¬ dp < 0, ¬ n < 0, sp.toNatClampNeg + n.toNatClampNeg ≤ (pmStB (q0 - 200000)).length, dp.toNatClampNeg + n.toNatClampNeg ≤ a.2, ∀ i : Nat, i < n.toNatClampNeg → fits .byte (.int ((pmStB (q0 - 200000)).getD (sp.toNatClampNeg + i) 0)) = true])
            else match c.2.2.2.1[q0]? with
              | some (.inr a0) => if a0.1 = 1 then
                  some ((c.1 + 3, c.2.1, r, c.2.2.2.1, (fun i => if i = q then va_cpy (c.2.2.2.2.1 q0) (c.2.2.2.2.1 q) sp.toNatClampNeg dp.toNatClampNeg n.toNatClampNeg else c.2.2.2.2.1 i), c.2.2.2.2.2),
                    [¬ sp < 0, ¬ dp < 0, ¬ n < 0, sp.toNatClampNeg + n.toNatClampNeg ≤ a0.2, dp.toNatClampNeg + n.toNatClampNeg ≤ a.2, ∀ i : Nat, i < n.toNatClampNeg → fits .byte (.int (c.2.2.2.2.1 q0 (sp.toNatClampNeg + i))) = true]) else none
              | _ => none) else none
        | _ => none
      else none
    | _ => none
  | _ => none
def pmStp (E : pmEv0) (b : Nat) (i : Instr) (x : Nat × Nat) (c : pmC) : pmQ := match pmStep b i x c with
  | some r => some r
  | none => match pmXs E i x c with
    | some r => some r
    | none => pmXt i x c
/-- nothing stands yet in a new thing -/
def pmZ (q : Nat) (μ : pmM) : pmM := (fun i k => if i = q then 0 else μ.1 i k, fun i k => if i = q then 0 else μ.2.1 i k, fun i k => if i = q then none else μ.2.2.1 i k, fun i k => if i = q then 0 else μ.2.2.2 i k)
def pmMk (e : Nat ⊕ (Nat × Nat)) (n : Nat) (st : List Value) (c : pmC) : pmC := (c.1 + n, c.2.1, .ref c.2.2.2.1.length :: st, c.2.2.2.1 ++ [e], pmZ c.2.2.2.1.length c.2.2.2.2)
/-- makes; x: the class's number, or the array's kind -/
def pmAl (i : Instr) (x : Nat × Nat) (c : pmC) : Option (pmC × Nat × Nat) := if c.2.2.2.1.length < 90000 then match i with
  | .new _ => if x.1 = 60 ∧ x.2 < 11 then some (pmMk (.inl x.2) 3 c.2.2.1 c, 1, pmN x.2) else none
  | .newarray _ => match c.2.2.1 with
    | .int n :: r => if x.1 = 61 ∧ x.2 < 4 ∧ ¬ n < 0 ∧ n.toNatClampNeg ≤ 10000 then some (pmMk (.inr (x.2, n.toNatClampNeg)) 2 r c, 1, n.toNatClampNeg) else none
    | _ => none
  | .anewarray _ => match c.2.2.1 with
    | .int n :: r => if x.1 = 61 ∧ x.2 = 4 ∧ ¬ n < 0 ∧ n.toNatClampNeg ≤ 10000 then some (pmMk (.inr (4, n.toNatClampNeg)) 3 r c, 1, n.toNatClampNeg) else none
    | _ => none
  | _ => none
  else none
/-- a row of references gets one: only ours -/
def pmAas (i : Instr) (c : pmC) : pmQ := match i with
  | .aastore => match c.2.2.1 with
    | .ref v :: .int j :: .ref q :: r => match c.2.2.2.1[q]?, c.2.2.2.1[v]? with
      | some (.inr a), some (.inl ci) => if a.1 = 4 ∧ ci = 6 then some ((c.1 + 1, c.2.1, r, c.2.2.2.1, c.2.2.2.2.1, c.2.2.2.2.2.1, pmU c.2.2.2.2.2.2.1 q j.toNatClampNeg (some v), c.2.2.2.2.2.2.2), [vp_in j a.2]) else none
      | _, _ => none
    | _ => none
  | _ => none
/-- a method: name, bytes, locals, return type, handlers (start, end, handler, its type's entry, the exception's number), arguments (the receiver counted), code: pc to (instruction, length, what its entry means) -/
abbrev pmMe : Type := MethodName × ByteArray × Nat × Option FieldType × List (Nat × Nat × Nat × Nat × Nat) × Nat × (Nat → Option (Instr × Nat × Nat × Nat))
abbrev pmNm (m : pmMe) : MethodName := m.1
abbrev pmBy (m : pmMe) : ByteArray := m.2.1
abbrev pmMx (m : pmMe) : Nat := m.2.2.1
abbrev pmRt (m : pmMe) : Option FieldType := m.2.2.2.1
abbrev pmHd (m : pmMe) : List (Nat × Nat × Nat × Nat × Nat) := m.2.2.2.2.1
abbrev pmNa (m : pmMe) : Nat := m.2.2.2.2.2.1
abbrev pmCo (m : pmMe) : Nat → Option (Instr × Nat × Nat × Nat) := m.2.2.2.2.2.2
/-- a call's target: kinds 0 static, 1 static of a nest mate, 2 virtual, 3 virtual of a nest mate, 4 a constructor, 5 a nest mate's, 6 a static with handlers, 7 a superclass's constructor, 8 a superclass's method, 9 an inherited one (8, 9: on a StringBuilder) -/
def pmTg (i : Instr) (x : Nat × Nat) : Option Nat := match i with
  | .invokestatic _ => if x.1 = 0 ∨ x.1 = 1 ∨ x.1 = 6 then some x.2 else none
  | .invokevirtual _ => if x.1 = 2 ∨ x.1 = 3 ∨ x.1 = 9 then some x.2 else none
  | .invokespecial _ => if x.1 = 4 ∨ x.1 = 5 ∨ x.1 = 7 ∨ x.1 = 8 then some x.2 else none
  | _ => none
/-- a receiver: an object of the class of that name -/
def pmRv (S : pmS) (cls : String) (v : Value) : Prop := ∃ q, v = .ref q ∧ ((∃ c, S.1[q]? = some (.inl c) ∧ c < 11 ∧ pmCN c = cls) ∨ (100000 ≤ q ∧ q - 100000 < pmSt0.length ∧ cls = "java/lang/String"))
/-- .. of a call of kind k -/
def pmRk (cls : String) (k : Nat) (as : List Value) (S : pmS) : Prop := (2 ≤ k → k ≤ 5 → ∃ w, as[0]? = some w ∧ pmRv S cls w) ∧ (8 ≤ k → k ≤ 9 → ∃ w, as[0]? = some w ∧ pmRv S RJ4 w) ∧ (k = 7 → ∃ q : Nat, as[0]? = some (.ref q))
def pmArg (Pg : Nat → pmMe) (i : Instr) (x : Nat × Nat) (c : pmC) : Option (Nat × List Value × List Value) := match pmTg i x with
  | some t => if pmNa (Pg t) ≤ c.2.2.1.length ∧ ((c.2.2.1.drop (pmNa (Pg t))).map fun v => v.category).sum ≤ 8 then some (t, (c.2.2.1.take (pmNa (Pg t))).reverse, c.2.2.1.drop (pmNa (Pg t))) else none
  | none => none
/-- which handler takes the exception k thrown at pc -/
def pmCt (hd : List (Nat × Nat × Nat × Nat × Nat)) (pc k : Nat) : Option Nat := match hd with
  | [] => none
  | q :: r => if q.1 ≤ pc ∧ pc < q.2.1 ∧ q.2.2.2.2 = k then some q.2.2.1 else pmCt r pc k
/-- a handler stores the exception first -/
def pmHan (m : pmMe) (h : Nat) (L : List (Option Value)) (S : pmS) : Option pmC := match pmCo m h with
  | some (.astore_n k, _) => if k.val < L.length then some (h + 1, (pmCut L k.val).set k.val none, [], S) else none
  | some (.astore k, _) => if k < L.length then some (h + 2, (pmCut L k).set k none, [], S) else none
  | _ => none
def pmRet (rt : Option FieldType) (i : Instr) (st : List Value) : Option (Option Value × List Prop) := match i with
  | .return_ => match st with | [] => (match rt with | none => some (none, []) | _ => none) | _ => none
  | .ireturn => match st with
    | [.int v] => match rt with
      | some .int => some (some (.int v), [])
      | some .boolean => some (some (.int v), [v = 0 ∨ v = 1])
      | some .char => some (some (.int v), [vp_nar .char v = v])
      | some .byte => some (some (.int v), [v = 0])
      | _ => none
    | _ => none
  | .lreturn => match st with | [.long v] => (match rt with | some .long => some (some (.long v), []) | _ => none) | _ => none
  | .freturn => match st with | [.float v] => (match rt with | some .float => some (some (.float v), []) | _ => none) | _ => none
  | .dreturn => match st with | [.double v] => (match rt with | some .double => some (some (.double v), []) | _ => none) | _ => none
  | .areturn => match st with
    | [.ref v] => match rt with | some (.object _) => some (some (.ref v), []) | some (.array _) => some (some (.ref v), []) | _ => none
    | [.null] => match rt with | some (.object _) => some (some .null, []) | _ => none
    | _ => none
  | _ => none
/-- 'throw new E()' begins here: new, dup, the constructor, athrow -/
def pmThr (m : pmMe) (pc : Nat) (i : Instr) (x : Nat × Nat) : Option Nat := match i with
  | .new _ => if x.1 = 70 then match pmCo m (pc + 3), pmCo m (pc + 4), pmCo m (pc + 7) with
      | some (.dup, _), some (.invokespecial _, _), some (.athrow, _) => some x.2
      | _, _, _ => none
    else none
  | _ => none
/-- less is known of the locals -/
def pmLe : List (Option Value) → List (Option Value) → Prop
  | [], [] => True
  | none :: a, _ :: b => pmLe a b
  | some v :: a, w :: b => w = some v ∧ pmLe a b
  | _, _ => False
/-- a run of a method's body from a configuration to its end -/
def pmX (Pg : Nat → pmMe) (E : pmEv0) (cal : Nat → List Value → pmS → pmR → Prop) (j : Nat) : Nat → pmC → Nat → Nat → pmR → Prop
  | 0, _, _, _, _ => False
  | n + 1, c, kc, ks, r => ∃ i ln x, pmCo (Pg j) c.1 = some (i, ln, x) ∧ (
      (∃ b c' ps, pmStp E b i x c = some (c', ps) ∧ (∀ P ∈ ps, P) ∧ pmX Pg E cal j n c' kc ks r) ∨
      (∃ c' ps, pmAas i c = some (c', ps) ∧ (∀ P ∈ ps, P) ∧ pmX Pg E cal j n c' kc ks r) ∨
      (∃ c' a b, pmAl i x c = some (c', a, b) ∧ pmX Pg E cal j n c' (kc + a) (ks + b) r) ∨
      (∃ t as rest v S' a b, pmArg Pg i x c = some (t, as, rest) ∧ pmRk (pmNm (Pg t)).cls x.1 as c.2.2.2 ∧ cal t as c.2.2.2 (.inl v, S', a, b) ∧ pmX Pg E cal j n (c.1 + 3, c.2.1, v.toList ++ rest, S') (kc + a) (ks + b) r) ∨
      (∃ t as rest k S' a b, pmArg Pg i x c = some (t, as, rest) ∧ pmRk (pmNm (Pg t)).cls x.1 as c.2.2.2 ∧ cal t as c.2.2.2 (.inr k, S', a, b) ∧ pmHd (Pg j) = [] ∧ r = (.inr k, S', kc + a, ks + b)) ∨
      (∃ t as rest k S' a b h c', pmArg Pg i x c = some (t, as, rest) ∧ pmRk (pmNm (Pg t)).cls x.1 as c.2.2.2 ∧ cal t as c.2.2.2 (.inr k, S', a, b) ∧ pmCt (pmHd (Pg j)) c.1 k = some h ∧ pmHan (Pg j) h c.2.1 S' = some c' ∧ pmX Pg E cal j n c' (kc + a) (ks + b) r) ∨
      (∃ v ps, pmRet (pmRt (Pg j)) i c.2.2.1 = some (v, ps) ∧ (∀ P ∈ ps, P) ∧ r = (.inl v, c.2.2.2, kc, ks)) ∨
      (∃ k, pmThr (Pg j) c.1 i x = some k ∧ pmHd (Pg j) = [] ∧ (c.2.2.1.map fun v => v.category).sum ≤ 8 ∧ r = (.inr k, c.2.2.2, kc + 1, ks + 6)) ∨
      (∃ L', pmLe L' c.2.1 ∧ pmX Pg E cal j n (c.1, L', c.2.2.1, c.2.2.2) kc ks r))
def pmArgs : List Value → List (Option Value)
  | [] => []
  | v :: r => if v.category = 2 then some v :: none :: pmArgs r else some v :: pmArgs r
def pmL0 (n : Nat) (as : List Value) : List (Option Value) := pmArgs as ++ List.replicate (n - (pmArgs as).length) none
/-- a call of a method, at most d deep -/
def pmEv (Pg : Nat → pmMe) (E : pmEv0) : Nat → Nat → List Value → pmS → pmR → Prop
  | 0 => fun _ _ _ _ => False
  | d + 1 => fun j as S r => (pmArgs as).length ≤ pmMx (Pg j) ∧ ∃ n, pmX Pg E (pmEv Pg E d) j n (0, pmL0 (pmMx (Pg j)) as, [], S) 0 0 r
end
section
/-! PM: what a frame knows of the world outside, and how it is handed on -/
/-- links across the nest: what the tables say of them (not among the good words) -/
def pmNs : List Cond := tables_1.filter (fun w => match w with | .methodLinkNest _ _ _ _ => true | _ => false)
def pmXn (k : Nat) : String := match k with | 0 => "java/lang/IndexOutOfBoundsException" | 1 => "java/lang/IllegalArgumentException" | 2 => "java/lang/IllegalStateException" | 3 => "java/util/NoSuchElementException" | 4 => "java/lang/UnsupportedOperationException" | _ => "java/lang/ArithmeticException"
/-- a throw's words, but the constructor's link -/
def vxT (X : String) (ns : List String) : List Cond := (Bundle.throwableAtoms ++ Bundle.chain0Atoms X ns) ++ ((Bundle.ownAtoms0 "" 0 X ns).drop (Bundle.throwableAtoms ++ Bundle.chain0Atoms X ns).length).tail
theorem vx_split {own X : String} {ic : Nat} {ns : List String} {w : Cond} (h : w ∈ vx_at0 own ic X ns) : w = .methodLink own ic (Bundle.init0 X) ∨ (w ∈ vxT X ns ∧ vx_no w = true) := by
  unfold vx_at0 at h
  obtain ⟨hb, hc⟩ := List.mem_filter.mp h
  have e : vxT X ns = (Bundle.throwableAtoms ++ Bundle.chain0Atoms X ns) ++ ((Bundle.ownAtoms0 "" 0 X ns).drop (Bundle.throwableAtoms ++ Bundle.chain0Atoms X ns).length).tail := rfl
  unfold Bundle.ownAtoms0 at hb e
  rw [List.drop_left] at e
  rcases List.mem_append.mp hb with hb | hb
  · exact Or.inr ⟨by rw [e]; exact List.mem_append_left _ hb, hc⟩
  · rcases List.mem_cons.mp hb with rfl | hb
    · exact Or.inl rfl
    · exact Or.inr ⟨by rw [e]; exact List.mem_append_right _ hb, hc⟩
def pmUp : List String := ["java/lang/RuntimeException", "java/lang/Exception"]
/-- .. of them those that aren't good words -/
def pmTw : List Cond := (List.range 6).flatMap (fun k => (vxT (pmXn k) pmUp).filter (fun w => vx_no w && !goodWord w))
def isCD (w : Cond) : Bool := match w with | .castable _ _ => true | .declares _ => true | _ => false
set_option maxRecDepth 1000000 in
theorem pmTw_kind : pmTw.all isCD = true := by decide +kernel
theorem pm_warmCD {w : Cond} {s U : State} (hk : isCD w = true) (hW : s.WarmedH U.vm) (hZ : va_Nw w s) : va_Nw w U := by
  cases w with
  | castable C T => exact va_Nw.warmC hW hZ
  | declares x => exact va_tabs rfl (rfl : (s.setVm U.vm).vm = U.vm) (by rw [Cond.declares_setVm hW.alike]; exact hZ)
  | _ => cases hk
theorem pm_sameCD {w : Cond} {u U : State} (hk : isCD w = true) (hv : u.vm = U.vm) (hZ : va_Nw w u) : va_Nw w U := by
  cases w with
  | castable C T => exact va_Nw.same rfl hv hZ
  | declares x => exact va_Nw.same rfl hv hZ
  | _ => cases hk
def pmStT (k : Nat) : String × Nat × String × List Int32 := match pmSt0[k]? with | some q => q | none => ("", 0, "", [])
/-- the digits stand -/
def pmDg (ad : Nat → Nat) (A : Nat → Prop) (U : State) (H : Heap) : Prop :=
  (va_Z "java/lang/Integer" "DigitOnes" "[B" (.ref (ad 99996)) A U H ∧ va_T .byte (ad 99996) 100 (fun j => .int (pmDo j)) A U H) ∧
  (va_Z "java/lang/Integer" "DigitTens" "[B" (.ref (ad 99995)) A U H ∧ va_T .byte (ad 99995) 100 (fun j => .int (pmDt j)) A U H)
def pmEn (E : pmEv0) (ad : Nat → Nat) (A : Nat → Prop) (U : State) (H : Heap) : Prop :=
  (va_AO RX6 U ∧ ∀ w ∈ pmNs, va_Nw w U) ∧ ((∀ a b, a < 6 → b < 6 → a ≠ b → va_Nc (pmXn a) (pmXn b) U) ∧ (∀ k, k < 6 → va_Nw (.castable (pmXn k) (pmXn k)) U) ∧ ∀ w ∈ pmTw, va_Nw w U) ∧
  (vx_Zq Bundle.tN "UNASSIGNED_STACK" Bundle.steD A U H ∧ vx_Zq Bundle.tN "SUPPRESSED_SENTINEL" Bundle.listD A U H) ∧
  (va_Z "StageBallet" "MOVE_LETTERS" "[C" (.ref (ad 99999)) A U H ∧ va_T .char (ad 99999) 5 (fun j => .int (pmLt j)) A U H) ∧
  (va_Z "java/lang/String" "COMPACT_STRINGS" "Z" (.int 1) A U H ∧ va_Z "jdk/internal/util/Preconditions" "SIOOBE_FORMATTER" "Ljava/util/function/BiFunction;" (pmRe ad (va_rf E.2.2)) A U H) ∧
  (∀ k, k < pmSt0.length → vk_R (pmStT k).1 (pmStT k).2.1 (pmStT k).2.2.1 (ad (100000 + k)) U ∧ va_O "java/lang/String" (ad (100000 + k)) A U H ∧ va_OF "java/lang/String" "coder" "B" (.int 0) (ad (100000 + k)) A U H ∧
    va_OF "java/lang/String" "value" "[B" (.ref (ad (200000 + k))) (ad (100000 + k)) A U H ∧ va_T .byte (ad (200000 + k)) (pmStB k).length (fun j => .int ((pmStB k).getD j 0)) A U H) ∧
  (va_X (ad 99998) E.1 E.2.1 U H ∧ ¬ A (ad 99998) ∧ ad 99998 < H.size) ∧ pmVv 0 (va_rf E.2.2) ∧ pmDg ad A U H
theorem pmNs_kind {w : Cond} (h : w ∈ pmNs) : ∃ a i x o, w = .methodLinkNest a i x o := by
  have h1 := (List.mem_filter.mp h).2
  cases w <;> first | exact ⟨_, _, _, _, rfl⟩ | cases h1
/-- in another state of the tables, over another heap, for fewer cells -/
theorem pmEn.go {E : pmEv0} {ad ad' : Nat → Nat} {A B : Nat → Prop} {s U : State} {H H1 : Heap} (h : pmEn E ad A s H) (hW : s.WarmedH U.vm) (had : ∀ i, 90000 ≤ i → ad' i = ad i) (hq : ∀ a : Nat, a < H.size → ¬ A a → H1[a]? = H[a]?) (hz : H.size ≤ H1.size) (hBA : ∀ q, B q → A q) : pmEn E ad' B U H1 := by
  obtain ⟨h1, h2, ⟨h3, h4⟩, ⟨h5, h6⟩, ⟨h7, h8⟩, h9, ⟨h10, h11, h12⟩, h13, ⟨h15, h16⟩, h17, h18⟩ := h
  have hvm := hW.alike
  refine ⟨⟨h1.1.moved hvm, fun w hw => ?_⟩, ⟨fun a b ha hb hn => (h2.1 a b ha hb hn).moved hvm, fun k hk => va_Nw.warmC hW (h2.2.1 k hk), fun w hw => pm_warmCD (List.all_eq_true.mp pmTw_kind w hw) hW (h2.2.2 w hw)⟩, ⟨((h3.moved hvm).kept hq).narrow hBA, ((h4.moved hvm).kept hq).narrow hBA⟩, ⟨?_, ?_⟩, ⟨((h7.moved hvm).kept hq).narrow hBA, ?_⟩, fun k hk => ?_, ⟨?_, ?_, ?_⟩, h13, ⟨?_, ?_⟩, ?_, ?_⟩
  · obtain ⟨a, i, x, o, rfl⟩ := pmNs_kind hw
    exact va_Nw.warmM hW (h1.2 _ hw)
  · rw [had _ (by omega)]
    exact ((h5.moved hvm).kept hq).narrow hBA
  · rw [had _ (by omega)]
    exact ((h6.moved hvm).kept hq).narrow hBA
  · have e : pmRe ad' (va_rf E.2.2) = pmRe ad (va_rf E.2.2) := by
      cases hv : (va_rf E.2.2) with
      | ref i =>
        rw [hv] at h13
        have h14 : i < 0 ∨ 90000 ≤ i := h13
        show Value.ref (ad' i) = Value.ref (ad i)
        rw [had i (h14.elim (fun z => absurd z (Nat.not_lt_zero _)) id)]
      | _ => rfl
    rw [e]
    exact ((h8.moved hvm).kept hq).narrow hBA
  · rw [had (100000 + k) (by omega), had (200000 + k) (by omega)]
    obtain ⟨g1, g2, g3, g4, g5⟩ := h9 k hk
    exact ⟨g1.warm hW, ((g2.moved hvm).kept hq).narrow hBA, ((g3.moved hvm).kept hq).narrow hBA, ((g4.moved hvm).kept hq).narrow hBA, ((g5.moved hvm).kept hq).narrow hBA⟩
  · rw [had _ (by omega)]
    exact (h10.moved hvm).kept (hq _ h12 h11)
  · rw [had _ (by omega)]
    exact fun z => h11 (hBA _ z)
  · rw [had _ (by omega)]
    omega
  · rw [had _ (by omega)]
    exact ((h15.moved hvm).kept hq).narrow hBA
  · rw [had _ (by omega)]
    exact ((h16.moved hvm).kept hq).narrow hBA
  · rw [had _ (by omega)]
    exact ((h17.moved hvm).kept hq).narrow hBA
  · rw [had _ (by omega)]
    exact ((h18.moved hvm).kept hq).narrow hBA
/-- the same tables -/
theorem pmEn.same {E : pmEv0} {ad : Nat → Nat} {A : Nat → Prop} {u U : State} {H : Heap} (hv : u.vm = U.vm) (h : pmEn E ad A u H) : pmEn E ad A U H := by
  have hvm : u.vm.Alike U.vm := by rw [hv]; exact Vm.Alike.refl _
  obtain ⟨h1, h2, ⟨h3, h4⟩, ⟨h5, h6⟩, ⟨h7, h8⟩, h9, ⟨h10, h11, h12⟩, h13, ⟨h15, h16⟩, h17, h18⟩ := h
  refine ⟨⟨h1.1.moved hvm, fun w hw => ?_⟩, ⟨fun a b ha hb hn => (h2.1 a b ha hb hn).moved hvm, fun k hk => va_Nw.same rfl hv (h2.2.1 k hk), fun w hw => pm_sameCD (List.all_eq_true.mp pmTw_kind w hw) hv (h2.2.2 w hw)⟩, ⟨h3.moved hvm, h4.moved hvm⟩, ⟨h5.moved hvm, h6.moved hvm⟩, ⟨h7.moved hvm, h8.moved hvm⟩, fun k hk => ?_, ⟨h10.moved hvm, h11, h12⟩, h13, ⟨h15.moved hvm, h16.moved hvm⟩, h17.moved hvm, h18.moved hvm⟩
  · obtain ⟨a, i, x, o, rfl⟩ := pmNs_kind hw
    exact va_Nw.same rfl hv (h1.2 _ hw)
  · obtain ⟨g1, g2, g3, g4, g5⟩ := h9 k hk
    exact ⟨g1.same hv.symm, g2.moved hvm, g3.moved hvm, g4.moved hvm, g5.moved hvm⟩
/-- the world that a call needs -/
def pmBw (E : pmEv0) (D : va_G) (cA : Nat → ClassId) (ad : Nat → Nat) (S : pmS) (U : State) : Prop :=
  va_P D pmCl (pmW ad cA S) U.heap ∧ va_K D pmCl (pmTs cA) U ∧ va_D (fun _ => True) (pmW ad cA S) ∧ pmEn E ad (va_A (pmW ad cA S) U.heap.size) U U.heap ∧ pmVm S.1.length S.2 ∧ S.1.length ≤ 90000
def pmEx (ad ad' : Nat → Nat) (n : Nat) : Prop := ∀ i, i < n ∨ 90000 ≤ i → ad' i = ad i
theorem pmEx.rf {ad : Nat → Nat} {n : Nat} : pmEx ad ad n := fun _ _ => rfl
theorem pmEx.re {ad ad' : Nat → Nat} {n : Nat} (h : pmEx ad ad' n) {v : Value} (hv : pmVv n v) : pmRe ad' v = pmRe ad v := by
  cases v with
  | ref i => exact congrArg Value.ref (h i hv)
  | _ => rfl
theorem pmEx.map {ad ad' : Nat → Nat} {n : Nat} (h : pmEx ad ad' n) {l : List Value} (hv : ∀ v ∈ l, pmVv n v) : l.map (pmRe ad') = l.map (pmRe ad) := List.map_congr_left fun v hm => h.re (hv v hm)
theorem pmEx.lv {ad ad' : Nat → Nat} {n : Nat} (h : pmEx ad ad' n) {L : List (Option Value)} (hv : pmVl n L) : pmLv ad' L = pmLv ad L := by
  unfold pmLv
  have e : (fun i : Nat => match L[i]? with | some (some v) => some (i, pmRe ad' v) | _ => none) = (fun i : Nat => match L[i]? with | some (some v) => some (i, pmRe ad v) | _ => none) := by
    funext i
    cases hi : L[i]? with
    | none => rfl
    | some o => cases o with
      | none => rfl
      | some v => exact congrArg (fun z => some (i, z)) (h.re (hv i v hi))
  exact congrArg (fun f => List.filterMap f (List.range L.length)) e
theorem pmEx.w {ad ad' : Nat → Nat} {cA : Nat → ClassId} {S : pmS} (h : pmEx ad ad' S.1.length) (hv : pmVm S.1.length S.2) : pmW ad' cA S = pmW ad cA S := by
  unfold pmW
  refine List.ext_getElem? fun i => ?_
  rw [List.getElem?_mapIdx, List.getElem?_mapIdx]
  cases hi : S.1[i]? with
  | none => rfl
  | some e =>
    have hl : i < S.1.length := (List.getElem?_eq_some_iff.mp hi).1
    show some (ad' i, pmE ad' cA S.2 i e) = some (ad i, pmE ad cA S.2 i e)
    rw [h i (Or.inl hl)]
    have e1 : pmE ad' cA S.2 i e = pmE ad cA S.2 i e := by
      cases e with
      | inl c =>
        unfold pmE
        have e2 : ∀ k, pmRe ad' (pmRd (pmTy c k) S.2 i k) = pmRe ad (pmRd (pmTy c k) S.2 i k) := fun k => h.re (pmVv_rd hv _ _ _)
        simp only [e2]
      | inr a =>
        unfold pmE pmPay
        have e2 : (fun k => (S.2.2.2.1 i k).map ad') = fun k => (S.2.2.2.1 i k).map ad := by
          funext k
          cases hq : S.2.2.2.1 i k with
          | none => rfl
          | some q => exact congrArg some (h q (hv i k q hq))
        simp only [e2]
    rw [e1]
theorem pmEx.trans {ad ad' ad2 : Nat → Nat} {n m : Nat} (h : pmEx ad ad' n) (h2 : pmEx ad' ad2 m) (hn : n ≤ m) : pmEx ad ad2 n := fun i hi => (h2 i (by omega)).trans (h i hi)
end
section
/-! PM: steps on what stands outside -/
section PMX
variable {p : Program} {l : Launch} {e : Env} {R : Room} {s : State} {m : MethodId} {args : Array Value} {below : List Frame} {meth : Method} {c0 : Code} {H : Heap} {locs : List Loc} {cells slots : Nat} {Q : State → Prop}
variable {cc : ByteArray} {ls : Array Slot} {A : Nat → Prop} {D : va_G} {nL : Nat} {ad : Nat → Nat} {cA : Nat → ClassId} {pc : Nat} {L : List (Option Value)} {S : pmS} {st rest : List Value} {E : pmEv0}
theorem pm_ldcwS (hexec : p.tables.exec = Jvm.exec) (hb : c0.code = cc) {own tx : String} {index q : Nat} (hown : s.vm.findClass own = some m.cls) (hZ : vk_R own index tx q s) (hdg : decode cc pc = .ok (.ldc_w index, 3))
    (k : W p l e R s m args below meth c0 H locs cells slots Q (F0 m (pc + 3) ls (.ref q :: rest))) : W p l e R s m args below meth c0 H locs cells slots Q (F0 m pc ls rest) := by
  intro T hT X
  obtain ⟨t, a1, b1⟩ := k T hT X
  obtain ⟨k, cf, i, a', hk, hcf, hcp, -, hr, hev'⟩ := Cond.stringRef_spec hown hZ.1
  cases hZ.2.symm.trans hev'
  obtain ⟨k', hk', he⟩ := X.warmed.alike.2.2 _ _ hk
  have hr' : k'.resolved[index]? = some (some (.string q)) := by
    rcases X.warmed.entry hk hk' index with h | ⟨h, -⟩
    · rw [h]; exact hr
    · rw [hr] at h; cases h
  refine ⟨t, ?_, b1⟩
  jvm_step X.here [hexec, hb, hdg, ldc_w.wp_string (e := e) (s := T) (f := F0 m pc ls rest) X.here.top hk' (by rw [he]; exact hcf) hcp hr']
  exact a1
theorem pm_ldcwF (hexec : p.tables.exec = Jvm.exec) (hb : c0.code = cc) {own : String} {index : Nat} {v : UInt32} (hown : s.vm.findClass own = some m.cls) (hconst : (Jvm.Cond.constantFloat own index v).before args s = true) (hdg : decode cc pc = .ok (.ldc_w index, 3))
    (k : W p l e R s m args below meth c0 H locs cells slots Q (F0 m (pc + 3) ls (.float v :: rest))) : W p l e R s m args below meth c0 H locs cells slots Q (F0 m pc ls rest) := by
  intro T hT X
  obtain ⟨t, a1, b1⟩ := k T hT X
  obtain ⟨k, cf, hk, hcf, hcp⟩ := Cond.constantFloat_spec hown hconst
  obtain ⟨k', hk', he⟩ := X.warmed.alike.2.2 _ _ hk
  refine ⟨t, ?_, b1⟩
  jvm_step X.here [hexec, hb, hdg, ldc_w.wp_float (e := e) (s := T) (f := F0 m pc ls rest) X.here.top hk' (by rw [he]; exact hcf) hcp]
  exact a1
theorem pmW_set1 {G : pmG} {μ : pmM} {f : Nat → Nat → Int32} {q : Nat} {e : Nat ⊕ (Nat × Nat)} (h : G[q]? = some e) (ho : ∀ i, i ≠ q → f i = μ.1 i) : pmW ad cA (G, (f, μ.2)) = (pmW ad cA (G, μ)).set q (ad q, pmE ad cA (f, μ.2) q e) :=
  pmW_set (μ' := (f, μ.2)) h (fun i hi e => pmE_congr (μ := μ) (μ' := (f, μ.2)) (ho i hi) rfl rfl rfl e)
theorem pm_off {b q : Nat} (h : b ≤ q) : ∃ j : Nat, q = b + j := ⟨q - b, by omega⟩
theorem pm_offl {b j n : Nat} (h : b + j - b < n) : j < n := by omega
theorem pm_ofe (b j : Nat) : b + j - b = j := by omega
theorem pm_ofs (j : Nat) : 100000 + j + 100000 = 200000 + j := by omega
/-- a String constant's entry is the class's own -/
def pmOx (own : String) (i : Instr) (x : Nat × Nat) : Bool := match i with
  | .ldc k => x.1 != 30 || (decide ((pmStT x.2).1 = own) && decide ((pmStT x.2).2.1 = k))
  | .ldc_w k => x.1 != 30 || (decide ((pmStT x.2).1 = own) && decide ((pmStT x.2).2.1 = k))
  | _ => true
theorem pm_cat8 (ad : Nat → Nat) (r : List Value) : ((r.map (pmRe ad)).map fun v => v.category) = r.map fun v => v.category := by
  rw [List.map_map]
  exact List.map_congr_left fun v _ => pmRe_cat ad v
theorem pmRe_sp {ad : Nat → Nat} {v : Value} (h : v.isRef = true → ∃ i, v = .ref i) : True := trivial
set_option maxRecDepth 100000 in
theorem pm_xs_ok {b n : Nat} {i : Instr} {x : Nat × Nat} {c' : pmC} {ps : List Prop} {own : String} (hdg : decode cc pc = .ok (i, pmIl i n)) (h : pmXs E i x (pc, L, st, S) = some (c', ps)) (hp : ∀ P ∈ ps, P) (hws : ∀ w ∈ pmWs own i x, w.before args s = true) (hox : pmOx own i x = true) (hown : s.vm.findClass own = some m.cls) (hK : va_K D pmCl (pmTs cA) s) (hEn : pmEn E ad A s s.heap) (hml : c0.maxLocals = nL) (hRf : 1 ≤ R.frames) (hRl : 100 ≤ R.locals) (hexec : p.tables.exec = Jvm.exec) (hb : c0.code = cc) (hr : pmRel D A s.heap nL ad cA (pc, L, st, S) H locs ls) (kk : pmKk p l e R s m args below meth c0 cells slots Q D A s.heap nL ad cA c') : W p l e R s m args below meth c0 H locs cells slots Q (F0 m pc ls (st.map (pmRe ad))) := by
  obtain ⟨e1, e2, ⟨e3, e4⟩, ⟨e5, e6⟩, ⟨e7, e8⟩, e9, ⟨e10, e11, e12⟩, e13, -⟩ := hEn
  have hS := hr.2.2.1
  have hls : c0.maxLocals = ls.size := hml.trans hr.2.2.2.1.1.symm
  unfold pmXs at h
  split at h
  · rename_i k
    dsimp only [pmWs] at hws
    split at h
    · rename_i hx
      cases h
      rw [if_pos hx] at hws
      exact va_gets hexec hb e5 hS hown (hws _ List.mem_cons_self) (fun _ h => h) hdg (kk _ _ _ hr)
    · rename_i hx0
      split at h
      · rename_i hx
        cases h
        rw [if_neg hx0, if_pos hx] at hws
        exact va_gets hexec hb e7 hS hown (hws _ List.mem_cons_self) (fun _ h => h) hdg (kk _ _ _ hr)
      · rename_i hx1
        split at h
        · rename_i hx
          cases h
          rw [if_neg hx0, if_neg hx1, if_pos hx] at hws
          exact va_gets hexec hb e8 hS hown (hws _ List.mem_cons_self) (fun _ h => h) hdg (kk _ _ _ hr)
        · cases h
  · rename_i k
    split at h
    · rename_i hx
      split at h
      · rename_i hk
        cases h
        have hq := (e9 _ hk).1
        simp only [pmOx, hx, bne_self_eq_false, Bool.false_or, Bool.and_eq_true, decide_eq_true_eq] at hox
        rw [hox.1, hox.2] at hq
        exact va_ldcS hexec hb hown hq hdg (kk _ _ _ hr)
      · cases h
    · rename_i hx0
      split at h
      · rename_i hx
        cases h
        dsimp only [pmWs] at hws
        rw [if_pos hx] at hws
        exact lv_ldc hexec hb hown (hws _ List.mem_cons_self) hdg (kk _ _ _ hr)
      · cases h
  · rename_i k
    split at h
    · rename_i hx
      split at h
      · rename_i hk
        cases h
        have hq := (e9 _ hk).1
        simp only [pmOx, hx, bne_self_eq_false, Bool.false_or, Bool.and_eq_true, decide_eq_true_eq] at hox
        rw [hox.1, hox.2] at hq
        exact pm_ldcwS hexec hb hown hq hdg (kk _ _ _ hr)
      · cases h
    · rename_i hx0
      split at h
      · rename_i hx
        cases h
        dsimp only [pmWs] at hws
        rw [if_pos hx] at hws
        exact lv_ldcw hexec hb hown (hws _ List.mem_cons_self) hdg (kk _ _ _ hr)
      · rename_i hx1
        split at h
        · rename_i hx
          cases h
          dsimp only [pmWs] at hws
          rw [if_neg hx1, if_pos hx] at hws
          exact pm_ldcwF hexec hb hown (hws _ List.mem_cons_self) hdg (kk _ _ _ hr)
        · cases h
  · rename_i k
    dsimp only [pmWs] at hws
    split at h
    · rename_i hx
      cases h
      rw [if_pos hx] at hws
      exact lv_ldc2 hexec hb hown (hws _ List.mem_cons_self) hdg (kk _ _ _ hr)
    · rename_i hx0
      split at h
      · rename_i hx
        cases h
        rw [if_neg hx0] at hws
        exact lv_ldc2d hexec hb hown (hws _ List.mem_cons_self) hdg (kk _ _ _ hr)
      · cases h
  · rename_i k
    dsimp only [pmWs] at hws
    split at h
    · rename_i q r hs
      dsimp only at hs
      subst hs
      split at h
      · rename_i hq
        obtain ⟨j, rfl⟩ := pm_off hq.1
        have hj : j < pmSt0.length := pm_offl hq.2
        obtain ⟨g1, g2, g3, g4, g5⟩ := e9 j hj
        split at h
        · rename_i hx
          cases h
          rw [if_neg (by omega), if_pos hx] at hws
          have k1 := kk _ _ _ hr
          rw [pm_ofs] at k1
          exact vk_getf hexec hb g4 hS hown (hws _ List.mem_cons_self) (fun _ h => h) hdg k1
        · rename_i hx0
          split at h
          · rename_i hx
            cases h
            rw [if_neg (by omega), if_neg hx0] at hws
            exact vk_getf hexec hb g3 hS hown (hws _ List.mem_cons_self) (fun _ h => h) hdg (kk _ _ _ hr)
          · cases h
      · cases h
    · cases h
  · split at h
    · rename_i q r hs
      dsimp only at hs
      subst hs
      split at h
      · rename_i hq
        subst hq
        cases h
        exact va_slen hexec hb e10 e12 e11 hS hdg (kk _ _ _ hr)
      · split at h
        · rename_i hq
          subst hq
          cases h
          exact va_tlen hexec hb e6 hS rfl hdg (kk _ _ _ hr)
        · split at h
          · rename_i hq
            cases h
            obtain ⟨j, rfl⟩ := pm_off hq.1
            have hj : j < pmSt0.length := pm_offl hq.2
            have e20 := pm_ofe 200000 j
            have k1 := kk _ _ _ hr
            rw [e20] at k1
            exact va_tlen hexec hb (e9 j hj).2.2.2.2 hS rfl hdg k1
          · cases h
    · cases h
  · split at h
    · rename_i j q r hs
      dsimp only at hs
      subst hs
      split at h
      · rename_i hq
        subst hq
        cases h
        exact va_sld hexec hb e10 e12 e11 hS (hp _ List.mem_cons_self) hdg (kk _ _ _ hr)
      · cases h
    · cases h
  · split at h
    · rename_i j q r hs
      dsimp only at hs
      subst hs
      split at h
      · rename_i hq
        subst hq
        cases h
        exact va_tc hexec hb e6 hS (hp _ List.mem_cons_self) rfl hdg (kk _ _ _ hr)
      · cases h
    · cases h
  · split at h
    · rename_i j q r hs
      dsimp only at hs
      subst hs
      split at h
      · rename_i hq
        cases h
        obtain ⟨z, rfl⟩ := pm_off hq.1
        have hj : z < pmSt0.length := pm_offl hq.2
        have e20 := pm_ofe 200000 z
        have k1 := kk _ _ _ hr
        have hin := hp _ List.mem_cons_self
        rw [e20] at k1 hin
        exact va_tb hexec hb (e9 z hj).2.2.2.2 hS hin rfl hdg k1
      · cases h
    · cases h
  · rename_i k
    split at h
    · rename_i n9 dp q sp q0 r hs
      dsimp only at hs
      subst hs
      split at h
      · rename_i hx
        split at h
        · rename_i a0 a1 h0 h1
          split at h
          · rename_i ht
            obtain ⟨t0, t1, t2⟩ := ht
            cases h
            dsimp only [pmWs] at hws
            rw [if_pos hx] at hws
            obtain ⟨a01, a02⟩ := a0
            obtain ⟨a11, a12⟩ := a1
            dsimp only at t0 t1 hp
            subst t0 t1
            have hn9 : nativeFrameWords "java/lang/System" "arraycopy" 5 ≤ 60 := by decide
            have hE : pmW ad cA (S.1, ((fun i => if i = q then va_cpy (S.2.1 q0) (S.2.1 q) sp.toNatClampNeg dp.toNatClampNeg n9.toNatClampNeg else S.2.1 i), S.2.2)) = (pmW ad cA S).set q (ad q, .inl (cA 0, a12, .inl (va_cpy (S.2.1 q0) (S.2.1 q) sp.toNatClampNeg dp.toNatClampNeg n9.toNatClampNeg))) := by
              rw [pmW_set1 (ad := ad) (cA := cA) (G := S.1) (μ := S.2) h1 (fun i hi => if_neg hi)]
              unfold pmE pmPay
              simp
            refine va_copyi hexec hb hls hown (hws _ List.mem_cons_self) (hws _ (List.mem_cons_of_mem _ List.mem_cons_self)) (hws _ (List.mem_cons_of_mem _ (List.mem_cons_of_mem _ List.mem_cons_self))) (hws _ (List.mem_cons_of_mem _ (List.mem_cons_of_mem _ (List.mem_cons_of_mem _ List.mem_cons_self)))) hK hr.1 hr.2.1 hS q0 q 0 0 (pmW_at h0) (pmW_at h1) rfl rfl rfl (hp _ List.mem_cons_self) (hp _ (List.mem_cons_of_mem _ List.mem_cons_self)) (hp _ (List.mem_cons_of_mem _ (List.mem_cons_of_mem _ List.mem_cons_self))) (hp _ (List.mem_cons_of_mem _ (List.mem_cons_of_mem _ (List.mem_cons_of_mem _ List.mem_cons_self)))) (hp _ (List.mem_cons_of_mem _ (List.mem_cons_of_mem _ (List.mem_cons_of_mem _ (List.mem_cons_of_mem _ List.mem_cons_self))))) (fun _ _ => rfl) hRf (by rw [pm_cat8]; omega) hdg (fun H1 locs1 g1 g2 g3 => ?_)
            have g1 : va_P D pmCl ((pmW ad cA S).set q (ad q, .inl (cA 0, a12, .inl (va_cpy (S.2.1 q0) (S.2.1 q) sp.toNatClampNeg dp.toNatClampNeg n9.toNatClampNeg)))) H1 := g1
            have g2 : va_D A ((pmW ad cA S).set q (ad q, .inl (cA 0, a12, .inl (va_cpy (S.2.1 q0) (S.2.1 q) sp.toNatClampNeg dp.toNatClampNeg n9.toNatClampNeg)))) := g2
            rw [← hE] at g1 g2
            exact kk _ _ _ ⟨g1, g2, g3, hr.2.2.2⟩
          · cases h
        · cases h
      · cases h
    · rename_i b9 r hs
      dsimp only at hs
      subst hs
      split at h
      · rename_i hx
        cases h
        dsimp only [pmWs] at hws
        rw [if_neg (by omega), if_pos hx.1] at hws
        exact vn_d2l hexec hb hls hown (hws _ List.mem_cons_self) (hws _ (List.mem_cons_of_mem _ List.mem_cons_self)) (hws _ (List.mem_cons_of_mem _ (List.mem_cons_of_mem _ List.mem_cons_self))) (hws _ (List.mem_cons_of_mem _ (List.mem_cons_of_mem _ (List.mem_cons_of_mem _ List.mem_cons_self)))) hRf (by rw [pm_cat8]; have := hx.2; omega) hdg (kk _ _ _ hr)
      · cases h
    · rename_i b9 r hs
      dsimp only at hs
      subst hs
      split at h
      · rename_i hx
        cases h
        dsimp only [pmWs] at hws
        rw [if_neg (by omega), if_neg (by omega), if_pos hx.1] at hws
        exact vn_f2i hexec hb hls hown (hws _ List.mem_cons_self) (hws _ (List.mem_cons_of_mem _ List.mem_cons_self)) (hws _ (List.mem_cons_of_mem _ (List.mem_cons_of_mem _ List.mem_cons_self))) (hws _ (List.mem_cons_of_mem _ (List.mem_cons_of_mem _ (List.mem_cons_of_mem _ List.mem_cons_self)))) hRf (by rw [pm_cat8]; have := hx.2; omega) hdg (kk _ _ _ hr)
      · cases h
    · cases h
  · rename_i k
    split at h
    · rename_i q r hs
      dsimp only at hs
      subst hs
      split at h
      · rename_i hx
        cases h
        dsimp only [pmWs] at hws
        rw [if_pos hx.1] at hws
        exact W.objInit hexec hb hown (hws _ List.mem_cons_self) (hws _ (List.mem_cons_of_mem _ List.mem_cons_self)) (hws _ (List.mem_cons_of_mem _ (List.mem_cons_of_mem _ List.mem_cons_self))) rfl hls.symm rfl hdg hRf (by rw [pm_cat8]; have := hx.2; show 2 * 0 + _ + 12 ≤ _; omega) (kk _ _ _ hr)
      · cases h
    · cases h
  · cases h
    exact lv_null hexec hb hdg (kk _ _ _ hr)
  · cases h
set_option maxRecDepth 100000 in
theorem pm_xt_ok {b n : Nat} {i : Instr} {x : Nat × Nat} {c' : pmC} {ps : List Prop} {own : String} (hdg : decode cc pc = .ok (i, pmIl i n)) (h : pmXt i x (pc, L, st, S) = some (c', ps)) (hp : ∀ P ∈ ps, P) (hws : ∀ w ∈ pmWs own i x, w.before args s = true) (hown : s.vm.findClass own = some m.cls) (hK : va_K D pmCl (pmTs cA) s) (hEn : pmEn E ad A s s.heap) (hml : c0.maxLocals = nL) (hRf : 1 ≤ R.frames) (hRl : 100 ≤ R.locals) (hexec : p.tables.exec = Jvm.exec) (hb : c0.code = cc) (hr : pmRel D A s.heap nL ad cA (pc, L, st, S) H locs ls) (kk : pmKk p l e R s m args below meth c0 cells slots Q D A s.heap nL ad cA c') : W p l e R s m args below meth c0 H locs cells slots Q (F0 m pc ls (st.map (pmRe ad))) := by
  obtain ⟨e1, e2, ⟨e3, e4⟩, ⟨e5, e6⟩, ⟨e7, e8⟩, e9, ⟨e10, e11, e12⟩, e13, ⟨e15, e16⟩, e17, e18⟩ := hEn
  have hS := hr.2.2.1
  have hls : c0.maxLocals = ls.size := hml.trans hr.2.2.2.1.1.symm
  unfold pmXt at h
  split at h
  · rename_i k
    dsimp only [pmWs] at hws
    split at h
    · rename_i hx
      cases h
      rw [if_neg (by omega), if_neg (by omega), if_neg (by omega), if_pos hx] at hws
      exact va_gets hexec hb e15 hS hown (hws _ List.mem_cons_self) (fun _ h => h) hdg (kk _ _ _ hr)
    · rename_i hx0
      split at h
      · rename_i hx
        cases h
        rw [if_neg (by omega), if_neg (by omega), if_neg (by omega), if_neg (by omega)] at hws
        exact va_gets hexec hb e17 hS hown (hws _ List.mem_cons_self) (fun _ h => h) hdg (kk _ _ _ hr)
      · cases h
  · rename_i k
    dsimp only [pmWs] at hws
    split at h
    · rename_i q r hs
      dsimp only at hs
      subst hs
      split at h
      · rename_i ci hq
        split at h
        · rename_i hc
          subst hc
          split at h
          · rename_i hx
            cases h
            rw [if_neg (by omega), if_pos hx] at hws
            refine va_get (D := D) (ci := 9) (C := pmCN 9) (T := pmT 9) (N := pmN 9) (ref := (pmT 9 0).1) hexec hb hws (fun w hw => List.mem_cons_of_mem _ hw) hown hK hr.1 q (pmW_at hq) (pmCl_at (by decide)) 0 (by decide) (hws _ List.mem_cons_self) (fun _ hz => hz) (v := pmRe ad (va_rf (S.2.2.2.1 q 0))) ?_ hdg (kk _ _ _ hr)
            rw [List.getElem?_map, List.getElem?_range (by decide)]
            rfl
          · rename_i hx0
            split at h
            · rename_i hx
              cases h
              rw [if_neg (by omega), if_neg hx0] at hws
              refine va_get (D := D) (ci := 9) (C := pmCN 9) (T := pmT 9) (N := pmN 9) (ref := (pmT 9 1).1) hexec hb hws (fun w hw => List.mem_cons_of_mem _ hw) hown hK hr.1 q (pmW_at hq) (pmCl_at (by decide)) 1 (by decide) (hws _ List.mem_cons_self) (fun _ hz => hz) (v := pmRe ad (.int (S.2.1 q 1))) ?_ hdg (kk _ _ _ hr)
              rw [List.getElem?_map, List.getElem?_range (by decide)]
              rfl
            · cases h
        · cases h
      · cases h
    · cases h
  · split at h
    · rename_i j q r hs
      dsimp only at hs
      subst hs
      split at h
      · rename_i hq
        subst hq
        cases h
        exact va_tb hexec hb e16 hS (hp _ List.mem_cons_self) rfl hdg (kk _ _ _ hr)
      · split at h
        · rename_i hq
          subst hq
          cases h
          exact va_tb hexec hb e18 hS (hp _ List.mem_cons_self) rfl hdg (kk _ _ _ hr)
        · cases h
    · cases h
  · rename_i k
    split at h
    · rename_i n9 dp q sp q0 r hs
      dsimp only at hs
      subst hs
      split at h
      · rename_i hx
        dsimp only [pmWs] at hws
        rw [if_pos hx] at hws
        have hn9 : nativeFrameWords "java/lang/System" "arraycopy" 5 ≤ 60 := by decide
        split at h
        · rename_i a1 h1
          split at h
          · rename_i ht
            obtain ⟨t1, t2⟩ := ht
            obtain ⟨a11, a12⟩ := a1
            dsimp only at t1
            subst t1
            split at h
            · rename_i hq0
              cases h
              obtain ⟨z, rfl⟩ := pm_off hq0.1
              have hz : z < pmSt0.length := pm_offl hq0.2
              rw [pm_ofe 200000 z] at hp
              dsimp only at hp ⊢
              rw [pm_ofe 200000 z] at kk
              have hE : pmW ad cA (S.1, ((fun i => if i = q then va_cpy (fun j => (pmStB z).getD j 0) (S.2.1 q) sp.toNatClampNeg dp.toNatClampNeg n9.toNatClampNeg else S.2.1 i), S.2.2)) = (pmW ad cA S).set q (ad q, .inl (cA 1, a12, .inl (va_cpy (fun j => (pmStB z).getD j 0) (S.2.1 q) sp.toNatClampNeg dp.toNatClampNeg n9.toNatClampNeg))) := by
                rw [pmW_set1 (ad := ad) (cA := cA) (G := S.1) (μ := S.2) h1 (fun i hi => if_neg hi)]
                unfold pmE pmPay
                simp
              refine vk_copyt hexec hb hls hown (hws _ List.mem_cons_self) (hws _ (List.mem_cons_of_mem _ List.mem_cons_self)) (hws _ (List.mem_cons_of_mem _ (List.mem_cons_of_mem _ List.mem_cons_self))) (hws _ (List.mem_cons_of_mem _ (List.mem_cons_of_mem _ (List.mem_cons_of_mem _ List.mem_cons_self)))) hK hr.1 hr.2.1 hS (e9 z hz).2.2.2.2 q 1 (pmW_at h1) rfl (hp _ List.mem_cons_self) (hp _ (List.mem_cons_of_mem _ List.mem_cons_self)) (hp _ (List.mem_cons_of_mem _ (List.mem_cons_of_mem _ List.mem_cons_self))) (hp _ (List.mem_cons_of_mem _ (List.mem_cons_of_mem _ (List.mem_cons_of_mem _ List.mem_cons_self)))) (hp _ (List.mem_cons_of_mem _ (List.mem_cons_of_mem _ (List.mem_cons_of_mem _ (List.mem_cons_of_mem _ List.mem_cons_self))))) (hp _ (List.mem_cons_of_mem _ (List.mem_cons_of_mem _ (List.mem_cons_of_mem _ (List.mem_cons_of_mem _ (List.mem_cons_of_mem _ List.mem_cons_self)))))) hRf (by rw [pm_cat8]; omega) hdg (fun H1 locs1 g1 g2 g3 => ?_)
              have g1 : va_P D pmCl ((pmW ad cA S).set q (ad q, .inl (cA 1, a12, .inl (va_cpy (fun j => (pmStB z).getD j 0) (S.2.1 q) sp.toNatClampNeg dp.toNatClampNeg n9.toNatClampNeg)))) H1 := g1
              have g2 : va_D A ((pmW ad cA S).set q (ad q, .inl (cA 1, a12, .inl (va_cpy (fun j => (pmStB z).getD j 0) (S.2.1 q) sp.toNatClampNeg dp.toNatClampNeg n9.toNatClampNeg)))) := g2
              rw [← hE] at g1 g2
              exact kk _ _ _ ⟨g1, g2, g3, hr.2.2.2⟩
            · split at h
              · rename_i a0 h0
                split at h
                · rename_i t0
                  cases h
                  obtain ⟨a01, a02⟩ := a0
                  dsimp only at t0 hp
                  subst t0
                  have hE : pmW ad cA (S.1, ((fun i => if i = q then va_cpy (S.2.1 q0) (S.2.1 q) sp.toNatClampNeg dp.toNatClampNeg n9.toNatClampNeg else S.2.1 i), S.2.2)) = (pmW ad cA S).set q (ad q, .inl (cA 1, a12, .inl (va_cpy (S.2.1 q0) (S.2.1 q) sp.toNatClampNeg dp.toNatClampNeg n9.toNatClampNeg))) := by
                    rw [pmW_set1 (ad := ad) (cA := cA) (G := S.1) (μ := S.2) h1 (fun i hi => if_neg hi)]
                    unfold pmE pmPay
                    simp
                  refine va_copyi hexec hb hls hown (hws _ List.mem_cons_self) (hws _ (List.mem_cons_of_mem _ List.mem_cons_self)) (hws _ (List.mem_cons_of_mem _ (List.mem_cons_of_mem _ List.mem_cons_self))) (hws _ (List.mem_cons_of_mem _ (List.mem_cons_of_mem _ (List.mem_cons_of_mem _ List.mem_cons_self)))) hK hr.1 hr.2.1 hS q0 q 1 1 (pmW_at h0) (pmW_at h1) rfl rfl rfl (hp _ List.mem_cons_self) (hp _ (List.mem_cons_of_mem _ List.mem_cons_self)) (hp _ (List.mem_cons_of_mem _ (List.mem_cons_of_mem _ List.mem_cons_self))) (hp _ (List.mem_cons_of_mem _ (List.mem_cons_of_mem _ (List.mem_cons_of_mem _ List.mem_cons_self)))) (hp _ (List.mem_cons_of_mem _ (List.mem_cons_of_mem _ (List.mem_cons_of_mem _ (List.mem_cons_of_mem _ List.mem_cons_self))))) (hp _ (List.mem_cons_of_mem _ (List.mem_cons_of_mem _ (List.mem_cons_of_mem _ (List.mem_cons_of_mem _ (List.mem_cons_of_mem _ List.mem_cons_self)))))) hRf (by rw [pm_cat8]; omega) hdg (fun H1 locs1 g1 g2 g3 => ?_)
                  have g1 : va_P D pmCl ((pmW ad cA S).set q (ad q, .inl (cA 1, a12, .inl (va_cpy (S.2.1 q0) (S.2.1 q) sp.toNatClampNeg dp.toNatClampNeg n9.toNatClampNeg)))) H1 := g1
                  have g2 : va_D A ((pmW ad cA S).set q (ad q, .inl (cA 1, a12, .inl (va_cpy (S.2.1 q0) (S.2.1 q) sp.toNatClampNeg dp.toNatClampNeg n9.toNatClampNeg)))) := g2
                  rw [← hE] at g1 g2
                  exact kk _ _ _ ⟨g1, g2, g3, hr.2.2.2⟩
                · cases h
              · cases h
          · cases h
        · cases h
      · cases h
    · cases h
  · cases h
end PMX
end
section
/-! PM: validity behind steps outside; makes -/
theorem pmVv_up {n m : Nat} {v : Value} (h : pmVv n v) (hn : n ≤ m) : pmVv m v := by
  cases v with
  | ref i => exact h.elim (fun z => Or.inl (Nat.lt_of_lt_of_le z hn)) Or.inr
  | _ => trivial
section PMY
variable {pc : Nat} {L : List (Option Value)} {S : pmS} {st : List Value} {c' : pmC} {ps : List Prop} {E : pmEv0}
theorem pm_big {n : Nat} {b j : Nat} (h : 90000 ≤ b) : pmVv n (.ref (b + j)) := Or.inr (Nat.le_trans h (Nat.le_add_right b j))
theorem pm_bigq {n q b : Nat} (h : b ≤ q) (hb : 90000 ≤ b) (j : Nat) : pmVv n (.ref (q + j)) := Or.inr (Nat.le_trans (Nat.le_trans hb h) (Nat.le_add_right q j))
set_option maxRecDepth 100000 in
theorem pm_xs_vd {b : Nat} {i : Instr} {x : Nat × Nat} (h : pmXs E i x (pc, L, st, S) = some (c', ps)) (hE : pmVv 0 (va_rf E.2.2)) (hv : pmVd (pc, L, st, S)) : pmVd c' ∧ c'.2.2.2.1 = S.1 := by
  unfold pmXs at h
  split at h
  · split at h
    · exact vd_Push hv h (Or.inr (by decide))
    · split at h
      · exact vd_Push hv h trivial
      · split at h
        · exact vd_Push hv h (pmVv_up hE (Nat.zero_le _))
        · cases h
  · split at h
    · split at h
      · exact vd_Push hv h (pm_big (by decide))
      · cases h
    · split at h
      · exact vd_Push hv h trivial
      · cases h
  · split at h
    · split at h
      · exact vd_Push hv h (pm_big (by decide))
      · cases h
    · split at h
      · exact vd_Push hv h trivial
      · split at h
        · exact vd_Push hv h trivial
        · cases h
  · split at h
    · exact vd_Push hv h trivial
    · split at h
      · exact vd_Push hv h trivial
      · cases h
  · split at h
    · rename_i hs
      dsimp only at hs
      subst hs
      split at h
      · rename_i hq
        split at h
        · cases h
          exact ⟨hv.push pm_in1 (pm_bigq hq.1 (by decide) _), rfl⟩
        · split at h
          · cases h
            exact ⟨hv.push pm_in1 trivial, rfl⟩
          · cases h
      · cases h
    · cases h
  · split at h
    · rename_i hs
      dsimp only at hs
      subst hs
      split at h
      · cases h
        exact ⟨hv.push pm_in1 trivial, rfl⟩
      · split at h
        · cases h
          exact ⟨hv.push pm_in1 trivial, rfl⟩
        · split at h
          · cases h
            exact ⟨hv.push pm_in1 trivial, rfl⟩
          · cases h
    · cases h
  · split at h
    · rename_i hs
      dsimp only at hs
      subst hs
      split at h
      · cases h
        exact ⟨hv.push pm_in2 trivial, rfl⟩
      · cases h
    · cases h
  · split at h
    · rename_i hs
      dsimp only at hs
      subst hs
      split at h
      · cases h
        exact ⟨hv.push pm_in2 trivial, rfl⟩
      · cases h
    · cases h
  · split at h
    · rename_i hs
      dsimp only at hs
      subst hs
      split at h
      · cases h
        exact ⟨hv.push pm_in2 trivial, rfl⟩
      · cases h
    · cases h
  · split at h
    · rename_i hs
      dsimp only at hs
      subst hs
      split at h
      · split at h
        · split at h
          · cases h
            exact ⟨⟨hv.1, fun w hw => hv.2.1 w (pm_in3 w (pm_in2 w hw)), hv.2.2⟩, rfl⟩
          · cases h
        · cases h
      · cases h
    · rename_i hs
      dsimp only at hs
      subst hs
      split at h
      · cases h
        exact ⟨hv.push pm_in1 trivial, rfl⟩
      · cases h
    · rename_i hs
      dsimp only at hs
      subst hs
      split at h
      · cases h
        exact ⟨hv.push pm_in1 trivial, rfl⟩
      · cases h
    · cases h
  · split at h
    · rename_i hs
      dsimp only at hs
      subst hs
      split at h
      · cases h
        exact ⟨hv.pops pm_in1, rfl⟩
      · cases h
    · cases h
  · exact vd_Push hv h trivial
  · cases h
set_option maxRecDepth 100000 in
theorem pm_xt_vd {i : Instr} {x : Nat × Nat} (h : pmXt i x (pc, L, st, S) = some (c', ps)) (hv : pmVd (pc, L, st, S)) : pmVd c' ∧ c'.2.2.2.1 = S.1 := by
  unfold pmXt at h
  split at h
  · split at h
    · exact vd_Push hv h (Or.inr (by decide))
    · split at h
      · exact vd_Push hv h (Or.inr (by decide))
      · cases h
  · split at h
    · rename_i hs
      dsimp only at hs
      subst hs
      split at h
      · split at h
        · split at h
          · cases h
            exact ⟨hv.push pm_in1 (pmVv_rf hv.2.2 _ _), rfl⟩
          · split at h
            · cases h
              exact ⟨hv.push pm_in1 trivial, rfl⟩
            · cases h
        · cases h
      · cases h
    · cases h
  · split at h
    · rename_i hs
      dsimp only at hs
      subst hs
      split at h
      · cases h
        exact ⟨hv.push pm_in2 trivial, rfl⟩
      · split at h
        · cases h
          exact ⟨hv.push pm_in2 trivial, rfl⟩
        · cases h
    · cases h
  · split at h
    · rename_i hs
      dsimp only at hs
      subst hs
      split at h
      · split at h
        · split at h
          · split at h
            · cases h
              exact ⟨⟨hv.1, fun w hw => hv.2.1 w (pm_in3 w (pm_in2 w hw)), hv.2.2⟩, rfl⟩
            · split at h
              · split at h
                · cases h
                  exact ⟨⟨hv.1, fun w hw => hv.2.1 w (pm_in3 w (pm_in2 w hw)), hv.2.2⟩, rfl⟩
                · cases h
              · cases h
          · cases h
        · cases h
      · cases h
    · cases h
  · cases h
theorem pm_aas_vd {i : Instr} (h : pmAas i (pc, L, st, S) = some (c', ps)) (hv : pmVd (pc, L, st, S)) : pmVd c' ∧ c'.2.2.2.1 = S.1 := by
  unfold pmAas at h
  split at h
  · split at h
    · rename_i hs
      dsimp only at hs
      subst hs
      split at h
      · split at h
        · cases h
          refine ⟨⟨hv.1, fun w hw => hv.2.1 w (pm_in3 w hw), ?_⟩, rfl⟩
          intro i k z hz
          have h9 := hv.2.1 _ List.mem_cons_self
          unfold pmU at hz
          dsimp only at hz
          split at hz
          · split at hz
            · cases hz
              exact h9
            · exact hv.2.2 _ _ _ hz
          · exact hv.2.2 _ _ _ hz
        · cases h
      · cases h
    · cases h
  · cases h
theorem pmVd_mk {e : Nat ⊕ (Nat × Nat)} {n : Nat} {r : List Value} (hr : ∀ w ∈ r, w ∈ st) (hv : pmVd (pc, L, st, S)) : pmVd (pmMk e n r (pc, L, st, S)) := by
  have hl : (S.1 ++ [e]).length = S.1.length + 1 := by rw [List.length_append]; rfl
  refine ⟨?_, ?_, ?_⟩
  · intro k v hk
    show pmVv (S.1 ++ [e]).length v
    rw [hl]
    exact pmVv_up (hv.1 k v hk) (Nat.le_succ _)
  · intro w hw
    show pmVv (S.1 ++ [e]).length w
    rw [hl]
    rcases List.mem_cons.mp hw with rfl | hw
    · exact Or.inl (Nat.lt_succ_self _)
    · exact pmVv_up (hv.2.1 w (hr w hw)) (Nat.le_succ _)
  · intro i k z hz
    show z < (S.1 ++ [e]).length ∨ _
    rw [hl]
    have hz : (if i = S.1.length then none else S.2.2.2.1 i k) = some z := hz
    split at hz
    · cases hz
    · exact (hv.2.2 i k z hz).imp (fun q => Nat.lt_succ_of_lt q) id
end PMY
section PMZ
variable {p : Program} {l : Launch} {e : Env} {R : Room} {s : State} {m : MethodId} {args : Array Value} {below : List Frame} {meth : Method} {c0 : Code} {H H0 : Heap} {locs : List Loc} {cells slots : Nat} {Q : State → Prop}
variable {cc : ByteArray} {ls : Array Slot} {A : Nat → Prop} {D : va_G} {nL : Nat} {ad : Nat → Nat} {cA : Nat → ClassId} {pc : Nat} {L : List (Option Value)} {S : pmS} {st rest : List Value}
theorem pms_aastore {i : Instr} {n : Nat} {c' : pmC} {ps : List Prop} (hdg : decode cc pc = .ok (i, pmIl i n)) (h : pmAas i (pc, L, st, S) = some (c', ps)) (hp : ∀ P ∈ ps, P) (hK : va_K D pmCl (pmTs cA) s) (hexec : p.tables.exec = Jvm.exec) (hb : c0.code = cc) (hr : pmRel D A H0 nL ad cA (pc, L, st, S) H locs ls) (kk : pmKk p l e R s m args below meth c0 cells slots Q D A H0 nL ad cA c') : W p l e R s m args below meth c0 H locs cells slots Q (F0 m pc ls (st.map (pmRe ad))) := by
  unfold pmAas at h
  split at h
  · split at h
    · rename_i v j q r hs
      dsimp only at hs
      subst hs
      split at h
      · rename_i a ci h0 h1
        split at h
        · rename_i ht
          obtain ⟨t0, rfl⟩ := ht
          obtain ⟨a1, a2⟩ := a
          dsimp only at t0 hp h
          subst t0
          cases h
          have hE : pmW ad cA (S.1, (S.2.1, S.2.2.1, pmU S.2.2.2.1 q j.toNatClampNeg (some v), S.2.2.2.2)) = (pmW ad cA S).set q (ad q, .inl (cA 4, a2, .inr (.inr (.inr (.inr (va_up (fun k => (S.2.2.2.1 q k).map ad) j.toNatClampNeg (some (ad v)))))))) := by
            rw [pmW_set (ad := ad) (cA := cA) (G := S.1) (μ := S.2) (μ' := (S.2.1, S.2.2.1, pmU S.2.2.2.1 q j.toNatClampNeg (some v), S.2.2.2.2)) h0 (fun i hi e => pmE_congr (μ := S.2) (μ' := (S.2.1, S.2.2.1, pmU S.2.2.2.1 q j.toNatClampNeg (some v), S.2.2.2.2)) rfl rfl (pmU_ne _ _ hi) rfl e)]
            unfold pmE pmPay
            simp only [pmU_at]
            have e1 : (fun k => Option.map ad (if k = j.toNatClampNeg then some v else S.2.2.2.1 q k)) = va_up (fun k => (S.2.2.2.1 q k).map ad) j.toNatClampNeg (some (ad v)) := by
              funext k
              unfold va_up
              split <;> rfl
            rw [e1]
          refine va_astq hexec hb hK hr.1 hr.2.1 hr.2.2.1 q 4 v 6 (pmW_at h0) (pmTs_at (by decide)) (pmW_at h1) (r := (RX6, TX6, 15)) rfl (hp _ List.mem_cons_self) hdg (fun H1 locs1 g1 g2 g3 => ?_)
          have g1 : va_P D pmCl ((pmW ad cA S).set q (ad q, .inl (cA 4, a2, .inr (.inr (.inr (.inr (va_up (fun k => (S.2.2.2.1 q k).map ad) j.toNatClampNeg (some (ad v))))))))) H1 := g1
          have g2 : va_D A ((pmW ad cA S).set q (ad q, .inl (cA 4, a2, .inr (.inr (.inr (.inr (va_up (fun k => (S.2.2.2.1 q k).map ad) j.toNatClampNeg (some (ad v))))))))) := g2
          rw [← hE] at g1 g2
          exact kk _ _ _ ⟨g1, g2, g3, hr.2.2.2⟩
        · cases h
      · cases h
    · cases h
  · cases h
/-- behind a make: the new thing has the address q -/
theorem pmMk_rel {e0 : Nat ⊕ (Nat × Nat)} {n q : Nat} {r : List Value} {H1 : Heap} {en : va_E} (hv : pmVd (pc, L, st, S)) (hr : pmRel D A H0 nL ad cA (pc, L, st, S) H locs ls) (hlen : S.1.length < 90000)
    (he : pmE (fun i => if i = S.1.length then q else ad i) cA (pmZ S.1.length S.2) S.1.length e0 = en)
    (g1 : va_P D pmCl (pmW ad cA S ++ [(q, en)]) H1) (g2 : va_D A (pmW ad cA S ++ [(q, en)])) (g3 : va_S A H0 H1 locs) :
    pmRel D A H0 nL (fun i => if i = S.1.length then q else ad i) cA (pmMk e0 n r (pc, L, st, S)) H1 locs ls ∧ pmEx ad (fun i => if i = S.1.length then q else ad i) S.1.length := by
  have hx : pmEx ad (fun i => if i = S.1.length then q else ad i) S.1.length := by
    intro i hi
    show (if i = S.1.length then q else ad i) = ad i
    rw [if_neg (by omega)]
  have hW : pmW (fun i => if i = S.1.length then q else ad i) cA (S.1 ++ [e0], pmZ S.1.length S.2) = pmW ad cA S ++ [(q, en)] := by
    rw [← hx.w hv.2.2, ← he]
    unfold pmW
    refine List.ext_getElem? fun i => ?_
    rw [List.getElem?_mapIdx]
    rcases Nat.lt_or_ge i S.1.length with hi | hi
    · rw [List.getElem?_append_left hi, List.getElem?_append_left (by rw [List.length_mapIdx]; exact hi), List.getElem?_mapIdx]
      cases S.1[i]? with
      | none => rfl
      | some e9 =>
        show some (_, pmE _ cA (pmZ S.1.length S.2) i e9) = some (_, pmE _ cA S.2 i e9)
        rw [pmE_congr (μ := S.2) (μ' := pmZ S.1.length S.2) (i := i) (by funext k; exact if_neg (by omega)) (by funext k; exact if_neg (by omega)) (by funext k; exact if_neg (by omega)) (by funext k; exact if_neg (by omega))]
    · rw [List.getElem?_append_right hi, List.getElem?_append_right (by rw [List.length_mapIdx]; exact hi), List.length_mapIdx]
      rcases Nat.eq_or_lt_of_le hi with h9 | h9
      · subst h9
        simp
      · rw [List.getElem?_eq_none (by show 1 ≤ _; omega), List.getElem?_eq_none (by show 1 ≤ _; omega)]
        rfl
  refine ⟨⟨?_, ?_, g3, ?_, hr.2.2.2.2⟩, hx⟩
  · show va_P D pmCl (pmW _ cA (S.1 ++ [e0], pmZ S.1.length S.2)) H1
    rw [hW]; exact g1
  · show va_D A (pmW _ cA (S.1 ++ [e0], pmZ S.1.length S.2))
    rw [hW]; exact g2
  · show lv_has ls nL (pmLv _ L)
    rw [hx.lv hv.1]
    exact hr.2.2.2.1
end PMZ
end
section
/-! PM: makes are the machine's -/
def pmTyOk (t : FieldType) : Bool := match t with | .int => true | .long => true | .boolean => true | .byte => true | .object _ => true | .array _ => true | _ => false
theorem pmTy_ok : ∀ c, c < 11 → ∀ k, k < pmN c → pmTyOk (pmTy c k) = true := by decide +kernel
theorem pmRd_z {t : FieldType} (h : pmTyOk t = true) (q k : Nat) (μ : pmM) : pmRd t (pmZ q μ) q k = defaultValue t := by
  cases t <;> first | (simp [pmRd, pmZ, defaultValue, va_rf]; done) | (simp [pmTyOk] at h)
theorem pm_dflt_re (ad : Nat → Nat) (t : FieldType) : pmRe ad (defaultValue t) = defaultValue t := by cases t <;> rfl
/-- a new array's kind is the entry's -/
def pmOa (i : Instr) (x : Nat × Nat) : Bool := match i with
  | .newarray t => decide (newarray.typeOf t = pmAt x.2)
  | _ => true
section PMA
variable {p : Program} {l : Launch} {e : Env} {R : Room} {s : State} {m : MethodId} {args : Array Value} {below : List Frame} {meth : Method} {c0 : Code} {H H0 : Heap} {locs : List Loc} {cells slots : Nat} {Q : State → Prop}
variable {cc : ByteArray} {ls : Array Slot} {A : Nat → Prop} {D : va_G} {nL : Nat} {ad : Nat → Nat} {cA : Nat → ClassId} {pc : Nat} {L : List (Option Value)} {S : pmS} {st rest : List Value}
/-- what goes on behind a make: over some addresses that agree with the old ones -/
def pmKa (p : Program) (l : Launch) (e : Env) (R : Room) (s : State) (m : MethodId) (args : Array Value) (below : List Frame) (meth : Method) (c0 : Code) (cells slots : Nat) (Q : State → Prop) (D : va_G) (A : Nat → Prop) (H0 : Heap) (nL : Nat) (ad : Nat → Nat) (n : Nat) (cA : Nat → ClassId) (c : pmC) : Prop :=
  ∀ (ad' : Nat → Nat), pmEx ad ad' n → pmKk p l e R s m args below meth c0 cells slots Q D A H0 nL ad' cA c
theorem pmMk_st {e0 : Nat ⊕ (Nat × Nat)} {n q : Nat} {r : List Value} (hr : ∀ w ∈ r, w ∈ st) (hlen : S.1.length < 90000) (hv : pmVd (pc, L, st, S)) : (pmMk e0 n r (pc, L, st, S)).2.2.1.map (pmRe (fun i => if i = S.1.length then q else ad i)) = .ref q :: r.map (pmRe ad) := by
  have hx : pmEx ad (fun i => if i = S.1.length then q else ad i) S.1.length := by
    intro i hi
    show (if i = S.1.length then q else ad i) = ad i
    rw [if_neg (by omega)]
  show Value.ref (if S.1.length = S.1.length then q else ad S.1.length) :: r.map (pmRe (fun i => if i = S.1.length then q else ad i)) = _
  rw [if_pos rfl, hx.map (fun v h => hv.2.1 v (hr v h))]
theorem pm_al_ok {i : Instr} {n : Nat} {x : Nat × Nat} {c' : pmC} {a b : Nat} {own : String} (hdg : decode cc pc = .ok (i, pmIl i n)) (h : pmAl i x (pc, L, st, S) = some (c', a, b)) (hws : ∀ w ∈ pmWs own i x, w.before args s = true) (hoa : pmOa i x = true) (hao : va_AO RX6 s) (hown : s.vm.findClass own = some m.cls) (hK : va_K D pmCl (pmTs cA) s) (hA : ∀ q, H0.size ≤ q → A q) (hc : cells + a ≤ R.cells) (hs : slots + b ≤ R.slots) (hv : pmVd (pc, L, st, S)) (hexec : p.tables.exec = Jvm.exec) (hb : c0.code = cc) (hr : pmRel D A H0 nL ad cA (pc, L, st, S) H locs ls) (kk : pmKa p l e R s m args below meth c0 (cells + a) (slots + b) Q D A H0 nL ad S.1.length cA c') : W p l e R s m args below meth c0 H locs cells slots Q (F0 m pc ls (st.map (pmRe ad))) := by
  unfold pmAl at h
  split at h
  · rename_i hlen
    split at h
    · rename_i k
      split at h
      · rename_i hx
        cases h
        dsimp only [pmWs] at hws
        rw [if_pos hx.1] at hws
        refine va_new (ci := x.2) (C := pmCN x.2) (T := pmT x.2) (N := pmN x.2) (fs := (List.range (pmN x.2)).map (fun k => defaultValue (pmTy x.2 k))) hexec hb hws (fun w hw => List.mem_append_right _ hw) (pmTy x.2) (pmCl_ty hx.2) hown (hws _ (List.mem_append_left _ List.mem_cons_self)) (hws _ (List.mem_append_left _ (List.mem_cons_of_mem _ List.mem_cons_self))) (hws _ (List.mem_append_left _ (List.mem_cons_of_mem _ (List.mem_cons_of_mem _ List.mem_cons_self)))) hK hr.1 hr.2.1 hr.2.2.1 hA (pmCl_at hx.2) ?_ hc hs hdg (fun q H1 g1 g2 g3 => ?_)
        · intro j hj
          unfold vp_V
          rw [List.getD_eq_getElem?_getD, List.getElem?_map, List.getElem?_range hj]
          rfl
        · have he : pmE (fun i => if i = S.1.length then q else ad i) cA (pmZ S.1.length S.2) S.1.length (.inl x.2) = .inr (x.2, (List.range (pmN x.2)).map (fun k => defaultValue (pmTy x.2 k))) := by
            have e1 : (List.range (pmN x.2)).map (fun k => pmRe (fun i => if i = S.1.length then q else ad i) (pmRd (pmTy x.2 k) (pmZ S.1.length S.2) S.1.length k)) = (List.range (pmN x.2)).map (fun k => defaultValue (pmTy x.2 k)) := by
              refine List.map_congr_left fun k hk => ?_
              rw [pmRd_z (pmTy_ok _ hx.2 _ (List.mem_range.mp hk)), pm_dflt_re]
            exact congrArg (fun z => Sum.inr (x.2, z)) e1
          obtain ⟨r1, r2⟩ := pmMk_rel (n := 3) (r := st) hv hr hlen he g1 g2 g3
          have k1 := kk _ r2 _ _ _ r1
          rw [pmMk_st (fun _ h => h) hlen hv] at k1
          exact k1
      · cases h
    · rename_i ty
      split at h
      · rename_i n9 r hs9
        dsimp only at hs9
        subst hs9
        split at h
        · rename_i hx
          cases h
          dsimp only [pmWs] at hws
          have hty : newarray.typeOf ty = pmAt x.2 := by simpa [pmOa] using hoa
          have hN : n9.toNatClampNeg ≤ 10000 := hx.2.2.2
          have key : ∀ (a0 : vp_A), (∀ cA : ClassId, vp_cell cA a0 = arrV cA n9.toNatClampNeg (fun _ => defaultValue (pmAt x.2))) → (∀ q, pmE (fun i => if i = S.1.length then q else ad i) cA (pmZ S.1.length S.2) S.1.length (.inr (x.2, n9.toNatClampNeg)) = .inl (cA x.2, a0)) → n9.toNatClampNeg * componentBytes (pmAt x.2) ≤ 536870912 → (pmAt x.2).toString = (pmAt x.2).toString → (∀ cB : ClassId, va_RA s cB (pmAt x.2) → cB = cA x.2) → W p l e R s m args below meth c0 H locs cells slots Q (F0 m pc ls ((Value.int n9 :: r).map (pmRe ad))) := by
            intro a0 h1 h2 h3 _ h5
            refine va_newa (a0 := a0) hexec hb (by rw [hty]; exact hws _ List.mem_cons_self) hty hK hr.1 hr.2.1 hr.2.2.1 hA h1 hx.2.2.1 rfl h3 hc hs hdg (fun q cB H1 gK g1 g2 g3 => ?_)
            have hB : cB = cA x.2 := h5 cB (gK.2 5 (cB, pmAt x.2) rfl).2
            subst hB
            obtain ⟨r1, r2⟩ := pmMk_rel (n := 2) (r := r) hv hr hlen (h2 q) g1 g2 g3
            have k1 := kk _ r2 _ _ _ r1
            rw [pmMk_st pm_in1 hlen hv] at k1
            exact k1
          have hz : ∀ (t : Nat), (hK.2 t (cA t, pmAt t)) = (hK.2 t (cA t, pmAt t)) := fun _ => rfl
          rcases (show x.2 = 0 ∨ x.2 = 1 ∨ x.2 = 2 ∨ x.2 = 3 by have := hx.2.1; omega) with h9 | h9 | h9 | h9
          · rw [h9] at key
            exact key (n9.toNatClampNeg, .inl (fun _ => 0)) (fun _ => rfl) (fun q => by unfold pmE pmPay pmZ; simp) (by simp [componentBytes, pmAt]; omega) rfl (fun cB hB => by have h0 := (hK.2 0 (cA 0, .int) rfl).2; exact Option.some.inj (hB.symm.trans h0))
          · rw [h9] at key
            exact key (n9.toNatClampNeg, .inl (fun _ => 0)) (fun _ => rfl) (fun q => by unfold pmE pmPay pmZ; simp) (by simp [componentBytes, pmAt]; omega) rfl (fun cB hB => by have h0 := (hK.2 1 (cA 1, .byte) rfl).2; exact Option.some.inj (hB.symm.trans h0))
          · rw [h9] at key
            exact key (n9.toNatClampNeg, .inl (fun _ => 0)) (fun _ => rfl) (fun q => by unfold pmE pmPay pmZ; simp) (by simp [componentBytes, pmAt]; omega) rfl (fun cB hB => by have h0 := (hK.2 2 (cA 2, .char) rfl).2; exact Option.some.inj (hB.symm.trans h0))
          · rw [h9] at key
            exact key (n9.toNatClampNeg, .inl (fun _ => 0)) (fun _ => rfl) (fun q => by unfold pmE pmPay pmZ; simp) (by simp [componentBytes, pmAt]; omega) rfl (fun cB hB => by have h0 := (hK.2 3 (cA 3, .int) rfl).2; exact Option.some.inj (hB.symm.trans h0))
        · cases h
      · cases h
    · rename_i k
      split at h
      · rename_i n9 r hs9
        dsimp only at hs9
        subst hs9
        split at h
        · rename_i hx
          cases h
          dsimp only [pmWs] at hws
          have hN : n9.toNatClampNeg ≤ 10000 := hx.2.2.2
          refine va_newq hexec hb hown (hws _ List.mem_cons_self) hao hK hr.1 hr.2.1 hr.2.2.1 hA hx.2.2.1 rfl (by omega) hc hs hdg (fun q cB H1 gK g1 g2 g3 => ?_)
          have hB : cB = cA 4 := by
            obtain ⟨k1, c1, -, -, -, j1⟩ := (gK.2 5 (cB, .object RX6) rfl).2
            obtain ⟨k2, c2, -, -, -, j2⟩ := (hK.2 4 (cA 4, .object RX6) rfl).2
            exact Option.some.inj (j1.symm.trans j2)
          subst hB
          have he : pmE (fun i => if i = S.1.length then q else ad i) cA (pmZ S.1.length S.2) S.1.length (.inr (4, n9.toNatClampNeg)) = .inl (cA 4, n9.toNatClampNeg, .inr (.inr (.inr (.inr (fun _ => none))))) := by
            unfold pmE pmPay pmZ
            simp
          obtain ⟨r1, r2⟩ := pmMk_rel (n := 3) (r := r) hv hr hlen he g1 g2 g3
          have k1 := kk _ r2 _ _ _ r1
          rw [pmMk_st pm_in1 hlen hv] at k1
          exact k1
        · cases h
      · cases h
    · cases h
  · cases h
end PMA
end
section
/-! PM: calls -/
def pmHh (hd : List (Nat × Nat × Nat × Nat × Nat)) : List (Nat × Nat × Nat × Nat) := hd.map (fun q => (q.1, q.2.1, q.2.2.1, q.2.2.2.1))
/-- the word of a method's own code -/
def pmHw (m : pmMe) : Cond := if pmHd m = [] then .code (pmNm m) (pmBy m) (pmMx m) (pmRt m) else .codeWith (pmNm m) (pmBy m) (pmMx m) (pmRt m) (pmHh (pmHd m))
/-- the room of a call d deep -/
def pmRm (d : Nat) (r : pmR) : Room := { frames := 8 + 2 * d, cells := r.2.2.1, slots := r.2.2.2, locals := 200 + 60 * d }
/-- a store's picture in a heap, its things apart and of a kind -/
def pmBp (D : va_G) (cA : Nat → ClassId) (ad : Nat → Nat) (A : Nat → Prop) (S : pmS) (H : Heap) : Prop :=
  va_P D pmCl (pmW ad cA S) H ∧ va_D A (pmW ad cA S) ∧ pmVm S.1.length S.2 ∧ S.1.length ≤ 90000
def pmQc (D : va_G) (cA : Nat → ClassId) (ad : Nat → Nat) (S : pmS) (sz : Nat) (r : pmR) : Array Value → State → Outcome → State → Prop := fun _ st oc t =>
  ∃ v ad', r.1 = .inl v ∧ oc = .returned (v.map (pmRe ad')) ∧ (∀ w, v = some w → pmVv r.2.1.1.length w) ∧ pmEx ad ad' S.1.length ∧ S.1.length ≤ r.2.1.1.length ∧ pmBp D cA ad' (va_A (pmW ad cA S) sz) r.2.1 t.heap ∧ va_F (va_A (pmW ad cA S) sz) st t
def pmXC (D : va_G) (cA : Nat → ClassId) (ad : Nat → Nat) (S : pmS) (sz : Nat) (r : pmR) : String → State → State → Prop := fun X st t =>
  ∃ k ad', r.1 = .inr k ∧ X = pmXn k ∧ pmEx ad ad' S.1.length ∧ S.1.length ≤ r.2.1.1.length ∧ pmBp D cA ad' (va_A (pmW ad cA S) sz) r.2.1 t.heap ∧ va_F (va_A (pmW ad cA S) sz) st t
/-- a method's contract: this call, over this store, ends so -/
def pmCon (l : Launch) (Pg : Nat → pmMe) (TB : List Cond) (E : pmEv0) (D : va_G) (cA : Nat → ClassId) (d t : Nat) (as : List Value) (S : pmS) (r : pmR) : Prop :=
  ∀ (ad : Nat → Nat) (sz : Nat), (∀ v ∈ as, pmVv S.1.length v) → vx_Met l (pmNm (Pg t)) (pmHw (Pg t) :: TB) (pmRm d r) (va_Pc (as.map (pmRe ad)) (fun U => U.heap.size = sz ∧ pmBw E D cA ad S U)) (pmQc D cA ad S sz r) (pmXC D cA ad S sz r) r.2.2.1 r.2.2.2 (va_A (pmW ad cA S) sz)
/-- the words of a call -/
def pmWc (Pg : Nat → pmMe) (own : String) (i : Instr) (x : Nat × Nat) : List Cond := match i with
  | .invokestatic k => if x.1 = 0 then [.methodLink own k (pmNm (Pg x.2)), .static (pmNm (Pg x.2)), .initialized (pmNm (Pg x.2)).cls, pmHw (Pg x.2)] else if x.1 = 1 then [.static (pmNm (Pg x.2)), .initialized (pmNm (Pg x.2)).cls, pmHw (Pg x.2)] else if x.1 = 6 then [.methodLink own k (pmNm (Pg x.2)), .static (pmNm (Pg x.2)), .initialized (pmNm (Pg x.2)).cls, pmHw (Pg x.2)] else []
  | .invokevirtual k => if x.1 = 2 then [.methodLink own k (pmNm (Pg x.2)), .instanceMethod (pmNm (Pg x.2)), .selects (pmNm (Pg x.2)).cls (pmNm (Pg x.2)) (pmNm (Pg x.2)), .initialized (pmNm (Pg x.2)).cls, pmHw (Pg x.2)] else if x.1 = 3 then [.instanceMethod (pmNm (Pg x.2)), .selects (pmNm (Pg x.2)).cls (pmNm (Pg x.2)) (pmNm (Pg x.2)), .initialized (pmNm (Pg x.2)).cls, pmHw (Pg x.2)] else if x.1 = 9 then [.methodLink own k (pmNm (Pg x.2)), .sameMethod (pmNm (Pg x.2)).cls (pmNm (Pg x.2)).cls (pmNm (Pg x.2)).name (pmNm (Pg x.2)).desc, .selects RJ4 (pmNm (Pg x.2)) (pmNm (Pg x.2)), .instanceMethod (pmNm (Pg x.2)), .initialized (pmNm (Pg x.2)).cls, pmHw (Pg x.2)] else []
  | .invokespecial k => if x.1 = 4 then [.methodLink own k (pmNm (Pg x.2)), .instanceMethod (pmNm (Pg x.2)), .initialized (pmNm (Pg x.2)).cls, pmHw (Pg x.2)] else if x.1 = 5 then [.instanceMethod (pmNm (Pg x.2)), .initialized (pmNm (Pg x.2)).cls, pmHw (Pg x.2)] else if x.1 = 7 then [.methodLink own k (pmNm (Pg x.2)), .instanceMethod (pmNm (Pg x.2)), .initialized (pmNm (Pg x.2)).cls, pmHw (Pg x.2)] else if x.1 = 8 then [.methodLink own k (pmNm (Pg x.2)), .sameMethod (pmNm (Pg x.2)).cls (pmNm (Pg x.2)).cls (pmNm (Pg x.2)).name (pmNm (Pg x.2)).desc, .superclass own (pmNm (Pg x.2)).cls, .instanceMethod (pmNm (Pg x.2)), .initialized (pmNm (Pg x.2)).cls, pmHw (Pg x.2)] else []
  | _ => []
/-- .. across the nest -/
def pmWn (Pg : Nat → pmMe) (own : String) (i : Instr) (x : Nat × Nat) : List Cond := match i with
  | .invokestatic k => if x.1 = 1 then [.methodLinkNest own k (pmNm (Pg x.2)) "StageBallet"] else []
  | .invokevirtual k => if x.1 = 3 then [.methodLinkNest own k (pmNm (Pg x.2)) "StageBallet"] else []
  | .invokespecial k => if x.1 = 5 then [.methodLinkNest own k (pmNm (Pg x.2)) "StageBallet"] else []
  | _ => []
/-- the plain checks of a call's entry -/
def pmOc (Pg : Nat → pmMe) (i : Instr) (x : Nat × Nat) : Bool := match pmTg i x with
  | none => true
  | some t => decide ((pmNm (Pg t)).cls ≠ "java/lang/invoke/MethodHandle") && decide ((pmNm (Pg t)).cls ≠ "java/lang/invoke/VarHandle") && decide (pmMx (Pg t) ≤ 20)
      && (match i with | .invokestatic _ => decide ((parseMethodDescriptor (pmNm (Pg t)).desc).map (fun d => d.parameters.length) = some (pmNa (Pg t))) | _ => decide ((parseMethodDescriptor (pmNm (Pg t)).desc).map (fun d => d.parameters.length + 1) = some (pmNa (Pg t))))
      && (match i with | .invokespecial _ => if x.1 = 8 then decide ((pmNm (Pg t)).name ≠ "<init>") else decide ((pmNm (Pg t)).name = "<init>") && decide (pmRt (Pg t) = none) | _ => true)
      && (if x.1 = 6 then decide (pmHd (Pg t) ≠ []) else decide (pmHd (Pg t) = []))
section PMC
variable {p : Program} {l : Launch} {e : Env} {R : Room} {s : State} {m : MethodId} {args : Array Value} {below : List Frame} {meth : Method} {c0 : Code} {H H0 : Heap} {locs : List Loc} {cells slots : Nat} {Q : State → Prop}
variable {cc : ByteArray} {ls : Array Slot} {A : Nat → Prop} {D : va_G} {nL : Nat} {ad : Nat → Nat} {cA : Nat → ClassId} {pc : Nat} {L : List (Option Value)} {S : pmS} {st rest : List Value} {Pg : Nat → pmMe} {TB : List Cond} {E : pmEv0}
/-- behind a call: it returned, or threw -/
theorem pm_after {st0 rest : List Value} {a : Array Value} {r : pmR} {mc ms : Nat} (hr : vx_Run p l e R s m args below meth c0 H locs cells slots mc ms (F0 m pc ls st0) rest (pmQc D cA ad S H.size r a) (pmXC D cA ad S H.size r) (va_A (pmW ad cA S) H.size)) (hS : va_S A H0 H locs) (hF : ∀ q, va_A (pmW ad cA S) H.size q → A q)
    (kx : ∀ (k : Nat) (ad' : Nat → Nat) (ce : Cell) (q9 : Addr) (H1 : Heap) (locs1 : List Loc), r.1 = .inr k → pmEx ad ad' S.1.length → S.1.length ≤ r.2.1.1.length → pmBp D cA ad' A r.2.1 H1 → va_S A H0 H1 locs1 → H1[q9]? = some ce → ce.vm = .none → s.vm.findClass (pmXn k) = some ce.cls → vx_W p l e R s m args below meth c0 H1 locs1 (cells + mc) (slots + ms) Q (F0 m pc ls rest) q9)
    (kk : ∀ (v : Option Value) (ad' : Nat → Nat) (H1 : Heap) (locs1 : List Loc), r.1 = .inl v → (∀ w, v = some w → pmVv r.2.1.1.length w) → pmEx ad ad' S.1.length → S.1.length ≤ r.2.1.1.length → pmBp D cA ad' A r.2.1 H1 → va_S A H0 H1 locs1 → W p l e R s m args below meth c0 H1 locs1 (cells + mc) (slots + ms) Q (F0 m (pc + 3) ls ((v.map (pmRe ad')).toList ++ rest))) :
    W p l e R s m args below meth c0 H locs cells slots Q (F0 m pc ls st0) := by
  intro T hT X
  rcases hr T hT X with ⟨v, st₀, t, T', L, h0, X', hL, e1, e2, ⟨v9, ad', hv, hoc, hvv, hx, hle, ⟨b1, b2, b3⟩, hFr⟩, st⟩ | ⟨q, st₀, t, T', L, En, ce, h0, X', hL, e1, e2, ⟨k9, ad', hv, hE, hx, hle, ⟨b1, b2, b3⟩, hFr⟩, hce, hcv, hcl, st⟩
  · obtain ⟨k1, k2, k3⟩ := vx_keep h0 e1 hS (fun q _ h => hF q h) hF hL hFr
    cases hoc
    obtain ⟨t2, a1, c1⟩ := kk v9 ad' T'.heap (locs ++ L) hv hvv hx hle ⟨by rw [e1]; exact b1, b2.weaken (fun _ q _ h => hF q.1 h), b3⟩ k3 T' rfl X'
    exact ⟨t2, st t2 a1, c1⟩
  · obtain ⟨k1, k2, k3⟩ := vx_keep h0 e1 hS (fun q _ h => hF q h) hF hL hFr
    subst hE
    obtain ⟨t2, a1, c1⟩ := kx k9 ad' ce q T'.heap (locs ++ L) hv hx hle ⟨by rw [e1]; exact b1, b2.weaken (fun _ q _ h => hF q.1 h), b3⟩ k3 (by rw [e1]; exact hce) hcv hcl T' rfl X'
    exact ⟨t2, st.trans a1, c1⟩
/-- the world that a callee starts with -/
theorem pm_pre (hK : va_K D pmCl (pmTs cA) s) (hP : va_P D pmCl (pmW ad cA S) H) (hD : va_D A (pmW ad cA S)) (hS : va_S A s.heap H locs) (hF : ∀ q, va_A (pmW ad cA S) H.size q → A q) (hEn : pmEn E ad A s s.heap) (hV : pmVm S.1.length S.2) (hl : S.1.length ≤ 90000) (as : List Value) :
    PreS s H (va_Pc (as.map (pmRe ad)) (fun U => U.heap.size = H.size ∧ pmBw E D cA ad S U)) (as.map (pmRe ad)) := by
  refine ⟨fun a U g mk q => ?_, fun U hU hW => ⟨rfl, by rw [hU], by rw [hU]; exact hP, va_K.moved hW.alike hK, hD.weaken (fun _ _ _ _ => trivial), ?_, hV, hl⟩⟩
  · obtain ⟨q0, q1, qP, qK, qD, qE, qV⟩ := q
    exact ⟨q0, q1, qP, va_K.moved (u := U) (U := U.calling g mk a) (Vm.Alike.refl U.vm) qK, qD, pmEn.same (u := U) (U := U.calling g mk a) rfl qE, qV⟩
  · rw [hU]
    exact hEn.go hW (fun _ _ => rfl) hS.2.1 hS.1 hF
end PMC
end
section
/-! PM: a call by its entry's kind -/
section PMD
variable {p : Program} {l : Launch} {e : Env} {R : Room} {s : State} {m : MethodId} {args : Array Value} {below : List Frame} {meth : Method} {c0 : Code} {H H0 : Heap} {locs : List Loc} {cells slots : Nat} {Q : State → Prop}
variable {cc : ByteArray} {ls : Array Slot} {A : Nat → Prop} {D : va_G} {nL : Nat} {ad : Nat → Nat} {cA : Nat → ClassId} {pc : Nat} {L : List (Option Value)} {S : pmS} {st rest : List Value} {Pg : Nat → pmMe} {TB : List Cond} {E : pmEv0}
/-- all words of the list are such as a callee keeps -/
def pmGood (TB : List Cond) : Prop := ∀ w ∈ TB, (w.onTables && w.keeps) = true ∨ ∃ ty, w = .arrayClass ty
theorem pm_hw {t : Nat} (hTB : ∀ w ∈ TB, w.before args s = true) (hG : pmGood TB) (hh : pmHw (Pg t) ∈ TB) : ∀ w ∈ pmHw (Pg t) :: TB, ∀ (a' : Array Value) (U : State), s.WarmedH U.vm → w.before a' U = true := by
  intro w hw a' U hW
  have h1 : w ∈ TB := by
    rcases List.mem_cons.mp hw with rfl | h
    · exact hh
    · exact h
  exact word_at hW (hG w h1) (hTB w h1)
theorem pm_rv {w : Value} {cls : String} (hK : va_K D pmCl (pmTs cA) s) (hP : va_P D pmCl (pmW ad cA S) H) (hS : va_S A s.heap H locs) (hEn : pmEn E ad A s s.heap) (h : pmRv S cls w) : ∃ q, w = .ref q ∧ ∃ cell : Cell, H[ad q]? = some cell ∧ cell.vm.isStatics = false ∧ s.vm.findClass cls = some cell.cls := by
  obtain ⟨q, rfl, h | h⟩ := h
  · obtain ⟨c, h1, h2, h3⟩ := h
    subst h3
    exact ⟨q, rfl, va_recv hK hP (pmCl_at h2) (pmW_at h1)⟩
  · obtain ⟨h1, h2, rfl⟩ := h
    obtain ⟨j, rfl⟩ := pm_off h1
    obtain ⟨cell, g1, g2, g3, -⟩ := ((hEn.2.2.2.2.2.1 j (pm_offl h2)).2.1.kept hS.2.1)
    exact ⟨_, rfl, cell, g1, g2, g3⟩
theorem pm_CB {t d k n : Nat} {own : String} {r : pmR} (hhd : pmHd (Pg t) = []) (hTB : ∀ w ∈ TB, w.before args s = true) (hG : pmGood TB) (hh : pmHw (Pg t) ∈ TB) (hlink : Cond.methodLink own k (pmNm (Pg t)) ∈ TB) (hini : Cond.initialized (pmNm (Pg t)).cls ∈ TB) (hcls : (pmNm (Pg t)).cls ≠ "java/lang/invoke/MethodHandle" ∧ (pmNm (Pg t)).cls ≠ "java/lang/invoke/VarHandle") (hlen : ∀ sig, parseMethodDescriptor (pmNm (Pg t)).desc = some sig → n = sig.parameters.length) (hmx : pmMx (Pg t) ≤ 20) (hRf : 8 + 2 * d + 1 ≤ R.frames) (hRl : 200 + 60 * d + 39 ≤ R.locals) :
    CallB R s args own k (pmNm (Pg t)) (pmBy (Pg t)) (pmMx (Pg t)) (pmRt (Pg t)) (pmHw (Pg t) :: TB) (pmRm d r) r.2.2.1 r.2.2.2 n := by
  have hc : pmHw (Pg t) = .code (pmNm (Pg t)) (pmBy (Pg t)) (pmMx (Pg t)) (pmRt (Pg t)) := if_pos hhd
  refine ⟨rfl, rfl, hRf, ?_, pm_hw hTB hG hh, by rw [hc]; exact List.mem_cons_self, by rw [← hc]; exact hTB _ hh, hTB _ hini, hcls, hlen, hTB _ hlink⟩
  show 8 + (pmMx (Pg t) + 11) + (200 + 60 * d) ≤ R.locals
  omega
theorem pm_CN {t d k n : Nat} {own : String} {r : pmR} (hhd : pmHd (Pg t) = []) (hTB : ∀ w ∈ TB, w.before args s = true) (hG : pmGood TB) (hh : pmHw (Pg t) ∈ TB) (hlink : (Cond.methodLinkNest own k (pmNm (Pg t)) "StageBallet").before args s = true) (hini : Cond.initialized (pmNm (Pg t)).cls ∈ TB) (hcls : (pmNm (Pg t)).cls ≠ "java/lang/invoke/MethodHandle" ∧ (pmNm (Pg t)).cls ≠ "java/lang/invoke/VarHandle") (hlen : ∀ sig, parseMethodDescriptor (pmNm (Pg t)).desc = some sig → n = sig.parameters.length) (hmx : pmMx (Pg t) ≤ 20) (hRf : 8 + 2 * d + 1 ≤ R.frames) (hRl : 200 + 60 * d + 39 ≤ R.locals) :
    va_CN R s args own k (pmNm (Pg t)) "StageBallet" (pmBy (Pg t)) (pmMx (Pg t)) (pmRt (Pg t)) (pmHw (Pg t) :: TB) (pmRm d r) r.2.2.1 r.2.2.2 n := by
  have hc : pmHw (Pg t) = .code (pmNm (Pg t)) (pmBy (Pg t)) (pmMx (Pg t)) (pmRt (Pg t)) := if_pos hhd
  refine ⟨⟨rfl, rfl, hRf, ?_, pm_hw hTB hG hh, by rw [hc]; exact List.mem_cons_self⟩, by rw [← hc]; exact hTB _ hh, hTB _ hini, hcls, hlen, hlink⟩
  show 8 + (pmMx (Pg t) + 11) + (200 + 60 * d) ≤ R.locals
  omega
theorem pm_CSW {t d k n : Nat} {own : String} {r : pmR} (hhd : pmHd (Pg t) ≠ []) (hTB : ∀ w ∈ TB, w.before args s = true) (hG : pmGood TB) (hh : pmHw (Pg t) ∈ TB) (hlink : Cond.methodLink own k (pmNm (Pg t)) ∈ TB) (hst : Cond.static (pmNm (Pg t)) ∈ TB) (hini : Cond.initialized (pmNm (Pg t)).cls ∈ TB) (hcls : (pmNm (Pg t)).cls ≠ "java/lang/invoke/MethodHandle" ∧ (pmNm (Pg t)).cls ≠ "java/lang/invoke/VarHandle") (hlen : ∀ sig, parseMethodDescriptor (pmNm (Pg t)).desc = some sig → n = sig.parameters.length) (hmx : pmMx (Pg t) ≤ 20) (hRf : 8 + 2 * d + 1 ≤ R.frames) (hRl : 200 + 60 * d + 39 ≤ R.locals) :
    vx_CSW R s args own k (pmNm (Pg t)) (pmBy (Pg t)) (pmMx (Pg t)) (pmRt (Pg t)) (pmHh (pmHd (Pg t))) (pmHw (Pg t) :: TB) (pmRm d r) r.2.2.1 r.2.2.2 n := by
  have hc : pmHw (Pg t) = .codeWith (pmNm (Pg t)) (pmBy (Pg t)) (pmMx (Pg t)) (pmRt (Pg t)) (pmHh (pmHd (Pg t))) := if_neg hhd
  refine ⟨⟨rfl, rfl, hRf, ?_, pm_hw hTB hG hh, by rw [hc]; exact List.mem_cons_self⟩, by rw [← hc]; exact hTB _ hh, hTB _ hini, hcls, hlen, hTB _ hlink, hTB _ hst⟩
  show 8 + (pmMx (Pg t) + 11) + (200 + 60 * d) ≤ R.locals
  omega
theorem pm_len0 {t n : Nat} (h : (parseMethodDescriptor (pmNm (Pg t)).desc).map (fun d => d.parameters.length) = some n) : ∀ sig, parseMethodDescriptor (pmNm (Pg t)).desc = some sig → n = sig.parameters.length := by
  intro sig hs
  rw [hs] at h
  exact (Option.some.inj h).symm
theorem pm_len1 {t n : Nat} (h : (parseMethodDescriptor (pmNm (Pg t)).desc).map (fun d => d.parameters.length + 1) = some (n + 1)) : ∀ sig, parseMethodDescriptor (pmNm (Pg t)).desc = some sig → n = sig.parameters.length := by
  intro sig hs
  rw [hs] at h
  have h2 : sig.parameters.length + 1 = n + 1 := Option.some.inj h
  omega
theorem pm_CU {t d k n : Nat} {own : String} {r : pmR} (hhd : pmHd (Pg t) = []) (hTB : ∀ w ∈ TB, w.before args s = true) (hG : pmGood TB) (hh : pmHw (Pg t) ∈ TB) (hlink : Cond.methodLink own k (pmNm (Pg t)) ∈ TB) (hsame : Cond.sameMethod (pmNm (Pg t)).cls (pmNm (Pg t)).cls (pmNm (Pg t)).name (pmNm (Pg t)).desc ∈ TB) (hsel : Cond.selects RJ4 (pmNm (Pg t)) (pmNm (Pg t)) ∈ TB) (hinst : Cond.instanceMethod (pmNm (Pg t)) ∈ TB) (hini : Cond.initialized (pmNm (Pg t)).cls ∈ TB) (hcls : (pmNm (Pg t)).cls ≠ "java/lang/invoke/MethodHandle" ∧ (pmNm (Pg t)).cls ≠ "java/lang/invoke/VarHandle") (hlen : ∀ sig, parseMethodDescriptor (pmNm (Pg t)).desc = some sig → n = sig.parameters.length) (hmx : pmMx (Pg t) ≤ 20) (hRf : 8 + 2 * d + 1 ≤ R.frames) (hRl : 200 + 60 * d + 39 ≤ R.locals) :
    va_CU R s args own RJ4 (pmNm (Pg t)).cls k (pmNm (Pg t)) (pmNm (Pg t)) (pmBy (Pg t)) (pmMx (Pg t)) (pmRt (Pg t)) (pmHw (Pg t) :: TB) (pmRm d r) r.2.2.1 r.2.2.2 n := by
  have hc : pmHw (Pg t) = .code (pmNm (Pg t)) (pmBy (Pg t)) (pmMx (Pg t)) (pmRt (Pg t)) := if_pos hhd
  have hcd : (Cond.code (pmNm (Pg t)) (pmBy (Pg t)) (pmMx (Pg t)) (pmRt (Pg t))).before args s = true := by rw [← hc]; exact hTB _ hh
  refine ⟨⟨rfl, rfl, hRf, ?_, pm_hw hTB hG hh, by rw [hc]; exact List.mem_cons_self⟩, hcd, hTB _ hini, hcls, hlen, hTB _ hlink, hTB _ hsame, va_Decl.of (hTB _ hinst) hcd, hTB _ hsel, hTB _ hinst⟩
  show 8 + (pmMx (Pg t) + 11) + (200 + 60 * d) ≤ R.locals
  omega
theorem pm_CS {t d k n : Nat} {own : String} {r : pmR} (hhd : pmHd (Pg t) = []) (hTB : ∀ w ∈ TB, w.before args s = true) (hG : pmGood TB) (hh : pmHw (Pg t) ∈ TB) (hlink : Cond.methodLink own k (pmNm (Pg t)) ∈ TB) (hsame : Cond.sameMethod (pmNm (Pg t)).cls (pmNm (Pg t)).cls (pmNm (Pg t)).name (pmNm (Pg t)).desc ∈ TB) (hsup : Cond.superclass own (pmNm (Pg t)).cls ∈ TB) (hinst : Cond.instanceMethod (pmNm (Pg t)) ∈ TB) (hini : Cond.initialized (pmNm (Pg t)).cls ∈ TB) (hno : (pmNm (Pg t)).name ≠ "<init>") (hlen : ∀ sig, parseMethodDescriptor (pmNm (Pg t)).desc = some sig → n = sig.parameters.length) (hmx : pmMx (Pg t) ≤ 20) (hRf : 8 + 2 * d + 1 ≤ R.frames) (hRl : 200 + 60 * d + 39 ≤ R.locals) :
    va_CS R s args own k (pmNm (Pg t)) (pmBy (Pg t)) (pmMx (Pg t)) (pmRt (Pg t)) (pmHw (Pg t) :: TB) (pmRm d r) r.2.2.1 r.2.2.2 n := by
  have hc : pmHw (Pg t) = .code (pmNm (Pg t)) (pmBy (Pg t)) (pmMx (Pg t)) (pmRt (Pg t)) := if_pos hhd
  have hcd : (Cond.code (pmNm (Pg t)) (pmBy (Pg t)) (pmMx (Pg t)) (pmRt (Pg t))).before args s = true := by rw [← hc]; exact hTB _ hh
  refine ⟨⟨rfl, rfl, hRf, ?_, pm_hw hTB hG hh, by rw [hc]; exact List.mem_cons_self⟩, hTB _ hlink, hTB _ hsame, hTB _ hsup, hTB _ hinst, hTB _ hini, hcd, hno, hlen⟩
  show 8 + (pmMx (Pg t) + 11) + (200 + 60 * d) ≤ R.locals
  omega
theorem pm_call {i : Instr} {n d t : Nat} {x : Nat × Nat} {as : List Value} {r : pmR} {own : String} (hdg : decode cc pc = .ok (i, pmIl i n)) (harg : pmArg Pg i x (pc, L, st, S) = some (t, as, rest)) (hrv : pmRk (pmNm (Pg t)).cls x.1 as S) (hoc : pmOc Pg i x = true)
    (hwc : ∀ w ∈ pmWc Pg own i x, w ∈ TB) (hwn : ∀ w ∈ pmWn Pg own i x, w ∈ pmNs) (hTB : ∀ w ∈ TB, w.before args s = true) (hG : pmGood TB) (hcon : pmCon l Pg TB E D cA d t as S r)
    (hexec : p.tables.exec = Jvm.exec) (hb : c0.code = cc) (hml : c0.maxLocals = nL) (hown : s.vm.findClass own = some m.cls) (hK : va_K D pmCl (pmTs cA) s) (hA : ∀ q, s.heap.size ≤ q → A q) (hEn : pmEn E ad A s s.heap) (hv : pmVd (pc, L, st, S)) (hl9 : S.1.length ≤ 90000)
    (hRf : 8 + 2 * d + 1 ≤ R.frames) (hRl : 200 + 60 * d + 39 ≤ R.locals) (hc : cells + r.2.2.1 ≤ R.cells) (hs : slots + r.2.2.2 ≤ R.slots) (hr : pmRel D A s.heap nL ad cA (pc, L, st, S) H locs ls) :
    (∀ q, va_A (pmW ad cA S) H.size q → A q) ∧ vx_Run p l e R s m args below meth c0 H locs cells slots r.2.2.1 r.2.2.2 (F0 m pc ls (st.map (pmRe ad))) (rest.map (pmRe ad)) (pmQc D cA ad S H.size r (as.map (pmRe ad)).toArray) (pmXC D cA ad S H.size r) (va_A (pmW ad cA S) H.size) := by
  have hS := hr.2.2.1
  have hF : ∀ q, va_A (pmW ad cA S) H.size q → A q := by
    intro q hq
    rcases hq with ⟨k, e9, hk⟩ | hq
    · exact hr.2.1.2 k _ hk
    · exact hA q (Nat.le_trans hS.1 hq)
  refine ⟨hF, ?_⟩
  have hlsz : ls.size = nL := hr.2.2.2.1.1
  unfold pmArg at harg
  cases htg : pmTg i x with
  | none => rw [htg] at harg; cases harg
  | some t9 =>
    rw [htg] at harg
    dsimp only at harg
    split at harg
    · rename_i hst
      obtain ⟨hn, hcat⟩ := hst
      simp only [Option.some.injEq, Prod.mk.injEq] at harg
      obtain ⟨rfl, h7, h8⟩ := harg
      have hst9 : st = as.reverse ++ rest := by
        rw [← h7, ← h8, List.reverse_reverse]
        exact (List.take_append_drop _ _).symm
      have hlen9 : as.length = pmNa (Pg t9) := by
        rw [← h7, List.length_reverse, List.length_take]
        exact Nat.min_eq_left hn
      rw [h8] at hcat
      have hcat9 : 2 * (F0 m pc ls (st.map (pmRe ad))).monitorRoom + ((rest.map (pmRe ad)).map fun v => v.category).sum ≤ 8 := by
        rw [pm_cat8]
        exact lv_room hcat
      have hmap : st.map (pmRe ad) = (as.map (pmRe ad)).reverse ++ rest.map (pmRe ad) := by
        rw [hst9, List.map_append, List.map_reverse]
      have hvas : ∀ v ∈ as, pmVv S.1.length v := by
        intro v hv9
        refine hv.2.1 v ?_
        show v ∈ st
        rw [hst9]
        exact List.mem_append_left _ (List.mem_reverse.mpr hv9)
      have hM := hcon ad H.size hvas
      have hPre := pm_pre (E := E) hK hr.1 hr.2.1 hS hF hEn hv.2.2 hl9 as
      have hS9 : CallFix p m c0 cc nL s args TB own := ⟨hexec, hb, hml, hown, hTB⟩
      unfold pmOc at hoc
      rw [htg] at hoc
      simp only [Bool.and_eq_true, decide_eq_true_eq] at hoc
      obtain ⟨⟨⟨⟨⟨o1, o2⟩, o3⟩, o4⟩, o5⟩, o6⟩ := hoc
      have hnest : ∀ w ∈ pmWn Pg own i x, w.before args s = true := by
        intro w hw
        obtain ⟨a, i9, x9, o, rfl⟩ := pmNs_kind (hwn w hw)
        exact va_Nw.use rfl (hEn.1.2 _ (hwn _ hw))
      unfold pmTg at htg
      split at htg
      · rename_i k
        dsimp only at o4
        simp only [decide_eq_true_eq] at o4
        split at htg
        · rename_i hx
          cases htg
          rcases hx with hx | hx | hx
          · dsimp only [pmWc] at hwc
            rw [if_pos hx] at hwc
            rw [hx] at o6
            simp only [Nat.reduceEqDiff, if_false, decide_eq_true_eq] at o6
            exact vx_runS hS9 hM ⟨pm_CB (n := pmNa (Pg x.2)) o6 hTB hG (hwc _ (by simp)) (hwc _ (by simp)) (hwc _ (by simp)) ⟨o1, o2⟩ (pm_len0 o4) o3 hRf hRl, hTB _ (hwc _ (by simp))⟩ hPre rfl (by rw [List.length_map]; exact hlen9) hlsz (by show st.map (pmRe ad) = _; exact hmap) hcat9 hdg ⟨hc, hs⟩
          · dsimp only [pmWc, pmWn] at hwc hnest
            rw [if_neg (by omega), if_pos hx] at hwc
            rw [if_pos hx] at hnest
            rw [hx] at o6
            simp only [Nat.reduceEqDiff, if_false, decide_eq_true_eq] at o6
            exact vx_runSN hS9 hM ⟨pm_CN (n := pmNa (Pg x.2)) o6 hTB hG (hwc _ (by simp)) (hnest _ (by simp)) (hwc _ (by simp)) ⟨o1, o2⟩ (pm_len0 o4) o3 hRf hRl, hTB _ (hwc _ (by simp)), trivial⟩ hPre rfl (by rw [List.length_map]; exact hlen9) hlsz (by show st.map (pmRe ad) = _; exact hmap) hcat9 hdg ⟨hc, hs⟩
          · dsimp only [pmWc] at hwc
            rw [if_neg (by omega), if_neg (by omega), if_pos hx] at hwc
            rw [if_pos hx] at o6
            simp only [decide_eq_true_eq] at o6
            exact vx_runSX hS9 hM (pm_CSW (n := pmNa (Pg x.2)) o6 hTB hG (hwc _ (by simp)) (hwc _ (by simp)) (hwc _ (by simp)) (hwc _ (by simp)) ⟨o1, o2⟩ (pm_len0 o4) o3 hRf hRl) hPre rfl (by rw [List.length_map]; exact hlen9) hlsz (by show st.map (pmRe ad) = _; exact hmap) hcat9 hdg ⟨hc, hs⟩
        · cases htg
      · rename_i k
        dsimp only at o4
        simp only [decide_eq_true_eq] at o4
        split at htg
        · rename_i hx9
          cases htg
          have hx89 : (x.1 = 2 ∨ x.1 = 3) ∨ x.1 = 9 := by omega
          clear hx9
          rcases hx89 with hx | hx
          · obtain ⟨w, hw1, hw2⟩ := hrv.1 (by omega) (by omega)
            obtain ⟨q9, rfl, hcell⟩ := pm_rv hK hr.1 hS hEn hw2
            obtain ⟨as', rfl⟩ : ∃ as', as = .ref q9 :: as' := by
              cases as with
              | nil => cases hw1
              | cons a as' => cases hw1; exact ⟨as', rfl⟩
            have hn1 : (parseMethodDescriptor (pmNm (Pg x.2)).desc).map (fun d => d.parameters.length + 1) = some ((as'.map (pmRe ad)).length + 1) := by
              rw [o4, ← hlen9, List.length_map]
              rfl
            have hstk : st.map (pmRe ad) = (as'.map (pmRe ad)).reverse ++ .ref (ad q9) :: rest.map (pmRe ad) := by
              rw [hmap]
              simp [pmRe]
            have hPv : PreV s H (pmNm (Pg x.2)).cls (ad q9) (va_Pc (((Value.ref q9) :: as').map (pmRe ad)) (fun U => U.heap.size = H.size ∧ pmBw E D cA ad S U)) (as'.map (pmRe ad)) := ⟨hPre.1, hcell, hPre.2⟩
            rcases hx with hx | hx
            · dsimp only [pmWc] at hwc
              rw [if_pos hx] at hwc
              rw [hx] at o6
              simp only [Nat.reduceEqDiff, if_false, decide_eq_true_eq] at o6
              exact vx_runV hS9 hM ⟨pm_CB (n := (as'.map (pmRe ad)).length) o6 hTB hG (hwc _ (by simp)) (hwc _ (by simp)) (hwc _ (by simp)) ⟨o1, o2⟩ (pm_len1 hn1) o3 hRf hRl, hTB _ (hwc _ (by simp)), hTB _ (hwc _ (by simp))⟩ hPv rfl rfl hlsz hstk hcat9 hdg ⟨hc, hs⟩
            · dsimp only [pmWc, pmWn] at hwc hnest
              rw [if_neg (by omega), if_pos hx] at hwc
              rw [if_pos hx] at hnest
              rw [hx] at o6
              simp only [Nat.reduceEqDiff, if_false, decide_eq_true_eq] at o6
              exact vx_runVN hS9 hM ⟨pm_CN (n := (as'.map (pmRe ad)).length) o6 hTB hG (hwc _ (by simp)) (hnest _ (by simp)) (hwc _ (by simp)) ⟨o1, o2⟩ (pm_len1 hn1) o3 hRf hRl, hTB _ (hwc _ (by simp)), hTB _ (hwc _ (by simp))⟩ hPv rfl rfl hlsz hstk hcat9 hdg ⟨hc, hs⟩
          · obtain ⟨w, hw1, hw2⟩ := hrv.2.1 (by omega) (by omega)
            obtain ⟨q9, rfl, hcell⟩ := pm_rv hK hr.1 hS hEn hw2
            obtain ⟨as', rfl⟩ : ∃ as', as = .ref q9 :: as' := by
              cases as with
              | nil => cases hw1
              | cons a as' => cases hw1; exact ⟨as', rfl⟩
            have hn1 : (parseMethodDescriptor (pmNm (Pg x.2)).desc).map (fun d => d.parameters.length + 1) = some ((as'.map (pmRe ad)).length + 1) := by
              rw [o4, ← hlen9, List.length_map]
              rfl
            have hstk : st.map (pmRe ad) = (as'.map (pmRe ad)).reverse ++ .ref (ad q9) :: rest.map (pmRe ad) := by
              rw [hmap]
              simp [pmRe]
            have hPv : PreV s H RJ4 (ad q9) (va_Pc (((Value.ref q9) :: as').map (pmRe ad)) (fun U => U.heap.size = H.size ∧ pmBw E D cA ad S U)) (as'.map (pmRe ad)) := ⟨hPre.1, hcell, hPre.2⟩
            dsimp only [pmWc] at hwc
            rw [if_neg (by omega), if_neg (by omega), if_pos hx] at hwc
            rw [hx] at o6
            simp only [Nat.reduceEqDiff, if_false, decide_eq_true_eq] at o6
            exact vx_runU hS9 hM (pm_CU (n := (as'.map (pmRe ad)).length) o6 hTB hG (hwc _ (by simp)) (hwc _ (by simp)) (hwc _ (by simp)) (hwc _ (by simp)) (hwc _ (by simp)) (hwc _ (by simp)) ⟨o1, o2⟩ (pm_len1 hn1) o3 hRf hRl) hPv rfl rfl hlsz hstk hcat9 hdg ⟨hc, hs⟩
        · cases htg
      · rename_i k
        dsimp only at o4 o5
        simp only [decide_eq_true_eq] at o4
        split at htg
        · rename_i hx9
          cases htg
          have hx89 : (x.1 = 4 ∨ x.1 = 5) ∨ x.1 = 7 ∨ x.1 = 8 := by omega
          clear hx9
          rcases hx89 with hx | hx | hx
          · obtain ⟨w, hw1, hw2⟩ := hrv.1 (by omega) (by omega)
            obtain ⟨q9, rfl, hcell⟩ := pm_rv hK hr.1 hS hEn hw2
            obtain ⟨as', rfl⟩ : ∃ as', as = .ref q9 :: as' := by
              cases as with
              | nil => cases hw1
              | cons a as' => cases hw1; exact ⟨as', rfl⟩
            have hn1 : (parseMethodDescriptor (pmNm (Pg x.2)).desc).map (fun d => d.parameters.length + 1) = some ((as'.map (pmRe ad)).length + 1) := by
              rw [o4, ← hlen9, List.length_map]
              rfl
            have hstk : st.map (pmRe ad) = (as'.map (pmRe ad)).reverse ++ .ref (ad q9) :: rest.map (pmRe ad) := by
              rw [hmap]
              simp [pmRe]
            rw [if_neg (by omega)] at o5
            simp only [Bool.and_eq_true, decide_eq_true_eq] at o5
            rcases hx with hx | hx
            · dsimp only [pmWc] at hwc
              rw [if_pos hx] at hwc
              rw [hx] at o6
              simp only [Nat.reduceEqDiff, if_false, decide_eq_true_eq] at o6
              have hcb := pm_CB (R := R) (s := s) (args := args) (d := d) (r := r) (n := (as'.map (pmRe ad)).length) o6 hTB hG (hwc _ (by simp)) (hwc (.methodLink own k (pmNm (Pg x.2))) (by simp)) (hwc _ (by simp)) ⟨o1, o2⟩ (pm_len1 hn1) o3 hRf hRl
              rw [o5.2] at hcb
              exact vx_runI hS9 hM ⟨hcb, o5.1, hTB _ (hwc _ (by simp))⟩ hPre rfl rfl hlsz hstk hcat9 hdg ⟨hc, hs⟩
            · dsimp only [pmWc, pmWn] at hwc hnest
              rw [if_neg (by omega), if_pos hx] at hwc
              rw [if_pos hx] at hnest
              rw [hx] at o6
              simp only [Nat.reduceEqDiff, if_false, decide_eq_true_eq] at o6
              have hcb := pm_CN (R := R) (s := s) (args := args) (d := d) (r := r) (n := (as'.map (pmRe ad)).length) o6 hTB hG (hwc _ (by simp)) (hnest (.methodLinkNest own k (pmNm (Pg x.2)) "StageBallet") (by simp)) (hwc _ (by simp)) ⟨o1, o2⟩ (pm_len1 hn1) o3 hRf hRl
              rw [o5.2] at hcb
              exact vx_runIN hS9 hM ⟨hcb, o5.1, hTB _ (hwc _ (by simp))⟩ hPre rfl rfl hlsz hstk hcat9 hdg ⟨hc, hs⟩
          · dsimp only [pmWc] at hwc
            rw [if_neg (by omega), if_neg (by omega), if_pos hx] at hwc
            rw [if_neg (by omega)] at o5
            simp only [Bool.and_eq_true, decide_eq_true_eq] at o5
            rw [hx] at o6
            simp only [Nat.reduceEqDiff, if_false, decide_eq_true_eq] at o6
            obtain ⟨q9, hw1⟩ := hrv.2.2 hx
            obtain ⟨as', rfl⟩ : ∃ as', as = .ref q9 :: as' := by
              cases as with
              | nil => cases hw1
              | cons a as' => cases hw1; exact ⟨as', rfl⟩
            have hn1 : (parseMethodDescriptor (pmNm (Pg x.2)).desc).map (fun d => d.parameters.length + 1) = some ((as'.map (pmRe ad)).length + 1) := by
              rw [o4, ← hlen9, List.length_map]
              rfl
            have hstk : st.map (pmRe ad) = (as'.map (pmRe ad)).reverse ++ .ref (ad q9) :: rest.map (pmRe ad) := by
              rw [hmap]
              simp [pmRe]
            have hcb := pm_CB (R := R) (s := s) (args := args) (d := d) (r := r) (n := (as'.map (pmRe ad)).length) o6 hTB hG (hwc _ (by simp)) (hwc (.methodLink own k (pmNm (Pg x.2))) (by simp)) (hwc _ (by simp)) ⟨o1, o2⟩ (pm_len1 hn1) o3 hRf hRl
            rw [o5.2] at hcb
            exact vx_runI hS9 hM ⟨hcb, o5.1, hTB _ (hwc _ (by simp))⟩ hPre rfl rfl hlsz hstk hcat9 hdg ⟨hc, hs⟩
          · obtain ⟨w, hw1, hw2⟩ := hrv.2.1 (by omega) (by omega)
            obtain ⟨q9, rfl, hcell⟩ := pm_rv hK hr.1 hS hEn hw2
            obtain ⟨as', rfl⟩ : ∃ as', as = .ref q9 :: as' := by
              cases as with
              | nil => cases hw1
              | cons a as' => cases hw1; exact ⟨as', rfl⟩
            have hn1 : (parseMethodDescriptor (pmNm (Pg x.2)).desc).map (fun d => d.parameters.length + 1) = some ((as'.map (pmRe ad)).length + 1) := by
              rw [o4, ← hlen9, List.length_map]
              rfl
            have hstk : st.map (pmRe ad) = (as'.map (pmRe ad)).reverse ++ .ref (ad q9) :: rest.map (pmRe ad) := by
              rw [hmap]
              simp [pmRe]
            have hPv : PreV s H RJ4 (ad q9) (va_Pc (((Value.ref q9) :: as').map (pmRe ad)) (fun U => U.heap.size = H.size ∧ pmBw E D cA ad S U)) (as'.map (pmRe ad)) := ⟨hPre.1, hcell, hPre.2⟩
            dsimp only [pmWc] at hwc
            rw [if_neg (by omega), if_neg (by omega), if_neg (by omega), if_pos hx] at hwc
            rw [if_pos hx] at o5
            simp only [decide_eq_true_eq] at o5
            rw [hx] at o6
            simp only [Nat.reduceEqDiff, if_false, decide_eq_true_eq] at o6
            exact vx_runSU (C := RJ4) (hK.1 10 (RJ4, TJ4, 4) rfl).2 hS9 hM (pm_CS (n := (as'.map (pmRe ad)).length) o6 hTB hG (hwc _ (by simp)) (hwc _ (by simp)) (hwc _ (by simp)) (hwc _ (by simp)) (hwc _ (by simp)) (hwc _ (by simp)) o5 (pm_len1 hn1) o3 hRf hRl) hPv rfl rfl hlsz hstk hcat9 hdg ⟨hc, hs⟩
        · cases htg
      · cases htg
    · cases harg
end PMD
end
section
/-! PM: throws, catches, returns -/
/-- the words of a throw -/
def pmWt (Pg : Nat → pmMe) (j pc : Nat) (i : Instr) (x : Nat × Nat) : List Cond := match i with
  | .new ik => if x.1 = 70 then (match pmCo (Pg j) (pc + 4) with
      | some (.invokespecial ic, _) => .classLink (pmNm (Pg j)).cls ik (pmXn x.2) :: .initialized (pmXn x.2) :: (vx_at0 (pmNm (Pg j)).cls ic (pmXn x.2) pmUp).filter goodWord
      | _ => []) else []
  | _ => []
/-- its plain checks -/
def pmOt (Pg : Nat → pmMe) (j pc : Nat) (i : Instr) (x : Nat × Nat) : Bool := match i with
  | .new ik => if x.1 = 70 then (match pmCo (Pg j) (pc + 4) with
      | some (.invokespecial ic, _) => decide (x.2 < 6) && Bundle.fit (pmXn x.2) && (Cond.classLink (pmNm (Pg j)).cls ik (pmXn x.2) :: Cond.initialized (pmXn x.2) :: vx_at0 (pmNm (Pg j)).cls ic (pmXn x.2) pmUp).all vx_ot
      | _ => false) else true
  | _ => true
section PMF
variable {p : Program} {l : Launch} {e : Env} {R : Room} {s : State} {m : MethodId} {args : Array Value} {below : List Frame} {meth : Method} {c0 : Code} {H H0 : Heap} {locs : List Loc} {cells slots : Nat} {Q : State → Prop}
variable {cc : ByteArray} {ls : Array Slot} {A : Nat → Prop} {D : va_G} {nL : Nat} {ad : Nat → Nat} {cA : Nat → ClassId} {pc : Nat} {L : List (Option Value)} {S : pmS} {st rest : List Value} {Pg : Nat → pmMe} {TB : List Cond} {E : pmEv0}
theorem pm_kept {H1 : Heap} (hr : pmRel D A s.heap nL ad cA (pc, L, st, S) H locs ls) (h : ∀ q : Nat, q < H.size → H1[q]? = H[q]?) (hz : H.size ≤ H1.size) : va_P D pmCl (pmW ad cA S) H1 ∧ va_S A s.heap H1 locs := by
  refine ⟨fun k q hk => (hr.1 k q hk).kept (h _ ((hr.1 k q hk).lt)), Nat.le_trans hr.2.2.1.1 hz, fun q h1 h2 => ?_, hr.2.2.1.2.2⟩
  rw [h q (Nat.lt_of_lt_of_le h1 hr.2.2.1.1)]
  exact hr.2.2.1.2.1 q h1 h2
theorem pm_throw {i : Instr} {n j k mc ms sz : Nat} {x : Nat × Nat} {own : String} {ad0 : Nat → Nat} {S0 : pmS} {Qc : Array Value → State → Outcome → State → Prop} {r : pmR} (hown9 : (pmNm (Pg j)).cls = own) (hco : ∀ q i n y, pmCo (Pg j) q = some (i, n, y) → decode cc q = .ok (i, pmIl i n)) (hc9 : decode cc pc = .ok (i, pmIl i n)) (hth : pmThr (Pg j) pc i x = some k) (hot : pmOt Pg j pc i x = true) (hwt : ∀ w ∈ pmWt Pg j pc i x, w ∈ TB)
    (hTB : ∀ w ∈ TB, w.before args s = true) (hexec : p.tables.exec = Jvm.exec) (hb : c0.code = cc) (hst : l.stackTraces = false) (hown : s.vm.findClass own = some m.cls) (hEn : pmEn E ad A s s.heap) (hml : c0.maxLocals = nL) (hout : ∀ x ∈ c0.exceptionTable.toList, False) (hlocks : meth.locks = false)
    (hsum : (st.map fun v => v.category).sum ≤ 8) (hRf : 8 ≤ R.frames) (hRl : 100 ≤ R.locals) (hc : cells + 1 ≤ R.cells) (hs : slots + 6 ≤ R.slots) (hmc : cells + 1 ≤ mc) (hms : slots + 6 ≤ ms)
    (hsz : s.heap.size = sz) (hA : A = va_A (pmW ad0 cA S0) sz) (hx : pmEx ad0 ad S0.1.length) (hl0 : S0.1.length ≤ S.1.length) (hl9 : S.1.length ≤ 90000) (hv : pmVd (pc, L, st, S)) (hr9 : r.1 = .inr k ∧ r.2.1 = S)
    (hr : pmRel D A s.heap nL ad cA (pc, L, st, S) H locs ls) :
    W p l e R s m args below meth c0 H locs cells slots (vx_MQ below Qc (pmXC D cA ad0 S0 sz r) args s mc ms (va_A (pmW ad0 cA S0) sz)) (F0 m pc ls (st.map (pmRe ad))) := by
  subst hown9
  unfold pmThr at hth
  split at hth
  · rename_i ik
    split at hth
    · rename_i hx1
      split at hth
      · rename_i y3 ic y4 y7 h3 h4 h7
        cases hth
        dsimp only [pmOt, pmWt] at hot hwt
        rw [if_pos hx1, h4] at hot hwt
        dsimp only at hot hwt
        simp only [Bool.and_eq_true, decide_eq_true_eq] at hot
        obtain ⟨⟨o1, o2⟩, o3⟩ := hot
        obtain ⟨n3, z3⟩ := y3
        obtain ⟨n4, z4⟩ := y4
        obtain ⟨n7, z7⟩ := y7
        have d3 := hco _ _ _ _ h3
        have d4 := hco _ _ _ _ h4
        have d7 := hco _ _ _ _ h7
        refine vx_throw0 (names := pmUp) (ik := ik) (ic := ic) (cls := pmXn x.2) hexec hb hst hown o2 (by decide +kernel) (hTB _ (hwt _ List.mem_cons_self)) (hTB _ (hwt _ (List.mem_cons_of_mem _ List.mem_cons_self))) ?_ (List.all_eq_true.mp o3) hEn.2.2.1.1 hEn.2.2.1.2 hr.2.2.1 (hr.2.2.2.1.1.trans hml.symm) hc9 d3 d4 d7 (fun z hz => absurd (hout z hz) id) (by show 2 + 3 < _; omega) (by rw [pm_cat8]; show _ + (13 * (2 + 1) + 42) ≤ _; omega) hc hs hlocks ?_ (by rw [← hA]; exact hr.2.2.1.2.2) hmc hms
        · intro w hw
          cases hg : goodWord w with
          | true => exact hTB _ (hwt _ (List.mem_cons_of_mem _ (List.mem_cons_of_mem _ (List.mem_filter.mpr ⟨hw, hg⟩))))
          | false =>
            rcases vx_split hw with h9 | ⟨h9, h10⟩
            · subst h9
              cases hg
            · exact (by
                have hk := List.all_eq_true.mp pmTw_kind w (List.mem_flatMap.mpr ⟨x.2, List.mem_range.mpr o1, List.mem_filter.mpr ⟨h9, by rw [h10, hg]; rfl⟩⟩)
                have hz := hEn.2.1.2.2 w (List.mem_flatMap.mpr ⟨x.2, List.mem_range.mpr o1, List.mem_filter.mpr ⟨h9, by rw [h10, hg]; rfl⟩⟩)
                cases w with
                | castable C T => exact va_Nw.use rfl hz
                | declares x => exact va_Nw.use rfl hz
                | _ => cases hk)
        · intro t hvm hz hq
          obtain ⟨g1, g2⟩ := pm_kept hr hq hz
          refine ⟨x.2, ad, hr9.1, rfl, hx, by rw [hr9.2]; exact hl0, ?_, g2.F rfl |> fun z => by rw [← hA]; exact z⟩
          rw [hr9.2, ← hA]
          exact ⟨g1, hr.2.1, hv.2.2, hl9⟩
      · cases hth
    · cases hth
  · cases hth
end PMF
end
section
/-! PM: handlers, returns -/
theorem pmCt_split {pc k h : Nat} : ∀ {hd : List (Nat × Nat × Nat × Nat × Nat)}, pmCt hd pc k = some h → ∃ pre q suf, hd = pre ++ q :: suf ∧ (q.1 ≤ pc ∧ pc < q.2.1 ∧ q.2.2.2.2 = k) ∧ q.2.2.1 = h ∧ ∀ z ∈ pre, ¬ (z.1 ≤ pc ∧ pc < z.2.1 ∧ z.2.2.2.2 = k)
  | [], hh => by cases hh
  | q :: r, hh => by
    unfold pmCt at hh
    split at hh
    · rename_i hq
      exact ⟨[], q, r, rfl, hq, Option.some.inj hh, fun _ hz => absurd hz List.not_mem_nil⟩
    · rename_i hq
      obtain ⟨pre, q2, suf, h1, h2, h3, h4⟩ := pmCt_split hh
      refine ⟨q :: pre, q2, suf, by rw [h1]; rfl, h2, h3, fun z hz => ?_⟩
      rcases List.mem_cons.mp hz with rfl | hz
      · exact hq
      · exact h4 z hz
def pmEt (q : Nat × Nat × Nat × Nat × Nat) : ExceptionTableEntry := ⟨q.1, q.2.1, q.2.2.1, q.2.2.2.1⟩
theorem pm_table : ∀ hd : List (Nat × Nat × Nat × Nat × Nat), tableOf (pmHh hd) = hd.map pmEt
  | [] => rfl
  | q :: r => by
    show pmEt q :: tableOf (pmHh r) = pmEt q :: r.map pmEt
    rw [pm_table r]
/-- the handlers' words -/
def pmWh (m : pmMe) : List Cond := (pmHd m).map (fun q => .classLink (pmNm m).cls q.2.2.2.1 (pmXn q.2.2.2.2))
def pmOh (m : pmMe) : Bool := (pmHd m).all (fun q => decide (q.2.2.2.1 ≠ 0) && decide (q.2.2.2.2 < 6))
theorem pmLv_cut {ad : Nat → Nat} {L : List (Option Value)} {k : Nat} {w : Value} : ∀ q ∈ pmLv ad ((pmCut L k).set k none), q ∈ (k, w) :: (pmLv ad L).filter (fun q => !(q.1 == k) && !(q.1 + 1 == k && q.2.category == 2)) := by
  intro q hq
  obtain ⟨w, h1, h2⟩ := pmLv_of hq
  rw [List.getElem?_set] at h1
  obtain ⟨i, u⟩ := q
  dsimp only at h1 h2 ⊢
  subst h2
  by_cases hk : k = i
  · subst hk
    rw [if_pos rfl] at h1
    split at h1 <;> cases h1
  · rw [if_neg hk] at h1
    obtain ⟨h3, h4⟩ := pmCut_at h1
    refine List.mem_cons_of_mem _ (List.mem_filter.mpr ⟨pmLv_mem h3, ?_⟩)
    simp only [pmRe_cat]
    have e1 : (i == k) = false := by simp; omega
    rw [e1]
    cases h5 : (i + 1 == k && w.category == 2) with
    | false => rfl
    | true =>
      simp only [Bool.and_eq_true, beq_iff_eq] at h5
      exact absurd h5 h4
theorem pmVl_cut {n : Nat} {L : List (Option Value)} {k : Nat} (h : pmVl n L) : pmVl n ((pmCut L k).set k none) := by
  intro i v hi
  rw [List.getElem?_set] at hi
  split at hi
  · split at hi <;> cases hi
  · exact h i v (pmCut_at hi).1
theorem pmHan_vd {m : pmMe} {h : Nat} {L : List (Option Value)} {S : pmS} {c' : pmC} (hh : pmHan m h L S = some c') (hL : pmVl S.1.length L) (hS : pmVm S.1.length S.2) : pmVd c' ∧ c'.2.2.2 = S := by
  unfold pmHan at hh
  split at hh
  · split at hh
    · cases hh
      exact ⟨⟨pmVl_cut hL, fun _ h => absurd h List.not_mem_nil, hS⟩, rfl⟩
    · cases hh
  · split at hh
    · cases hh
      exact ⟨⟨pmVl_cut hL, fun _ h => absurd h List.not_mem_nil, hS⟩, rfl⟩
    · cases hh
  · cases hh
section PMG
variable {p : Program} {l : Launch} {e : Env} {R : Room} {s : State} {m : MethodId} {args : Array Value} {below : List Frame} {meth : Method} {c0 : Code} {H H0 : Heap} {locs : List Loc} {cells slots : Nat} {Q : State → Prop}
variable {cc : ByteArray} {ls : Array Slot} {A : Nat → Prop} {D : va_G} {nL : Nat} {ad : Nat → Nat} {cA : Nat → ClassId} {pc : Nat} {L : List (Option Value)} {S : pmS} {st rest : List Value} {Pg : Nat → pmMe} {TB : List Cond} {E : pmEv0}
theorem pm_catch {j k h : Nat} {ce : Cell} {q9 : Addr} {c' : pmC} {rest : List Value} (hco : ∀ q i n y, pmCo (Pg j) q = some (i, n, y) → decode cc q = .ok (i, pmIl i n)) (hct : pmCt (pmHd (Pg j)) pc k = some h) (hhan : pmHan (Pg j) h L S = some c') (hwh : ∀ w ∈ pmWh (Pg j), w ∈ TB) (hoh : pmOh (Pg j) = true)
    (hTB : ∀ w ∈ TB, w.before args s = true) (hexec : p.tables.exec = Jvm.exec) (hb : c0.code = cc) (hown : s.vm.findClass (pmNm (Pg j)).cls = some m.cls) (hEn : pmEn E ad A s s.heap) (htab : c0.exceptionTable.toList = tableOf (pmHh (pmHd (Pg j))))
    (hce : H[q9]? = some ce) (hcv : ce.vm = .none) (hcl : s.vm.findClass (pmXn k) = some ce.cls)
    (hr : pmRel D A H0 nL ad cA (pc, L, st, S) H locs ls) (kk : pmKk p l e R s m args below meth c0 cells slots Q D A H0 nL ad cA c') :
    vx_W p l e R s m args below meth c0 H locs cells slots Q (F0 m pc ls rest) q9 := by
  obtain ⟨pre, q, suf, h1, ⟨h2, h3, h4⟩, h5, h6⟩ := pmCt_split hct
  have hoh9 : ∀ z ∈ pmHd (Pg j), z.2.2.2.1 ≠ 0 ∧ z.2.2.2.2 < 6 := by
    intro z hz
    have := List.all_eq_true.mp hoh z hz
    simpa using this
  have hlk : ∀ z ∈ pmHd (Pg j), (Cond.classLink (pmNm (Pg j)).cls z.2.2.2.1 (pmXn z.2.2.2.2)).before args s = true := fun z hz => hTB _ (hwh _ (List.mem_map.mpr ⟨z, hz, rfl⟩))
  have hqm : q ∈ pmHd (Pg j) := by rw [h1]; simp
  have hk6 : k < 6 := by rw [← h4]; exact (hoh9 q hqm).2
  have hcst := hEn.2.1.2.1 k hk6
  rw [pm_table, h1, List.map_append, List.map_cons] at htab
  refine vx_catch (name := pmXn k) (E := pmXn k) hown (pre.map pmEt) (pmEt q) (suf.map pmEt) htab ?_ ?_ (hoh9 q hqm).1 (by rw [← h4]; exact hlk q hqm) (va_Nw.use rfl hcst) hce hcv hcl ?_
  · intro z hz
    obtain ⟨y, hy, rfl⟩ := List.mem_map.mp hz
    have hym : y ∈ pmHd (Pg j) := by rw [h1]; exact List.mem_append_left _ hy
    by_cases hcov : y.1 ≤ pc ∧ pc < y.2.1
    · refine Or.inr ⟨(hoh9 y hym).1, pmXn y.2.2.2.2, hlk y hym, hEn.2.1.1 _ _ hk6 (hoh9 y hym).2 ?_⟩
      intro e9
      exact h6 y hy ⟨hcov.1, hcov.2, e9.symm⟩
    · refine Or.inl ?_
      show (decide (y.1 ≤ pc) && decide (pc < y.2.1)) = false
      cases ha : (decide (y.1 ≤ pc) && decide (pc < y.2.1)) with
      | false => rfl
      | true =>
        simp only [Bool.and_eq_true, decide_eq_true_eq] at ha
        exact absurd ha hcov
  · show (decide (q.1 ≤ pc) && decide (pc < q.2.1)) = true
    simp [h2, h3]
  · show W p l e R s m args below meth c0 H locs cells slots Q (F0 m q.2.2.1 ls [.ref q9])
    rw [h5]
    unfold pmHan at hhan
    split at hhan
    · rename_i kk9 y hcode
      split at hhan
      · rename_i hlt
        cases hhan
        obtain ⟨n9, z9⟩ := y
        have hd := hco _ _ _ _ hcode
        exact lv_astore_n hexec hb hd rfl hr.2.2.2.1 (by have h9 := hr.2.2.2.2; dsimp only at h9; omega) rfl (fun ls' h' => kk _ _ _ ⟨hr.1, hr.2.1, hr.2.2.1, lv_has_of h' pmLv_cut, by show (List.set _ _ _).length = nL; rw [List.length_set, pmCut_len]; exact hr.2.2.2.2⟩)
      · cases hhan
    · rename_i kk9 y hcode
      split at hhan
      · rename_i hlt
        cases hhan
        obtain ⟨n9, z9⟩ := y
        have hd := hco _ _ _ _ hcode
        exact lv_astore hexec hb hd hr.2.2.2.1 (by have h9 := hr.2.2.2.2; dsimp only at h9; omega) rfl (fun ls' h' => kk _ _ _ ⟨hr.1, hr.2.1, hr.2.2.1, lv_has_of h' pmLv_cut, by show (List.set _ _ _).length = nL; rw [List.length_set, pmCut_len]; exact hr.2.2.2.2⟩)
      · cases hhan
    · cases hhan
theorem pm_ret {i : Instr} {n sz : Nat} {rt : Option FieldType} {v : Option Value} {ps : List Prop} {ad0 : Nat → Nat} {S0 : pmS} {XC : String → State → State → Prop} {r : pmR} (hdg : decode cc pc = .ok (i, pmIl i n)) (hret : pmRet rt i st = some (v, ps)) (hp : ∀ P ∈ ps, P) (hrt : meth.sig.returnType = rt)
    (hexec : p.tables.exec = Jvm.exec) (hb : c0.code = cc) (hlocks : meth.locks = false)
    (hA : A = va_A (pmW ad0 cA S0) sz) (hx : pmEx ad0 ad S0.1.length) (hl0 : S0.1.length ≤ S.1.length) (hl9 : S.1.length ≤ 90000) (hv : pmVd (pc, L, st, S)) (hr9 : r = (.inl v, S, cells, slots))
    (hr : pmRel D A s.heap nL ad cA (pc, L, st, S) H locs ls) :
    W p l e R s m args below meth c0 H locs cells slots (vx_MQ below (pmQc D cA ad0 S0 sz r) XC args s r.2.2.1 r.2.2.2 (va_A (pmW ad0 cA S0) sz)) (F0 m pc ls (st.map (pmRe ad))) := by
  subst hr9
  have hq : ∀ (t : State), t.heap = H → s.WarmedH t.vm → (∀ w, v = some w → w ∈ st) → pmQc D cA ad0 S0 sz (.inl v, S, cells, slots) args s (.returned (v.map (pmRe ad))) t := by
    intro t ht hW hw
    refine ⟨v, ad, rfl, rfl, fun w h9 => hv.2.1 w (hw w h9), hx, hl0, ⟨by rw [ht]; exact hr.1, by rw [← hA]; exact hr.2.1, hv.2.2, hl9⟩, ?_⟩
    rw [← hA]
    exact hr.2.2.1.F ht
  have hf : ∀ z ∈ locs, (va_A (pmW ad0 cA S0) sz) z.base := by
    rw [← hA]
    exact hr.2.2.1.2.2
  refine vx_ret ?_
  unfold pmRet at hret
  split at hret
  · split at hret
    · split at hret
      · cases hret
        exact W.vret hexec hb hrt (fun t h1 h2 => hq t h1 h2 (fun w h => by cases h)) hf hdg
      · cases hret
    · cases hret
  · split at hret
    · split at hret
      · cases hret
        exact W.iret hexec hb hrt (fun t h1 h2 => hq t h1 h2 (fun w h => by cases h; exact List.mem_cons_self)) hf hdg
      · cases hret
        have h9 := hp _ List.mem_cons_self
        exact W.zret hexec hb hrt (by rcases h9 with rfl | rfl <;> rfl) (fun t h1 h2 => hq t h1 h2 (fun w h => by cases h; exact List.mem_cons_self)) hf hdg
      · cases hret
        have h9 := hp _ List.mem_cons_self
        exact W.zret (ty := .char) hexec hb hrt (congrArg Value.int h9) (fun t h1 h2 => hq t h1 h2 (fun w h => by cases h; exact List.mem_cons_self)) hf hdg
      · cases hret
        have h9 := hp _ List.mem_cons_self
        exact W.zret (ty := .byte) hexec hb hrt (by rw [h9]; rfl) (fun t h1 h2 => hq t h1 h2 (fun w h => by cases h; exact List.mem_cons_self)) hf hdg
      · cases hret
    · cases hret
  · split at hret
    · split at hret
      · cases hret
        exact W.lret hexec hb hrt (fun t h1 h2 => hq t h1 h2 (fun w h => by cases h; exact List.mem_cons_self)) hf hdg
      · cases hret
    · cases hret
  · split at hret
    · split at hret
      · cases hret
        exact W.fret hexec hb hrt (fun t h1 h2 => hq t h1 h2 (fun w h => by cases h; exact List.mem_cons_self)) hf hdg
      · cases hret
    · cases hret
  · split at hret
    · split at hret
      · cases hret
        exact W.dret hexec hb hrt (fun t h1 h2 => hq t h1 h2 (fun w h => by cases h; exact List.mem_cons_self)) hf hdg
      · cases hret
    · cases hret
  · split at hret
    · split at hret
      · cases hret
        exact W.aret hexec hb hrt (Or.inl ⟨_, rfl⟩) (Or.inr ⟨_, rfl⟩) (fun t h1 h2 => hq t h1 h2 (fun w h => by cases h; exact List.mem_cons_self)) hf hdg
      · cases hret
        exact W.aret hexec hb hrt (Or.inr ⟨_, rfl⟩) (Or.inr ⟨_, rfl⟩) (fun t h1 h2 => hq t h1 h2 (fun w h => by cases h; exact List.mem_cons_self)) hf hdg
      · cases hret
    · split at hret
      · cases hret
        exact W.aret hexec hb hrt (Or.inl ⟨_, rfl⟩) (Or.inl rfl) (fun t h1 h2 => hq t h1 h2 (fun w h => by cases h; exact List.mem_cons_self)) hf hdg
      · cases hret
    · cases hret
  · cases hret
end PMG
end
section
/-! PM: a run of the small machine is a run of the machine -/
theorem pmLe_at : ∀ {L' L : List (Option Value)}, pmLe L' L → L'.length = L.length ∧ ∀ (k : Nat) (v : Value), L'[k]? = some (some v) → L[k]? = some (some v)
  | [], [], _ => ⟨rfl, fun _ _ h => h⟩
  | none :: a, w :: b, h => by
    obtain ⟨h1, h2⟩ := pmLe_at (L' := a) (L := b) h
    refine ⟨congrArg (· + 1) h1, fun k v hk => ?_⟩
    match k, hk with
    | k + 1, hk => exact h2 k v hk
  | some z :: a, w :: b, h => by
    obtain ⟨h1, h2⟩ := pmLe_at (L' := a) (L := b) h.2
    refine ⟨congrArg (· + 1) h1, fun k v hk => ?_⟩
    match k, hk with
    | 0, hk => exact (congrArg some h.1).trans hk
    | k + 1, hk => exact h2 k v hk
  | [], _ :: _, h => absurd h id
  | none :: _, [], h => absurd h id
  | some _ :: _, [], h => absurd h id
theorem pmLe_lv {ad : Nat → Nat} {L' L : List (Option Value)} (h : pmLe L' L) : ∀ q ∈ pmLv ad L', q ∈ pmLv ad L := by
  intro q hq
  obtain ⟨h1, h2⟩ := pmLe_at h
  unfold pmLv at hq ⊢
  obtain ⟨i, hi, he⟩ := List.mem_filterMap.mp hq
  refine List.mem_filterMap.mpr ⟨i, by rw [← h1]; exact hi, ?_⟩
  split at he
  · rename_i v hv
    rw [h2 i v hv]
    exact he
  · cases he
section PMH
variable {p : Program} {l : Launch} {e : Env} {R : Room} {s : State} {m : MethodId} {args : Array Value} {below : List Frame} {meth : Method} {c0 : Code} {H H0 : Heap} {locs : List Loc} {cells slots : Nat} {Q : State → Prop}
variable {cc : ByteArray} {ls : Array Slot} {A : Nat → Prop} {D : va_G} {nL : Nat} {ad : Nat → Nat} {cA : Nat → ClassId} {pc : Nat} {L : List (Option Value)} {S : pmS} {st rest : List Value} {Pg : Nat → pmMe} {TB : List Cond} {E : pmEv0}
theorem pmX_mono {cal : Nat → List Value → pmS → pmR → Prop} {j : Nat} {r : pmR} : ∀ (n : Nat) (c : pmC) (kc ks : Nat), pmX Pg E cal j n c kc ks r → kc ≤ r.2.2.1 ∧ ks ≤ r.2.2.2
  | 0, _, _, _, h => absurd h id
  | n + 1, c, kc, ks, h => by
    obtain ⟨i, ln, x, -, h⟩ := h
    rcases h with ⟨b, c', ps, -, -, h⟩ | ⟨c', ps, -, -, h⟩ | ⟨c', a, b, -, h⟩ | ⟨t, as, rest, v, S', a, b, -, -, -, h⟩ | ⟨t, as, rest, k, S', a, b, -, -, -, -, h⟩ | ⟨t, as, rest, k, S', a, b, h9, c', -, -, -, -, -, h⟩ | ⟨v, ps, -, -, h⟩ | ⟨k, -, -, -, h⟩ | ⟨L', -, h⟩
    · exact pmX_mono n _ _ _ h
    · exact pmX_mono n _ _ _ h
    · have := pmX_mono n _ _ _ h
      omega
    · have := pmX_mono n _ _ _ h
      omega
    · subst h
      exact ⟨Nat.le_add_right _ _, Nat.le_add_right _ _⟩
    · have := pmX_mono n _ _ _ h
      omega
    · subst h
      exact ⟨Nat.le_refl _, Nat.le_refl _⟩
    · subst h
      exact ⟨Nat.le_add_right _ _, Nat.le_add_right _ _⟩
    · exact pmX_mono n _ _ _ h
/-- what is checked of an entry of a method's code -/
def pmEnt (NM : Nat) (Pg : Nat → pmMe) (TB : List Cond) (j q : Nat) (i : Instr) (n : Nat) (x : Nat × Nat) : Prop :=
  decode (pmBy (Pg j)) q = .ok (i, pmIl i n) ∧ (∀ w ∈ pmWs (pmNm (Pg j)).cls i x, w ∈ TB) ∧ pmOk (decide ((pmNm (Pg j)).name = "<init>")) (pmNm (Pg j)).cls i x = true ∧ pmOx (pmNm (Pg j)).cls i x = true ∧ pmOa i x = true ∧ pmOc Pg i x = true ∧
  (∀ w ∈ pmWc Pg (pmNm (Pg j)).cls i x, w ∈ TB) ∧ (∀ w ∈ pmWn Pg (pmNm (Pg j)).cls i x, w ∈ pmNs) ∧ pmOt Pg j q i x = true ∧ (∀ w ∈ pmWt Pg j q i x, w ∈ TB) ∧ (∀ t, pmTg i x = some t → t < NM)
/-- .. and of a method -/
def pmMOk (NM : Nat) (Pg : Nat → pmMe) (TB : List Cond) (j : Nat) : Prop :=
  (∀ q i n x, pmCo (Pg j) q = some (i, n, x) → pmEnt NM Pg TB j q i n x) ∧ (∀ w ∈ pmWh (Pg j), w ∈ TB) ∧ pmOh (Pg j) = true ∧ plainFor (pmNm (Pg j)) = true
theorem pmAl_vd {i : Instr} {x : Nat × Nat} {c' : pmC} {a b : Nat} (h : pmAl i x (pc, L, st, S) = some (c', a, b)) (hv : pmVd (pc, L, st, S)) : pmVd c' ∧ S.1.length ≤ c'.2.2.2.1.length ∧ c'.2.2.2.1.length ≤ 90000 := by
  unfold pmAl at h
  split at h
  · rename_i hlen
    have hl : ∀ e0 : Nat ⊕ (Nat × Nat), S.1.length ≤ (S.1 ++ [e0]).length ∧ (S.1 ++ [e0]).length ≤ 90000 := by
      intro e0
      have : (S.1 ++ [e0]).length = S.1.length + 1 := by rw [List.length_append]; rfl
      have h9 : S.1.length < 90000 := hlen
      omega
    split at h
    · split at h
      · cases h
        exact ⟨pmVd_mk (fun _ h => h) hv, hl _⟩
      · cases h
    · split at h
      · rename_i hs
        dsimp only at hs
        subst hs
        split at h
        · cases h
          exact ⟨pmVd_mk pm_in1 hv, hl _⟩
        · cases h
      · cases h
    · split at h
      · rename_i hs
        dsimp only at hs
        subst hs
        split at h
        · cases h
          exact ⟨pmVd_mk pm_in1 hv, hl _⟩
        · cases h
      · cases h
    · cases h
  · cases h
theorem pmArg_st {i : Instr} {x : Nat × Nat} {t : Nat} {as rest : List Value} (h : pmArg Pg i x (pc, L, st, S) = some (t, as, rest)) : pmTg i x = some t ∧ st = as.reverse ++ rest := by
  unfold pmArg at h
  cases htg : pmTg i x with
  | none => rw [htg] at h; cases h
  | some t9 =>
    rw [htg] at h
    dsimp only at h
    split at h
    · simp only [Option.some.injEq, Prod.mk.injEq] at h
      obtain ⟨rfl, h7, h8⟩ := h
      refine ⟨rfl, ?_⟩
      rw [← h7, ← h8, List.reverse_reverse]
      exact (List.take_append_drop _ _).symm
    · cases h
theorem pm_body {NM j d sz : Nat} {r : pmR} {cal : Nat → List Value → pmS → pmR → Prop} {ad0 : Nat → Nat} {S0 : pmS} (hm : pmMOk NM Pg TB j) (hG : pmGood TB)
    (hcal : ∀ t as S r', t < NM → cal t as S r' → pmCon l Pg TB E D cA d t as S r')
    (hexec : p.tables.exec = Jvm.exec) (hb : c0.code = pmBy (Pg j)) (hml : c0.maxLocals = pmMx (Pg j)) (hown : s.vm.findClass (pmNm (Pg j)).cls = some m.cls) (hlocks : meth.locks = false) (hrt : meth.sig.returnType = pmRt (Pg j)) (hini : (pmNm (Pg j)).name = "<init>" → meth.name = "<init>")
    (htab : c0.exceptionTable.toList = tableOf (pmHh (pmHd (Pg j)))) (hTB : ∀ w ∈ TB, w.before args s = true) (hst : l.stackTraces = false) (hK : va_K D pmCl (pmTs cA) s) (hE : pmVv 0 (va_rf E.2.2))
    (hA : A = va_A (pmW ad0 cA S0) sz) (hsz : s.heap.size = sz) (hEn0 : pmEn E ad0 A s s.heap) (hRf : 8 + 2 * (d + 1) ≤ R.frames) (hRl : 200 + 60 * (d + 1) ≤ R.locals) (hRc : r.2.2.1 ≤ R.cells) (hRs : r.2.2.2 ≤ R.slots) :
    ∀ (n : Nat) (c : pmC) (kc ks : Nat) (ad : Nat → Nat) (H : Heap) (locs : List Loc) (ls : Array Slot), pmX Pg E cal j n c kc ks r → pmVd c → pmEx ad0 ad S0.1.length → S0.1.length ≤ c.2.2.2.1.length → c.2.2.2.1.length ≤ 90000 →
      pmRel D A s.heap (pmMx (Pg j)) ad cA c H locs ls → W p l e R s m args below meth c0 H locs kc ks (vx_MQ below (pmQc D cA ad0 S0 sz r) (pmXC D cA ad0 S0 sz r) args s r.2.2.1 r.2.2.2 (va_A (pmW ad0 cA S0) sz)) (F0 m c.1 ls (c.2.2.1.map (pmRe ad)))
  | 0, _, _, _, _, _, _, _, h, _, _, _, _, _ => absurd h id
  | n + 1, (pc, L, st, S), kc, ks, ad, H, locs, ls, h, hv, hx, hl0, hl9, hr => by
    have hmono := pmX_mono _ _ _ _ h
    obtain ⟨i, ln, x, hco, h⟩ := h
    obtain ⟨e1, e2, e3, e4, e5, e6, e7, e8, e9, e10, e11⟩ := hm.1 _ _ _ _ hco
    have hdec : ∀ q i n y, pmCo (Pg j) q = some (i, n, y) → decode (pmBy (Pg j)) q = .ok (i, pmIl i n) := fun q i n y h => (hm.1 q i n y h).1
    have hWs : ∀ w ∈ pmWs (pmNm (Pg j)).cls i x, w.before args s = true := fun w hw => hTB _ (e2 w hw)
    have hAA : ∀ q, s.heap.size ≤ q → A q := by
      intro q hq
      rw [hA]
      exact Or.inr (by rw [← hsz]; exact hq)
    have hEn : pmEn E ad A s s.heap := hEn0.go (State.WarmedH.refl s) (fun i hi => hx i (Or.inr hi)) (fun _ _ _ => rfl) (Nat.le_refl _) (fun _ h => h)
    have hini9 : decide ((pmNm (Pg j)).name = "<init>") = true → meth.name = "<init>" := fun h => hini (of_decide_eq_true h)
    have ih := pm_body hm hG hcal hexec hb hml hown hlocks hrt hini htab hTB hst hK hE hA hsz hEn0 hRf hRl hRc hRs n
    rcases h with ⟨b, c', ps, h1, hp, h⟩ | ⟨c', ps, h1, hp, h⟩ | ⟨c', a, b, h1, h⟩ | ⟨t, as, rest, v, S', a, b, h1, h2, h3, h⟩ | ⟨t, as, rest, k, S', a, b, h1, h2, h3, h4, h⟩ | ⟨t, as, rest, k, S', a, b, h9, c', h1, h2, h3, h4, h5, h⟩ | ⟨v, ps, h1, hp, h⟩ | ⟨k, h1, h2, h3, h⟩ | ⟨L', h1, h⟩
    · unfold pmStp at h1
      split at h1
      · rename_i y hy
        cases h1
        obtain ⟨v1, v2⟩ := pm_step_vd hy hp hv
        exact pm_step_ok e1 hy hp hWs e3 hini9 hown hK hexec hb hr (fun H locs ls hr' => ih _ _ _ _ _ _ _ h v1 hx (by rw [v2]; exact hl0) (by rw [v2]; exact hl9) hr')
      · split at h1
        · rename_i y hy
          cases h1
          obtain ⟨v1, v2⟩ := pm_xs_vd (b := 0) hy hE hv
          exact pm_xs_ok (b := 0) e1 hy hp hWs e4 hown hK hEn hml (by omega) (by omega) hexec hb hr (fun H locs ls hr' => ih _ _ _ _ _ _ _ h v1 hx (by rw [v2]; exact hl0) (by rw [v2]; exact hl9) hr')
        · obtain ⟨v1, v2⟩ := pm_xt_vd h1 hv
          exact pm_xt_ok (b := 0) e1 h1 hp hWs hown hK hEn hml (by omega) (by omega) hexec hb hr (fun H locs ls hr' => ih _ _ _ _ _ _ _ h v1 hx (by rw [v2]; exact hl0) (by rw [v2]; exact hl9) hr')
    · obtain ⟨v1, v2⟩ := pm_aas_vd h1 hv
      exact pms_aastore e1 h1 hp hK hexec hb hr (fun H locs ls hr' => ih _ _ _ _ _ _ _ h v1 hx (by rw [v2]; exact hl0) (by rw [v2]; exact hl9) hr')
    · obtain ⟨v1, v2, v3⟩ := pmAl_vd h1 hv
      have hm9 := pmX_mono _ _ _ _ h
      exact pm_al_ok e1 h1 hWs e5 hEn.1.1 hown hK hAA (by omega) (by omega) hv hexec hb hr (fun ad' hx' H locs ls hr' => ih _ _ _ _ _ _ _ h v1 (hx.trans hx' hl0) (Nat.le_trans hl0 v2) v3 hr')
    · obtain ⟨g1, g2⟩ := pmArg_st h1
      have hm9 := pmX_mono _ _ _ _ h
      obtain ⟨hF, hrun⟩ := pm_call (n := ln) (d := d) (r := (.inl v, S', a, b)) e1 h1 h2 e6 e7 e8 hTB hG (hcal _ _ _ _ (e11 _ g1) h3) hexec hb hml hown hK hAA hEn hv hl9 (by omega) (by omega) (Nat.le_trans hm9.1 hRc) (Nat.le_trans hm9.2 hRs) hr
      refine pm_after hrun hr.2.2.1 hF (fun k ad' ce q9 H1 locs1 q1 => by cases q1) (fun v9 ad' H1 locs1 q1 q2 q3 q4 q5 q6 => ?_)
      cases q1
      have hvr : ∀ w ∈ rest, pmVv S.1.length w := fun w hw => hv.2.1 w (by show w ∈ st; rw [g2]; exact List.mem_append_right _ hw)
      have hst9 : (v.map (pmRe ad')).toList ++ rest.map (pmRe ad) = (v.toList ++ rest).map (pmRe ad') := by
        rw [List.map_append, q3.map hvr]
        cases v <;> rfl
      rw [hst9]
      refine ih (pc + 3, L, v.toList ++ rest, S') _ _ ad' H1 locs1 ls h ⟨fun k w hk => pmVv_up (hv.1 k w hk) q4, ?_, q5.2.2.1⟩ (hx.trans q3 hl0) (Nat.le_trans hl0 q4) q5.2.2.2 ⟨q5.1, q5.2.1, q6, ?_, hr.2.2.2.2⟩
      · intro w hw
        rcases List.mem_append.mp hw with hw | hw
        · exact q2 w (Option.mem_toList.mp hw)
        · exact pmVv_up (hvr w hw) q4
      · show lv_has ls _ (pmLv ad' L)
        rw [q3.lv hv.1]
        exact hr.2.2.2.1
    · obtain ⟨g1, g2⟩ := pmArg_st h1
      subst h
      obtain ⟨hF, hrun⟩ := pm_call (n := ln) (d := d) (r := (.inr k, S', a, b)) e1 h1 h2 e6 e7 e8 hTB hG (hcal _ _ _ _ (e11 _ g1) h3) hexec hb hml hown hK hAA hEn hv hl9 (by omega) (by omega) hRc hRs hr
      refine pm_after hrun hr.2.2.1 hF (fun k9 ad' ce q9 H1 locs1 q1 q3 q4 q5 q6 q7 q8 q10 => ?_) (fun v9 ad' H1 locs1 q1 => by cases q1)
      cases q1
      refine vx_out (fun z hz => ?_) hlocks q7 q8 q10 (fun t ht hvm => ?_) (by rw [← hA]; exact q6.2.2) (Nat.le_refl _) (Nat.le_refl _)
      · rw [htab, h4] at hz
        cases hz
      · refine ⟨k, ad', rfl, rfl, hx.trans q3 hl0, Nat.le_trans hl0 q4, ?_, ?_⟩
        · rw [ht, ← hA]
          exact q5
        · rw [← hA]
          exact q6.F ht
    · obtain ⟨g1, g2⟩ := pmArg_st h1
      have hm9 := pmX_mono _ _ _ _ h
      obtain ⟨hF, hrun⟩ := pm_call (n := ln) (d := d) (r := (.inr k, S', a, b)) e1 h1 h2 e6 e7 e8 hTB hG (hcal _ _ _ _ (e11 _ g1) h3) hexec hb hml hown hK hAA hEn hv hl9 (by omega) (by omega) (Nat.le_trans hm9.1 hRc) (Nat.le_trans hm9.2 hRs) hr
      refine pm_after hrun hr.2.2.1 hF (fun k9 ad' ce q9 H1 locs1 q1 q3 q4 q5 q6 q7 q8 q10 => ?_) (fun v9 ad' H1 locs1 q1 => by cases q1)
      cases q1
      have hLv : pmVl S'.1.length L := fun k w hk => pmVv_up (hv.1 k w hk) q4
      obtain ⟨v1, v2⟩ := pmHan_vd h5 hLv q5.2.2.1
      have hEn' : pmEn E ad' A s s.heap := hEn.go (State.WarmedH.refl s) (fun i hi => q3 i (Or.inr hi)) (fun _ _ _ => rfl) (Nat.le_refl _) (fun _ h => h)
      refine pm_catch (pc := pc) (L := L) (S := S') (st := []) (ad := ad') hdec h4 h5 hm.2.1 hm.2.2.1 hTB hexec hb hown hEn' htab q7 q8 q10 ⟨q5.1, q5.2.1, q6, ?_, hr.2.2.2.2⟩ (fun H locs ls hr' => ih _ _ _ _ _ _ _ h v1 (hx.trans q3 hl0) (by rw [v2]; exact Nat.le_trans hl0 q4) (by rw [v2]; exact q5.2.2.2) hr')
      show lv_has ls _ (pmLv ad' L)
      rw [q3.lv hv.1]
      exact hr.2.2.2.1
    · exact pm_ret e1 h1 hp hrt hexec hb hlocks hA hx hl0 hl9 hv h hr
    · subst h
      exact pm_throw rfl hdec e1 h1 e9 e10 hTB hexec hb hst hown hEn hml (fun z hz => by rw [htab, h2] at hz; cases hz) hlocks h3 (by omega) (by omega) hRc hRs (Nat.le_refl _) (Nat.le_refl _) hsz hA hx hl0 hl9 hv ⟨rfl, rfl⟩ hr
    · refine ih (pc, L', st, S) _ _ ad H locs ls h ⟨fun k w hk => hv.1 k w ((pmLe_at h1).2 k w hk), hv.2.1, hv.2.2⟩ hx hl0 hl9 ⟨hr.1, hr.2.1, hr.2.2.1, lv_has_of hr.2.2.2.1 (pmLe_lv h1), (pmLe_at h1).1.trans hr.2.2.2.2⟩
end PMH
end
section
/-! PM: a call of the small machine is a contract of the machine -/
theorem pmArgs_len (ad : Nat → Nat) : ∀ as : List Value, (lg_sl (as.map (pmRe ad))).length = (pmArgs as).length
  | [] => rfl
  | v :: r => by
    have ih := pmArgs_len ad r
    unfold pmArgs
    show (lg_sl (pmRe ad v :: r.map (pmRe ad))).length = _
    unfold lg_sl at ih ⊢
    rw [List.flatMap_cons, List.length_append, ih, pmRe_cat]
    split
    · show 2 + (pmArgs r).length = (pmArgs r).length + 1 + 1
      omega
    · show 1 + (pmArgs r).length = (pmArgs r).length + 1
      omega
theorem pmArgs_at {ad : Nat → Nat} : ∀ (as : List Value) (i k : Nat) (v : Value), (pmArgs as)[k]? = some (some v) → (i + k, pmRe ad v) ∈ lv_args i (as.map (pmRe ad))
  | [], i, k, v, h => by cases h
  | w :: r, i, k, v, h => by
    unfold pmArgs at h
    show (i + k, pmRe ad v) ∈ (i, pmRe ad w) :: lv_args (if (pmRe ad w).category = 2 then i + 2 else i + 1) (r.map (pmRe ad))
    rw [pmRe_cat]
    split at h
    · rename_i hc
      rw [if_pos hc]
      match k, h with
      | 0, h => cases h; exact List.mem_cons_self
      | 1, h => cases h
      | k + 2, h =>
        have ih := pmArgs_at (ad := ad) r (i + 2) k v h
        rw [show i + 2 + k = i + (k + 2) by omega] at ih
        exact List.mem_cons_of_mem _ ih
    · rename_i hc
      rw [if_neg hc]
      match k, h with
      | 0, h => cases h; exact List.mem_cons_self
      | k + 1, h =>
        have ih := pmArgs_at (ad := ad) r (i + 1) k v h
        rw [show i + 1 + k = i + (k + 1) by omega] at ih
        exact List.mem_cons_of_mem _ ih
theorem pmArgs_in : ∀ (as : List Value) (k : Nat) (v : Value), (pmArgs as)[k]? = some (some v) → v ∈ as
  | [], k, v, h => by cases h
  | w :: r, k, v, h => by
    unfold pmArgs at h
    split at h
    · match k, h with
      | 0, h => cases h; exact List.mem_cons_self
      | 1, h => cases h
      | k + 2, h => exact List.mem_cons_of_mem _ (pmArgs_in r k v h)
    · match k, h with
      | 0, h => cases h; exact List.mem_cons_self
      | k + 1, h => exact List.mem_cons_of_mem _ (pmArgs_in r k v h)
theorem pmL0_at {n : Nat} {as : List Value} {k : Nat} {v : Value} (h : (pmL0 n as)[k]? = some (some v)) : (pmArgs as)[k]? = some (some v) := by
  unfold pmL0 at h
  rcases Nat.lt_or_ge k (pmArgs as).length with hk | hk
  · rwa [List.getElem?_append_left hk] at h
  · rw [List.getElem?_append_right hk, List.getElem?_replicate] at h
    split at h <;> cases h
theorem pmL0_len {n : Nat} {as : List Value} (h : (pmArgs as).length ≤ n) : (pmL0 n as).length = n := by
  unfold pmL0
  rw [List.length_append, List.length_replicate]
  omega
/-! pm_ofW, pm_ofWH follow vx_ofW, vx_ofWH, for a method whose class has other methods run by entries -/
theorem pm_ofW {l : Launch} {y : MethodName} {ws ws' : List Cond} {rm : Room} {Pc : Array Value → State → Prop} {Qc : Array Value → State → Outcome → State → Prop} {XC : String → State → State → Prop} {mc ms : Nat} {free : Addr → Prop} {cc : ByteArray} {maxL : Nat} {ret : Option FieldType}
    (hy : plainFor y = true) (hw : ws = Cond.code y cc maxL ret :: ws')
    (body : ∀ p e s m args below meth c s₁, BodyLoose p l y (headSpec ws rm) cc maxL ret e s m args below meth c s₁ → c.maxLocals = maxL → (∀ x ∈ c.exceptionTable.toList, False) → Pc args s →
      W p l e (headSpec ws rm).room s m args below meth c s.heap [] 0 0 (vx_MQ below Qc XC args s mc ms free) (entryFrame m args maxL)) : vx_Met l y ws rm Pc Qc XC mc ms free := by
  refine MetFree.of_bodySF (code := cc) (maxLocals := maxL) (ret := ret) hy ?_ ?_
  · intro args s m h hn
    obtain ⟨meth, c, h1, h2, h3, h4, h5, h6, -, -⟩ := Cond.code_spec hn (atoms_spec (ws := ws) h _ (by rw [hw]; exact List.mem_cons_self))
    exact ⟨meth, c, h1, h2, h3, h4, h5, h6⟩
  · intro p e s m args below meth c s₁ B hml hP _
    have hh0 : s₁.heap = s.heap := by rw [B.state]; rfl
    have ht : ∀ x ∈ c.exceptionTable.toList, False := by
      obtain ⟨meth9, c9, h1, h2, -, -, -, -, h7, -⟩ := Cond.code_spec B.named (atoms_spec (ws := ws) B.pre _ (by rw [hw]; exact List.mem_cons_self))
      cases Option.some.inj (h1.symm.trans B.method)
      cases Option.some.inj (h2.symm.trans (Stand.of_body B).code)
      intro x hx
      rw [Array.isEmpty_iff.mp h7] at hx
      cases hx
    obtain ⟨t, a1, o, b1, b2, b3⟩ := body p e s m args below meth c s₁ B hml ht hP s₁ hh0 (Stand.of_body B)
    exact ⟨t, o, a1, b1, b2, b3⟩
theorem pm_ofWH {l : Launch} {y : MethodName} {ws ws' : List Cond} {rm : Room} {Pc : Array Value → State → Prop} {Qc : Array Value → State → Outcome → State → Prop} {XC : String → State → State → Prop} {mc ms : Nat} {free : Addr → Prop} {cc : ByteArray} {maxL : Nat} {ret : Option FieldType} {hh : List (Nat × Nat × Nat × Nat)}
    (hy : plainFor y = true) (hw : ws = Cond.codeWith y cc maxL ret hh :: ws')
    (body : ∀ p e s m args below meth c s₁, BodyLoose p l y (headSpec ws rm) cc maxL ret e s m args below meth c s₁ → c.maxLocals = maxL → Pc args s →
      W p l e (headSpec ws rm).room s m args below meth c s.heap [] 0 0 (vx_MQ below Qc XC args s mc ms free) (entryFrame m args maxL)) : vx_Met l y ws rm Pc Qc XC mc ms free := by
  refine MetFree.of_bodySF (code := cc) (maxLocals := maxL) (ret := ret) hy ?_ ?_
  · intro args s m h hn
    obtain ⟨m9, meth, c, hn9, h1, h2, h3, h4, -, h5, h6, -⟩ := Cond.codeWith_spec (atoms_spec (ws := ws) h _ (by rw [hw]; exact List.mem_cons_self))
    cases hn.symm.trans hn9
    exact ⟨meth, c, h1, h2, h3, h4, h5, h6⟩
  · intro p e s m args below meth c s₁ B hml hP _
    have hh0 : s₁.heap = s.heap := by rw [B.state]; rfl
    obtain ⟨t, a1, o, b1, b2, b3⟩ := body p e s m args below meth c s₁ B hml hP s₁ hh0 (Stand.of_body B)
    exact ⟨t, o, a1, b1, b2, b3⟩
section PMI
variable {l : Launch} {D : va_G} {cA : Nat → ClassId} {Pg : Nat → pmMe} {TB : List Cond} {E : pmEv0} {NM : Nat}
theorem pm_met {j d : Nat} {as : List Value} {S : pmS} {r : pmR} {cal : Nat → List Value → pmS → pmR → Prop} (hm : pmMOk NM Pg TB j) (hG : pmGood TB) (hst : l.stackTraces = false) (hE : pmVv 0 (va_rf E.2.2))
    (hcal : ∀ t as S r', t < NM → cal t as S r' → pmCon l Pg TB E D cA d t as S r') (hlen : (pmArgs as).length ≤ pmMx (Pg j)) {n : Nat} (hX : pmX Pg E cal j n (0, pmL0 (pmMx (Pg j)) as, [], S) 0 0 r) :
    pmCon l Pg TB E D cA (d + 1) j as S r := by
  intro ad sz hvas
  -- what both kinds of body come to
  have main : ∀ (p : Program) (e : Env) (s : State) (m : MethodId) (args : Array Value) (below : List Frame) (meth : Method) (c : Code), p.tables.exec = Jvm.exec → c.code = pmBy (Pg j) → c.maxLocals = pmMx (Pg j) → s.vm.findClass (pmNm (Pg j)).cls = some m.cls → meth.locks = false → meth.sig.returnType = pmRt (Pg j) → meth.name = (pmNm (Pg j)).name → c.exceptionTable.toList = tableOf (pmHh (pmHd (Pg j))) → (∀ w ∈ TB, w.before args s = true) →
      va_Pc (as.map (pmRe ad)) (fun U => U.heap.size = sz ∧ pmBw E D cA ad S U) args s → W p l e (pmRm (d + 1) r) s m args below meth c s.heap [] 0 0 (vx_MQ below (pmQc D cA ad S sz r) (pmXC D cA ad S sz r) args s r.2.2.1 r.2.2.2 (va_A (pmW ad cA S) sz)) (entryFrame m args (pmMx (Pg j))) := by
    intro p e s m args below meth c h1 h2 h3 h4 h5 h6 h7 h8 h9 h10
    obtain ⟨rfl, hsz, hP, hK, hD, hEn, hVm, hl9⟩ := h10
    have hl := lv_entry (as.map (pmRe ad)) (n := pmMx (Pg j)) (by rw [pmArgs_len]; exact hlen)
    rw [lg_entry_eq]
    generalize (lg_sl (as.map (pmRe ad)) ++ List.replicate (pmMx (Pg j) - (lg_sl (as.map (pmRe ad))).length) Slot.unset).toArray = ls at hl ⊢
    have hl' : lv_has ls (pmMx (Pg j)) (pmLv ad (pmL0 (pmMx (Pg j)) as)) := by
      refine lv_has_of hl (fun q hq => ?_)
      obtain ⟨v, g1, g2⟩ := pmLv_of hq
      have g3 := pmArgs_at (ad := ad) as 0 q.1 v (pmL0_at g1)
      rw [Nat.zero_add] at g3
      obtain ⟨q1, q2⟩ := q
      dsimp only at g2 g3
      rw [g2]
      exact g3
    rw [← hsz]
    have hEn' : pmEn E ad (va_A (pmW ad cA S) s.heap.size) s s.heap := hEn
    exact pm_body (sz := s.heap.size) (S0 := S) (ad0 := ad) hm hG hcal h1 h2 h3 h4 h5 h6 (fun h => h7.trans h) h8 h9 hst hK hE rfl rfl hEn' (Nat.le_refl _) (Nat.le_refl _) (Nat.le_refl _) (Nat.le_refl _) n (0, pmL0 (pmMx (Pg j)) as, [], S) 0 0 ad s.heap [] ls hX
      ⟨fun k v hk => hvas v (pmArgs_in as k v (pmL0_at hk)), fun _ h => absurd h List.not_mem_nil, hVm⟩ pmEx.rf (Nat.le_refl _) hl9 ⟨hP, hD.self, va_S.rf, hl', pmL0_len hlen⟩
  by_cases hhd : pmHd (Pg j) = []
  · have hw : pmHw (Pg j) = .code (pmNm (Pg j)) (pmBy (Pg j)) (pmMx (Pg j)) (pmRt (Pg j)) := if_pos hhd
    rw [hw]
    refine pm_ofW (cc := pmBy (Pg j)) (maxL := pmMx (Pg j)) (ret := pmRt (Pg j)) hm.2.2.2 rfl ?_
    intro p e s m args below meth c s₁ B hml ht hv
    have hts := atoms_spec B.pre
    refine main p e s m args below meth c B.exec B.bytes hml (findClass_of_methodNamed B.named) B.notSynchronized B.returns (name_of_methodNamed B.named B.method).1 ?_ (fun w hw9 => hts w (List.mem_cons_of_mem _ hw9)) hv
    rw [hhd]
    cases hc : c.exceptionTable.toList with
    | nil => rfl
    | cons a b => exact absurd (ht a (by rw [hc]; exact List.mem_cons_self)) id
  · have hw : pmHw (Pg j) = .codeWith (pmNm (Pg j)) (pmBy (Pg j)) (pmMx (Pg j)) (pmRt (Pg j)) (pmHh (pmHd (Pg j))) := if_neg hhd
    rw [hw]
    refine pm_ofWH (cc := pmBy (Pg j)) (maxL := pmMx (Pg j)) (ret := pmRt (Pg j)) (hh := pmHh (pmHd (Pg j))) hm.2.2.2 rfl ?_
    intro p e s m args below meth c s₁ B hml hv
    have hts := atoms_spec B.pre
    exact main p e s m args below meth c B.exec B.bytes hml (findClass_of_methodNamed B.named) B.notSynchronized B.returns (name_of_methodNamed B.named B.method).1 (vx_table (x := pmNm (Pg j)) B (hts _ List.mem_cons_self)) (fun w hw9 => hts w (List.mem_cons_of_mem _ hw9)) hv
/-- ALL CALLS -/
theorem pm_sound (hall : ∀ j, j < NM → pmMOk NM Pg TB j) (hG : pmGood TB) (hst : l.stackTraces = false) (hE : pmVv 0 (va_rf E.2.2)) : ∀ (d j : Nat) (as : List Value) (S : pmS) (r : pmR), j < NM → pmEv Pg E d j as S r → pmCon l Pg TB E D cA d j as S r
  | 0, _, _, _, _, _, h => absurd h id
  | d + 1, j, as, S, r, hj, h => by
    obtain ⟨h1, n, h2⟩ := h
    exact pm_met (hall j hj) hG hst hE (fun t as S r' ht h9 => pm_sound hall hG hst hE d t as S r' ht h9) h1 h2
end PMI
end
