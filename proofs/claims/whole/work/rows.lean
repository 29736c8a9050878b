section
-- ===== PART A: goes FIRST, ahead of the names: the tables' words, and 'selects' of the private methods out of them =====
/-- a private method of a class that the tables say can be made, by its rows of tables_1 -/
def lw_okq (q : MethodName × Nat) : Prop := (q.1.cls ≠ "java/lang/invoke/MethodHandle" ∧ q.1.cls ≠ "java/lang/invoke/VarHandle") ∧ Cond.instantiable q.1.cls q.2 ∈ tables_1 ∧ Cond.privateMethod q.1 ∈ tables_1 ∧ Cond.instanceMethod q.1 ∈ tables_1
theorem lw_p0 : lw_okq (⟨"SpeedKernel", "forgetPlans", "()V"⟩, 9) := ⟨⟨by decide +kernel, by decide +kernel⟩, List.mem_of_getElem? (i := 32) (by decide +kernel), List.mem_of_getElem? (i := 394) (by decide +kernel), List.mem_of_getElem? (i := 395) (by decide +kernel)⟩
theorem lw_p1 : lw_okq (⟨"SpeedKernel$Planner", "findGroups", "(LSpeedKernel$Jobs;)V"⟩, 13) := ⟨⟨by decide +kernel, by decide +kernel⟩, List.mem_of_getElem? (i := 219) (by decide +kernel), List.mem_of_getElem? (i := 461) (by decide +kernel), List.mem_of_getElem? (i := 462) (by decide +kernel)⟩
theorem lw_p2 : lw_okq (⟨"SpeedKernel$Planner", "findDensest", "(LSpeedKernel$Jobs;)V"⟩, 13) := ⟨⟨by decide +kernel, by decide +kernel⟩, List.mem_of_getElem? (i := 219) (by decide +kernel), List.mem_of_getElem? (i := 466) (by decide +kernel), List.mem_of_getElem? (i := 467) (by decide +kernel)⟩
theorem lw_p3 : lw_okq (⟨"SpeedKernel$Planner", "tryBetween", "(LSpeedKernel$Jobs;II)V"⟩, 13) := ⟨⟨by decide +kernel, by decide +kernel⟩, List.mem_of_getElem? (i := 219) (by decide +kernel), List.mem_of_getElem? (i := 470) (by decide +kernel), List.mem_of_getElem? (i := 471) (by decide +kernel)⟩
theorem lw_p4 : lw_okq (⟨"SpeedKernel$Planner", "takeDensest", "(LSpeedKernel$Jobs;)V"⟩, 13) := ⟨⟨by decide +kernel, by decide +kernel⟩, List.mem_of_getElem? (i := 219) (by decide +kernel), List.mem_of_getElem? (i := 479) (by decide +kernel), List.mem_of_getElem? (i := 480) (by decide +kernel)⟩
theorem lw_p5 : lw_okq (⟨"SpeedKernel$Planner", "layOutSteps", "(LSpeedKernel$Jobs;LSpeedKernel$Profile;)V"⟩, 13) := ⟨⟨by decide +kernel, by decide +kernel⟩, List.mem_of_getElem? (i := 219) (by decide +kernel), List.mem_of_getElem? (i := 490) (by decide +kernel), List.mem_of_getElem? (i := 491) (by decide +kernel)⟩
theorem lw_p6 : lw_okq (⟨"SpeedKernel$Planner", "workOff", "(LSpeedKernel$Jobs;LSpeedKernel$Profile;)V"⟩, 13) := ⟨⟨by decide +kernel, by decide +kernel⟩, List.mem_of_getElem? (i := 219) (by decide +kernel), List.mem_of_getElem? (i := 539) (by decide +kernel), List.mem_of_getElem? (i := 540) (by decide +kernel)⟩
theorem lw_p7 : lw_okq (⟨"SpeedKernel$Planner", "workOffAt", "(LSpeedKernel$Jobs;LSpeedKernel$Profile;II)V"⟩, 13) := ⟨⟨by decide +kernel, by decide +kernel⟩, List.mem_of_getElem? (i := 219) (by decide +kernel), List.mem_of_getElem? (i := 543) (by decide +kernel), List.mem_of_getElem? (i := 544) (by decide +kernel)⟩
theorem lw_p8 : lw_okq (⟨"SpeedKernel$Reckoner", "commonOf", "(LSpeedKernel$Natural;LSpeedKernel$Natural;)LSpeedKernel$Natural;"⟩, 9) := ⟨⟨by decide +kernel, by decide +kernel⟩, List.mem_of_getElem? (i := 182) (by decide +kernel), List.mem_of_getElem? (i := 560) (by decide +kernel), List.mem_of_getElem? (i := 561) (by decide +kernel)⟩
theorem lw_p9 : lw_okq (⟨"SpeedKernel$Natural", "trim", "()V"⟩, 2) := ⟨⟨by decide +kernel, by decide +kernel⟩, List.mem_of_getElem? (i := 109) (by decide +kernel), List.mem_of_getElem? (i := 588) (by decide +kernel), List.mem_of_getElem? (i := 589) (by decide +kernel)⟩
theorem lw_p10 : lw_okq (⟨"SpeedKernel$Natural", "freeBits", "()I"⟩, 2) := ⟨⟨by decide +kernel, by decide +kernel⟩, List.mem_of_getElem? (i := 109) (by decide +kernel), List.mem_of_getElem? (i := 593) (by decide +kernel), List.mem_of_getElem? (i := 594) (by decide +kernel)⟩
theorem lw_p11 : lw_okq (⟨"SpeedKernel$Natural", "shiftUp", "(I)V"⟩, 2) := ⟨⟨by decide +kernel, by decide +kernel⟩, List.mem_of_getElem? (i := 109) (by decide +kernel), List.mem_of_getElem? (i := 598) (by decide +kernel), List.mem_of_getElem? (i := 599) (by decide +kernel)⟩
theorem lw_p12 : lw_okq (⟨"SpeedKernel$Natural", "push", "(J)V"⟩, 2) := ⟨⟨by decide +kernel, by decide +kernel⟩, List.mem_of_getElem? (i := 109) (by decide +kernel), List.mem_of_getElem? (i := 602) (by decide +kernel), List.mem_of_getElem? (i := 603) (by decide +kernel)⟩
theorem lw_p13 : lw_okq (⟨"SpeedKernel$Natural", "takeMultiple", "(LSpeedKernel$Natural;I)J"⟩, 2) := ⟨⟨by decide +kernel, by decide +kernel⟩, List.mem_of_getElem? (i := 109) (by decide +kernel), List.mem_of_getElem? (i := 606) (by decide +kernel), List.mem_of_getElem? (i := 607) (by decide +kernel)⟩
theorem lw_p14 : lw_okq (⟨"SpeedKernel$Natural", "guessMultiple", "(LSpeedKernel$Natural;I)J"⟩, 2) := ⟨⟨by decide +kernel, by decide +kernel⟩, List.mem_of_getElem? (i := 109) (by decide +kernel), List.mem_of_getElem? (i := 610) (by decide +kernel), List.mem_of_getElem? (i := 611) (by decide +kernel)⟩
theorem lw_p15 : lw_okq (⟨"SpeedKernel$Natural", "shiftDown", "(I)V"⟩, 2) := ⟨⟨by decide +kernel, by decide +kernel⟩, List.mem_of_getElem? (i := 109) (by decide +kernel), List.mem_of_getElem? (i := 614) (by decide +kernel), List.mem_of_getElem? (i := 615) (by decide +kernel)⟩
def lw_privs_1 : List (MethodName × Nat) := [(⟨"SpeedKernel", "forgetPlans", "()V"⟩, 9), (⟨"SpeedKernel$Planner", "findGroups", "(LSpeedKernel$Jobs;)V"⟩, 13), (⟨"SpeedKernel$Planner", "findDensest", "(LSpeedKernel$Jobs;)V"⟩, 13), (⟨"SpeedKernel$Planner", "tryBetween", "(LSpeedKernel$Jobs;II)V"⟩, 13), (⟨"SpeedKernel$Planner", "takeDensest", "(LSpeedKernel$Jobs;)V"⟩, 13), (⟨"SpeedKernel$Planner", "layOutSteps", "(LSpeedKernel$Jobs;LSpeedKernel$Profile;)V"⟩, 13), (⟨"SpeedKernel$Planner", "workOff", "(LSpeedKernel$Jobs;LSpeedKernel$Profile;)V"⟩, 13), (⟨"SpeedKernel$Planner", "workOffAt", "(LSpeedKernel$Jobs;LSpeedKernel$Profile;II)V"⟩, 13), (⟨"SpeedKernel$Reckoner", "commonOf", "(LSpeedKernel$Natural;LSpeedKernel$Natural;)LSpeedKernel$Natural;"⟩, 9), (⟨"SpeedKernel$Natural", "trim", "()V"⟩, 2), (⟨"SpeedKernel$Natural", "freeBits", "()I"⟩, 2), (⟨"SpeedKernel$Natural", "shiftUp", "(I)V"⟩, 2), (⟨"SpeedKernel$Natural", "push", "(J)V"⟩, 2), (⟨"SpeedKernel$Natural", "takeMultiple", "(LSpeedKernel$Natural;I)J"⟩, 2), (⟨"SpeedKernel$Natural", "guessMultiple", "(LSpeedKernel$Natural;I)J"⟩, 2), (⟨"SpeedKernel$Natural", "shiftDown", "(I)V"⟩, 2)]
theorem lw_r1 : ∀ q ∈ lw_privs_1, lw_okq q := List.forall_mem_cons.mpr ⟨lw_p0, List.forall_mem_cons.mpr ⟨lw_p1, List.forall_mem_cons.mpr ⟨lw_p2, List.forall_mem_cons.mpr ⟨lw_p3, List.forall_mem_cons.mpr ⟨lw_p4, List.forall_mem_cons.mpr ⟨lw_p5, List.forall_mem_cons.mpr ⟨lw_p6, List.forall_mem_cons.mpr ⟨lw_p7, List.forall_mem_cons.mpr ⟨lw_p8, List.forall_mem_cons.mpr ⟨lw_p9, List.forall_mem_cons.mpr ⟨lw_p10, List.forall_mem_cons.mpr ⟨lw_p11, List.forall_mem_cons.mpr ⟨lw_p12, List.forall_mem_cons.mpr ⟨lw_p13, List.forall_mem_cons.mpr ⟨lw_p14, List.forall_mem_cons.mpr ⟨lw_p15, fun _ h => absurd h List.not_mem_nil⟩⟩⟩⟩⟩⟩⟩⟩⟩⟩⟩⟩⟩⟩⟩⟩
theorem lw_p16 : lw_okq (⟨"java/lang/Throwable", "fillInStackTrace", "(I)Ljava/lang/Throwable;"⟩, 6) := ⟨⟨by decide +kernel, by decide +kernel⟩, List.mem_of_getElem? (i := 668) (by decide +kernel), List.mem_of_getElem? (i := 666) (by decide +kernel), List.mem_of_getElem? (i := 667) (by decide +kernel)⟩
theorem lw_p17 : lw_okq (⟨"SpeedKernel$Foresight", "findDensest", "(LSpeedKernel$Jobs;I)V"⟩, 9) := ⟨⟨by decide +kernel, by decide +kernel⟩, List.mem_of_getElem? (i := 269) (by decide +kernel), List.mem_of_getElem? (i := 984) (by decide +kernel), List.mem_of_getElem? (i := 985) (by decide +kernel)⟩
theorem lw_p18 : lw_okq (⟨"SpeedKernel$Foresight", "isOpen", "(LSpeedKernel$Jobs;II)Z"⟩, 9) := ⟨⟨by decide +kernel, by decide +kernel⟩, List.mem_of_getElem? (i := 269) (by decide +kernel), List.mem_of_getElem? (i := 988) (by decide +kernel), List.mem_of_getElem? (i := 989) (by decide +kernel)⟩
theorem lw_p19 : lw_okq (⟨"SpeedKernel$Foresight", "setRate", "(I)V"⟩, 9) := ⟨⟨by decide +kernel, by decide +kernel⟩, List.mem_of_getElem? (i := 269) (by decide +kernel), List.mem_of_getElem? (i := 999) (by decide +kernel), List.mem_of_getElem? (i := 1000) (by decide +kernel)⟩
theorem lw_p20 : lw_okq (⟨"SpeedKernel$Foresight", "workOff", "(LSpeedKernel$Jobs;LSpeedKernel$Profile;II)V"⟩, 9) := ⟨⟨by decide +kernel, by decide +kernel⟩, List.mem_of_getElem? (i := 269) (by decide +kernel), List.mem_of_getElem? (i := 1005) (by decide +kernel), List.mem_of_getElem? (i := 1006) (by decide +kernel)⟩
theorem lw_p21 : lw_okq (⟨"SpeedKernel$Foresight", "setEnd", "(LSpeedKernel$Profile;II)V"⟩, 9) := ⟨⟨by decide +kernel, by decide +kernel⟩, List.mem_of_getElem? (i := 269) (by decide +kernel), List.mem_of_getElem? (i := 1013) (by decide +kernel), List.mem_of_getElem? (i := 1014) (by decide +kernel)⟩
theorem lw_p22 : lw_okq (⟨"SpeedKernel$Foresight", "rescale", "(LSpeedKernel$Jobs;II)V"⟩, 9) := ⟨⟨by decide +kernel, by decide +kernel⟩, List.mem_of_getElem? (i := 269) (by decide +kernel), List.mem_of_getElem? (i := 1017) (by decide +kernel), List.mem_of_getElem? (i := 1018) (by decide +kernel)⟩
theorem lw_p23 : lw_okq (⟨"SpeedKernel", "fractionOf", "(II)LSpeedKernel$Fraction;"⟩, 9) := ⟨⟨by decide +kernel, by decide +kernel⟩, List.mem_of_getElem? (i := 32) (by decide +kernel), List.mem_of_getElem? (i := 1025) (by decide +kernel), List.mem_of_getElem? (i := 1026) (by decide +kernel)⟩
theorem lw_p24 : lw_okq (⟨"SpeedKernel$Text", "writeNumber", "(LSpeedKernel$Natural;)V"⟩, 4) := ⟨⟨by decide +kernel, by decide +kernel⟩, List.mem_of_getElem? (i := 340) (by decide +kernel), List.mem_of_getElem? (i := 1041) (by decide +kernel), List.mem_of_getElem? (i := 1042) (by decide +kernel)⟩
theorem lw_p25 : lw_okq (⟨"SpeedKernel$Text", "writeChunk", "(IZ)V"⟩, 4) := ⟨⟨by decide +kernel, by decide +kernel⟩, List.mem_of_getElem? (i := 340) (by decide +kernel), List.mem_of_getElem? (i := 1049) (by decide +kernel), List.mem_of_getElem? (i := 1050) (by decide +kernel)⟩
theorem lw_p26 : lw_okq (⟨"SpeedKernel$Text", "push", "(C)V"⟩, 4) := ⟨⟨by decide +kernel, by decide +kernel⟩, List.mem_of_getElem? (i := 340) (by decide +kernel), List.mem_of_getElem? (i := 1054) (by decide +kernel), List.mem_of_getElem? (i := 1055) (by decide +kernel)⟩
theorem lw_p27 : lw_okq (⟨"SpeedKernel", "leavesRoom", "()Z"⟩, 9) := ⟨⟨by decide +kernel, by decide +kernel⟩, List.mem_of_getElem? (i := 32) (by decide +kernel), List.mem_of_getElem? (i := 1102) (by decide +kernel), List.mem_of_getElem? (i := 1103) (by decide +kernel)⟩
theorem lw_p28 : lw_okq (⟨"SpeedKernel$Reckoner", "orderOfWork", "(LSpeedKernel$Profile;III)I"⟩, 9) := ⟨⟨by decide +kernel, by decide +kernel⟩, List.mem_of_getElem? (i := 182) (by decide +kernel), List.mem_of_getElem? (i := 1115) (by decide +kernel), List.mem_of_getElem? (i := 1116) (by decide +kernel)⟩
theorem lw_p29 : lw_okq (⟨"SpeedKernel$Splitter", "splitGroup", "(LSpeedKernel$Planner;ILSpeedKernel$Jobs;LSpeedKernel$Levels;ILSpeedKernel$Reckoner;)V"⟩, 6) := ⟨⟨by decide +kernel, by decide +kernel⟩, List.mem_of_getElem? (i := 307) (by decide +kernel), List.mem_of_getElem? (i := 1173) (by decide +kernel), List.mem_of_getElem? (i := 1174) (by decide +kernel)⟩
theorem lw_p30 : lw_okq (⟨"SpeedKernelModel", "fixBest", "()Z"⟩, 34) := ⟨⟨by decide +kernel, by decide +kernel⟩, List.mem_of_getElem? (i := 1214) (by decide +kernel), List.mem_of_getElem? (i := 1357) (by decide +kernel), List.mem_of_getElem? (i := 1358) (by decide +kernel)⟩
theorem lw_p31 : lw_okq (⟨"SpeedKernelModel", "open", "(II)I"⟩, 34) := ⟨⟨by decide +kernel, by decide +kernel⟩, List.mem_of_getElem? (i := 1214) (by decide +kernel), List.mem_of_getElem? (i := 1361) (by decide +kernel), List.mem_of_getElem? (i := 1362) (by decide +kernel)⟩
def lw_privs_2 : List (MethodName × Nat) := [(⟨"java/lang/Throwable", "fillInStackTrace", "(I)Ljava/lang/Throwable;"⟩, 6), (⟨"SpeedKernel$Foresight", "findDensest", "(LSpeedKernel$Jobs;I)V"⟩, 9), (⟨"SpeedKernel$Foresight", "isOpen", "(LSpeedKernel$Jobs;II)Z"⟩, 9), (⟨"SpeedKernel$Foresight", "setRate", "(I)V"⟩, 9), (⟨"SpeedKernel$Foresight", "workOff", "(LSpeedKernel$Jobs;LSpeedKernel$Profile;II)V"⟩, 9), (⟨"SpeedKernel$Foresight", "setEnd", "(LSpeedKernel$Profile;II)V"⟩, 9), (⟨"SpeedKernel$Foresight", "rescale", "(LSpeedKernel$Jobs;II)V"⟩, 9), (⟨"SpeedKernel", "fractionOf", "(II)LSpeedKernel$Fraction;"⟩, 9), (⟨"SpeedKernel$Text", "writeNumber", "(LSpeedKernel$Natural;)V"⟩, 4), (⟨"SpeedKernel$Text", "writeChunk", "(IZ)V"⟩, 4), (⟨"SpeedKernel$Text", "push", "(C)V"⟩, 4), (⟨"SpeedKernel", "leavesRoom", "()Z"⟩, 9), (⟨"SpeedKernel$Reckoner", "orderOfWork", "(LSpeedKernel$Profile;III)I"⟩, 9), (⟨"SpeedKernel$Splitter", "splitGroup", "(LSpeedKernel$Planner;ILSpeedKernel$Jobs;LSpeedKernel$Levels;ILSpeedKernel$Reckoner;)V"⟩, 6), (⟨"SpeedKernelModel", "fixBest", "()Z"⟩, 34), (⟨"SpeedKernelModel", "open", "(II)I"⟩, 34)]
theorem lw_r2 : ∀ q ∈ lw_privs_2, lw_okq q := List.forall_mem_cons.mpr ⟨lw_p16, List.forall_mem_cons.mpr ⟨lw_p17, List.forall_mem_cons.mpr ⟨lw_p18, List.forall_mem_cons.mpr ⟨lw_p19, List.forall_mem_cons.mpr ⟨lw_p20, List.forall_mem_cons.mpr ⟨lw_p21, List.forall_mem_cons.mpr ⟨lw_p22, List.forall_mem_cons.mpr ⟨lw_p23, List.forall_mem_cons.mpr ⟨lw_p24, List.forall_mem_cons.mpr ⟨lw_p25, List.forall_mem_cons.mpr ⟨lw_p26, List.forall_mem_cons.mpr ⟨lw_p27, List.forall_mem_cons.mpr ⟨lw_p28, List.forall_mem_cons.mpr ⟨lw_p29, List.forall_mem_cons.mpr ⟨lw_p30, List.forall_mem_cons.mpr ⟨lw_p31, fun _ h => absurd h List.not_mem_nil⟩⟩⟩⟩⟩⟩⟩⟩⟩⟩⟩⟩⟩⟩⟩⟩
theorem lw_p32 : lw_okq (⟨"SpeedKernelModel", "isWithin", "(III)Z"⟩, 34) := ⟨⟨by decide +kernel, by decide +kernel⟩, List.mem_of_getElem? (i := 1214) (by decide +kernel), List.mem_of_getElem? (i := 1365) (by decide +kernel), List.mem_of_getElem? (i := 1366) (by decide +kernel)⟩
theorem lw_p33 : lw_okq (⟨"SpeedKernelModel", "firstRelease", "()I"⟩, 34) := ⟨⟨by decide +kernel, by decide +kernel⟩, List.mem_of_getElem? (i := 1214) (by decide +kernel), List.mem_of_getElem? (i := 1372) (by decide +kernel), List.mem_of_getElem? (i := 1373) (by decide +kernel)⟩
theorem lw_p34 : lw_okq (⟨"SpeedKernelModel", "lastDeadline", "()I"⟩, 34) := ⟨⟨by decide +kernel, by decide +kernel⟩, List.mem_of_getElem? (i := 1214) (by decide +kernel), List.mem_of_getElem? (i := 1376) (by decide +kernel), List.mem_of_getElem? (i := 1377) (by decide +kernel)⟩
theorem lw_p35 : lw_okq (⟨"SpeedKernelModel", "workPlan", "(II)V"⟩, 34) := ⟨⟨by decide +kernel, by decide +kernel⟩, List.mem_of_getElem? (i := 1214) (by decide +kernel), List.mem_of_getElem? (i := 1380) (by decide +kernel), List.mem_of_getElem? (i := 1381) (by decide +kernel)⟩
theorem lw_p36 : lw_okq (⟨"SpeedKernelModel", "nextJob", "(I)I"⟩, 34) := ⟨⟨by decide +kernel, by decide +kernel⟩, List.mem_of_getElem? (i := 1214) (by decide +kernel), List.mem_of_getElem? (i := 1384) (by decide +kernel), List.mem_of_getElem? (i := 1385) (by decide +kernel)⟩
theorem lw_p37 : lw_okq (⟨"SpeedKernelModel", "tell", "(IJJ)V"⟩, 34) := ⟨⟨by decide +kernel, by decide +kernel⟩, List.mem_of_getElem? (i := 1214) (by decide +kernel), List.mem_of_getElem? (i := 1388) (by decide +kernel), List.mem_of_getElem? (i := 1389) (by decide +kernel)⟩
theorem lw_p38 : lw_okq (⟨"SpeedKernelModel", "set", "(IJ)V"⟩, 34) := ⟨⟨by decide +kernel, by decide +kernel⟩, List.mem_of_getElem? (i := 1214) (by decide +kernel), List.mem_of_getElem? (i := 1392) (by decide +kernel), List.mem_of_getElem? (i := 1393) (by decide +kernel)⟩
theorem lw_p39 : lw_okq (⟨"SpeedKernelModel", "reduce", "(I)V"⟩, 34) := ⟨⟨by decide +kernel, by decide +kernel⟩, List.mem_of_getElem? (i := 1214) (by decide +kernel), List.mem_of_getElem? (i := 1397) (by decide +kernel), List.mem_of_getElem? (i := 1398) (by decide +kernel)⟩
theorem lw_p40 : lw_okq (⟨"SpeedKernelModel", "common", "(II)V"⟩, 34) := ⟨⟨by decide +kernel, by decide +kernel⟩, List.mem_of_getElem? (i := 1214) (by decide +kernel), List.mem_of_getElem? (i := 1401) (by decide +kernel), List.mem_of_getElem? (i := 1402) (by decide +kernel)⟩
theorem lw_p41 : lw_okq (⟨"SpeedKernelModel", "copy", "(II)V"⟩, 34) := ⟨⟨by decide +kernel, by decide +kernel⟩, List.mem_of_getElem? (i := 1214) (by decide +kernel), List.mem_of_getElem? (i := 1405) (by decide +kernel), List.mem_of_getElem? (i := 1406) (by decide +kernel)⟩
theorem lw_p42 : lw_okq (⟨"SpeedKernelModel", "isEven", "(I)Z"⟩, 34) := ⟨⟨by decide +kernel, by decide +kernel⟩, List.mem_of_getElem? (i := 1214) (by decide +kernel), List.mem_of_getElem? (i := 1409) (by decide +kernel), List.mem_of_getElem? (i := 1410) (by decide +kernel)⟩
theorem lw_p43 : lw_okq (⟨"SpeedKernelModel", "divideBy", "(II)I"⟩, 34) := ⟨⟨by decide +kernel, by decide +kernel⟩, List.mem_of_getElem? (i := 1214) (by decide +kernel), List.mem_of_getElem? (i := 1413) (by decide +kernel), List.mem_of_getElem? (i := 1414) (by decide +kernel)⟩
theorem lw_p44 : lw_okq (⟨"SpeedKernelModel", "trim", "(I)V"⟩, 34) := ⟨⟨by decide +kernel, by decide +kernel⟩, List.mem_of_getElem? (i := 1214) (by decide +kernel), List.mem_of_getElem? (i := 1417) (by decide +kernel), List.mem_of_getElem? (i := 1418) (by decide +kernel)⟩
theorem lw_p45 : lw_okq (⟨"SpeedKernelModel", "order", "(II)I"⟩, 34) := ⟨⟨by decide +kernel, by decide +kernel⟩, List.mem_of_getElem? (i := 1214) (by decide +kernel), List.mem_of_getElem? (i := 1421) (by decide +kernel), List.mem_of_getElem? (i := 1422) (by decide +kernel)⟩
theorem lw_p46 : lw_okq (⟨"SpeedKernelModel", "subtract", "(III)V"⟩, 34) := ⟨⟨by decide +kernel, by decide +kernel⟩, List.mem_of_getElem? (i := 1214) (by decide +kernel), List.mem_of_getElem? (i := 1425) (by decide +kernel), List.mem_of_getElem? (i := 1426) (by decide +kernel)⟩
theorem lw_p47 : lw_okq (⟨"SpeedKernelModel", "part", "(II)I"⟩, 34) := ⟨⟨by decide +kernel, by decide +kernel⟩, List.mem_of_getElem? (i := 1214) (by decide +kernel), List.mem_of_getElem? (i := 1429) (by decide +kernel), List.mem_of_getElem? (i := 1430) (by decide +kernel)⟩
def lw_privs_3 : List (MethodName × Nat) := [(⟨"SpeedKernelModel", "isWithin", "(III)Z"⟩, 34), (⟨"SpeedKernelModel", "firstRelease", "()I"⟩, 34), (⟨"SpeedKernelModel", "lastDeadline", "()I"⟩, 34), (⟨"SpeedKernelModel", "workPlan", "(II)V"⟩, 34), (⟨"SpeedKernelModel", "nextJob", "(I)I"⟩, 34), (⟨"SpeedKernelModel", "tell", "(IJJ)V"⟩, 34), (⟨"SpeedKernelModel", "set", "(IJ)V"⟩, 34), (⟨"SpeedKernelModel", "reduce", "(I)V"⟩, 34), (⟨"SpeedKernelModel", "common", "(II)V"⟩, 34), (⟨"SpeedKernelModel", "copy", "(II)V"⟩, 34), (⟨"SpeedKernelModel", "isEven", "(I)Z"⟩, 34), (⟨"SpeedKernelModel", "divideBy", "(II)I"⟩, 34), (⟨"SpeedKernelModel", "trim", "(I)V"⟩, 34), (⟨"SpeedKernelModel", "order", "(II)I"⟩, 34), (⟨"SpeedKernelModel", "subtract", "(III)V"⟩, 34), (⟨"SpeedKernelModel", "part", "(II)I"⟩, 34)]
theorem lw_r3 : ∀ q ∈ lw_privs_3, lw_okq q := List.forall_mem_cons.mpr ⟨lw_p32, List.forall_mem_cons.mpr ⟨lw_p33, List.forall_mem_cons.mpr ⟨lw_p34, List.forall_mem_cons.mpr ⟨lw_p35, List.forall_mem_cons.mpr ⟨lw_p36, List.forall_mem_cons.mpr ⟨lw_p37, List.forall_mem_cons.mpr ⟨lw_p38, List.forall_mem_cons.mpr ⟨lw_p39, List.forall_mem_cons.mpr ⟨lw_p40, List.forall_mem_cons.mpr ⟨lw_p41, List.forall_mem_cons.mpr ⟨lw_p42, List.forall_mem_cons.mpr ⟨lw_p43, List.forall_mem_cons.mpr ⟨lw_p44, List.forall_mem_cons.mpr ⟨lw_p45, List.forall_mem_cons.mpr ⟨lw_p46, List.forall_mem_cons.mpr ⟨lw_p47, fun _ h => absurd h List.not_mem_nil⟩⟩⟩⟩⟩⟩⟩⟩⟩⟩⟩⟩⟩⟩⟩⟩
theorem lw_p48 : lw_okq (⟨"SpeedKernelModel", "multiplyBy", "(II)V"⟩, 34) := ⟨⟨by decide +kernel, by decide +kernel⟩, List.mem_of_getElem? (i := 1214) (by decide +kernel), List.mem_of_getElem? (i := 1434) (by decide +kernel), List.mem_of_getElem? (i := 1435) (by decide +kernel)⟩
theorem lw_p49 : lw_okq (⟨"SpeedKernelModel", "divide", "(I)V"⟩, 34) := ⟨⟨by decide +kernel, by decide +kernel⟩, List.mem_of_getElem? (i := 1214) (by decide +kernel), List.mem_of_getElem? (i := 1438) (by decide +kernel), List.mem_of_getElem? (i := 1439) (by decide +kernel)⟩
theorem lw_p50 : lw_okq (⟨"SpeedKernelModel", "sumCube", "(II)V"⟩, 34) := ⟨⟨by decide +kernel, by decide +kernel⟩, List.mem_of_getElem? (i := 1214) (by decide +kernel), List.mem_of_getElem? (i := 1442) (by decide +kernel), List.mem_of_getElem? (i := 1443) (by decide +kernel)⟩
theorem lw_p51 : lw_okq (⟨"SpeedKernelModel", "multiply", "(III)V"⟩, 34) := ⟨⟨by decide +kernel, by decide +kernel⟩, List.mem_of_getElem? (i := 1214) (by decide +kernel), List.mem_of_getElem? (i := 1446) (by decide +kernel), List.mem_of_getElem? (i := 1447) (by decide +kernel)⟩
theorem lw_p52 : lw_okq (⟨"SpeedKernelModel", "sumUp", "()V"⟩, 34) := ⟨⟨by decide +kernel, by decide +kernel⟩, List.mem_of_getElem? (i := 1214) (by decide +kernel), List.mem_of_getElem? (i := 1450) (by decide +kernel), List.mem_of_getElem? (i := 1451) (by decide +kernel)⟩
theorem lw_p53 : lw_okq (⟨"SpeedKernelModel", "add", "(III)V"⟩, 34) := ⟨⟨by decide +kernel, by decide +kernel⟩, List.mem_of_getElem? (i := 1214) (by decide +kernel), List.mem_of_getElem? (i := 1454) (by decide +kernel), List.mem_of_getElem? (i := 1455) (by decide +kernel)⟩
theorem lw_p54 : lw_okq (⟨"SpeedKernelModel", "keep", "(II)V"⟩, 34) := ⟨⟨by decide +kernel, by decide +kernel⟩, List.mem_of_getElem? (i := 1214) (by decide +kernel), List.mem_of_getElem? (i := 1458) (by decide +kernel), List.mem_of_getElem? (i := 1459) (by decide +kernel)⟩
theorem lw_p55 : lw_okq (⟨"SpeedKernelModel", "nextEvent", "(I)I"⟩, 34) := ⟨⟨by decide +kernel, by decide +kernel⟩, List.mem_of_getElem? (i := 1214) (by decide +kernel), List.mem_of_getElem? (i := 1466) (by decide +kernel), List.mem_of_getElem? (i := 1467) (by decide +kernel)⟩
theorem lw_p56 : lw_okq (⟨"SpeedKernelModel", "findBest", "(I)I"⟩, 34) := ⟨⟨by decide +kernel, by decide +kernel⟩, List.mem_of_getElem? (i := 1214) (by decide +kernel), List.mem_of_getElem? (i := 1470) (by decide +kernel), List.mem_of_getElem? (i := 1471) (by decide +kernel)⟩
theorem lw_p57 : lw_okq (⟨"SpeedKernelModel", "workAhead", "(III)V"⟩, 34) := ⟨⟨by decide +kernel, by decide +kernel⟩, List.mem_of_getElem? (i := 1214) (by decide +kernel), List.mem_of_getElem? (i := 1474) (by decide +kernel), List.mem_of_getElem? (i := 1475) (by decide +kernel)⟩
theorem lw_p58 : lw_okq (⟨"SpeedKernelModel", "whoAt", "(II)I"⟩, 34) := ⟨⟨by decide +kernel, by decide +kernel⟩, List.mem_of_getElem? (i := 1214) (by decide +kernel), List.mem_of_getElem? (i := 1478) (by decide +kernel), List.mem_of_getElem? (i := 1479) (by decide +kernel)⟩
theorem lw_p59 : lw_okq (⟨"SpeedKernelModel", "inOrder", "(II)I"⟩, 34) := ⟨⟨by decide +kernel, by decide +kernel⟩, List.mem_of_getElem? (i := 1214) (by decide +kernel), List.mem_of_getElem? (i := 1482) (by decide +kernel), List.mem_of_getElem? (i := 1483) (by decide +kernel)⟩
theorem lw_p60 : lw_okq (⟨"SpeedKernelModel", "isSame", "(II)Z"⟩, 34) := ⟨⟨by decide +kernel, by decide +kernel⟩, List.mem_of_getElem? (i := 1214) (by decide +kernel), List.mem_of_getElem? (i := 1486) (by decide +kernel), List.mem_of_getElem? (i := 1487) (by decide +kernel)⟩
theorem lw_p61 : lw_okq (⟨"SpeedKernelModel", "splitOne", "(I)V"⟩, 34) := ⟨⟨by decide +kernel, by decide +kernel⟩, List.mem_of_getElem? (i := 1214) (by decide +kernel), List.mem_of_getElem? (i := 1494) (by decide +kernel), List.mem_of_getElem? (i := 1495) (by decide +kernel)⟩
theorem lw_p62 : lw_okq (⟨"SpeedKernelModel", "pay", "(II)V"⟩, 34) := ⟨⟨by decide +kernel, by decide +kernel⟩, List.mem_of_getElem? (i := 1214) (by decide +kernel), List.mem_of_getElem? (i := 1498) (by decide +kernel), List.mem_of_getElem? (i := 1499) (by decide +kernel)⟩
theorem lw_p63 : lw_okq (⟨"SpeedKernelModel", "fraction", "(II)I"⟩, 34) := ⟨⟨by decide +kernel, by decide +kernel⟩, List.mem_of_getElem? (i := 1214) (by decide +kernel), List.mem_of_getElem? (i := 1514) (by decide +kernel), List.mem_of_getElem? (i := 1515) (by decide +kernel)⟩
def lw_privs_4 : List (MethodName × Nat) := [(⟨"SpeedKernelModel", "multiplyBy", "(II)V"⟩, 34), (⟨"SpeedKernelModel", "divide", "(I)V"⟩, 34), (⟨"SpeedKernelModel", "sumCube", "(II)V"⟩, 34), (⟨"SpeedKernelModel", "multiply", "(III)V"⟩, 34), (⟨"SpeedKernelModel", "sumUp", "()V"⟩, 34), (⟨"SpeedKernelModel", "add", "(III)V"⟩, 34), (⟨"SpeedKernelModel", "keep", "(II)V"⟩, 34), (⟨"SpeedKernelModel", "nextEvent", "(I)I"⟩, 34), (⟨"SpeedKernelModel", "findBest", "(I)I"⟩, 34), (⟨"SpeedKernelModel", "workAhead", "(III)V"⟩, 34), (⟨"SpeedKernelModel", "whoAt", "(II)I"⟩, 34), (⟨"SpeedKernelModel", "inOrder", "(II)I"⟩, 34), (⟨"SpeedKernelModel", "isSame", "(II)Z"⟩, 34), (⟨"SpeedKernelModel", "splitOne", "(I)V"⟩, 34), (⟨"SpeedKernelModel", "pay", "(II)V"⟩, 34), (⟨"SpeedKernelModel", "fraction", "(II)I"⟩, 34)]
theorem lw_r4 : ∀ q ∈ lw_privs_4, lw_okq q := List.forall_mem_cons.mpr ⟨lw_p48, List.forall_mem_cons.mpr ⟨lw_p49, List.forall_mem_cons.mpr ⟨lw_p50, List.forall_mem_cons.mpr ⟨lw_p51, List.forall_mem_cons.mpr ⟨lw_p52, List.forall_mem_cons.mpr ⟨lw_p53, List.forall_mem_cons.mpr ⟨lw_p54, List.forall_mem_cons.mpr ⟨lw_p55, List.forall_mem_cons.mpr ⟨lw_p56, List.forall_mem_cons.mpr ⟨lw_p57, List.forall_mem_cons.mpr ⟨lw_p58, List.forall_mem_cons.mpr ⟨lw_p59, List.forall_mem_cons.mpr ⟨lw_p60, List.forall_mem_cons.mpr ⟨lw_p61, List.forall_mem_cons.mpr ⟨lw_p62, List.forall_mem_cons.mpr ⟨lw_p63, fun _ h => absurd h List.not_mem_nil⟩⟩⟩⟩⟩⟩⟩⟩⟩⟩⟩⟩⟩⟩⟩⟩
theorem lw_p64 : lw_okq (⟨"SpeedKernelModel", "printNumber", "(I)V"⟩, 34) := ⟨⟨by decide +kernel, by decide +kernel⟩, List.mem_of_getElem? (i := 1214) (by decide +kernel), List.mem_of_getElem? (i := 1518) (by decide +kernel), List.mem_of_getElem? (i := 1519) (by decide +kernel)⟩
theorem lw_p65 : lw_okq (⟨"SpeedKernelModel", "speedOf", "(I)D"⟩, 34) := ⟨⟨by decide +kernel, by decide +kernel⟩, List.mem_of_getElem? (i := 1214) (by decide +kernel), List.mem_of_getElem? (i := 1534) (by decide +kernel), List.mem_of_getElem? (i := 1535) (by decide +kernel)⟩
def lw_privs_5 : List (MethodName × Nat) := [(⟨"SpeedKernelModel", "printNumber", "(I)V"⟩, 34), (⟨"SpeedKernelModel", "speedOf", "(I)D"⟩, 34)]
theorem lw_r5 : ∀ q ∈ lw_privs_5, lw_okq q := List.forall_mem_cons.mpr ⟨lw_p64, List.forall_mem_cons.mpr ⟨lw_p65, fun _ h => absurd h List.not_mem_nil⟩⟩
def lw_privs : List (MethodName × Nat) := lw_privs_1 ++ (lw_privs_2 ++ (lw_privs_3 ++ (lw_privs_4 ++ (lw_privs_5))))
def lw_tbl : List Cond := k2_sels lw_privs ++ tables_1
theorem lw_privs_ok : ∀ q ∈ lw_privs, lw_okq q := by
  show ∀ q ∈ lw_privs_1 ++ (lw_privs_2 ++ (lw_privs_3 ++ (lw_privs_4 ++ (lw_privs_5)))), lw_okq q
  exact List.forall_mem_append.mpr ⟨lw_r1, List.forall_mem_append.mpr ⟨lw_r2, List.forall_mem_append.mpr ⟨lw_r3, List.forall_mem_append.mpr ⟨lw_r4, lw_r5⟩⟩⟩⟩
-- ===== end of PART A; then your names; then what follows =====
end
section
/-! names: printed by wip/whole/tools/names.py out of the tables: classes, fields, the cells, methods, words, links -/
def zT : List Cond := lw_tbl.filter goodWord
theorem zT_in {w : Cond} (h : w ∈ zT) : w ∈ lw_tbl := (List.mem_filter.mp h).1
theorem zT_mk {w : Cond} (i : Nat) (h : lw_tbl[i]? = some w) (h2 : goodWord w = true) : w ∈ zT := List.mem_filter.mpr ⟨List.mem_of_getElem? h, h2⟩
theorem zT_list {ws : List Cond} (ps : List Nat) (h : ws = ps.filterMap (fun i => lw_tbl[i]?)) (h2 : ws.all goodWord = true) : ∀ w ∈ ws, w ∈ zT := by
  intro w hw
  refine List.mem_filter.mpr ⟨?_, List.all_eq_true.mp h2 w hw⟩
  rw [h] at hw
  obtain ⟨i, -, hi⟩ := List.mem_filterMap.mp hw
  exact List.mem_of_getElem? hi
def R_Ke : String := "SpeedKernel"
def F_Ke : u_T := fun k => match k with
  | 0 => ("SpeedKernel", "jobs", "LSpeedKernel$Jobs;", true)
  | 1 => ("SpeedKernel", "levels", "LSpeedKernel$Levels;", true)
  | 2 => ("SpeedKernel", "planned", "LSpeedKernel$Profile;", true)
  | 3 => ("SpeedKernel", "foreseen", "LSpeedKernel$Profile;", true)
  | 4 => ("SpeedKernel", "reckoner", "LSpeedKernel$Reckoner;", true)
  | 5 => ("SpeedKernel", "planner", "LSpeedKernel$Planner;", true)
  | 6 => ("SpeedKernel", "foresight", "LSpeedKernel$Foresight;", true)
  | 7 => ("SpeedKernel", "splitter", "LSpeedKernel$Splitter;", true)
  | _ => ("SpeedKernel", "text", "LSpeedKernel$Text;", true)
def t_Ke : Nat → FieldType := fun k => match k with
  | 0 => .object "SpeedKernel$Jobs"
  | 1 => .object "SpeedKernel$Levels"
  | 2 => .object "SpeedKernel$Profile"
  | 3 => .object "SpeedKernel$Profile"
  | 4 => .object "SpeedKernel$Reckoner"
  | 5 => .object "SpeedKernel$Planner"
  | 6 => .object "SpeedKernel$Foresight"
  | 7 => .object "SpeedKernel$Splitter"
  | _ => .object "SpeedKernel$Text"
theorem n_Ke : ∀ a, a < 9 → ∀ b, b < 9 → a ≠ b → (F_Ke a).2.1 ≠ (F_Ke b).2.1 := by decide +kernel
theorem t_Ke_ok : ∀ k, k < 9 → parseFieldDescriptor (F_Ke k).2.2.1 = some (t_Ke k) := by decide +kernel
theorem i_Ke : ∀ w ∈ u_ws R_Ke F_Ke 9, w ∈ zT := by
  exact zT_list [436, 438, 440, 442, 444, 446, 448, 450, 452] (by decide +kernel) (by decide +kernel)
def R_Jo : String := "SpeedKernel$Jobs"
def F_Jo : u_T := fun k => match k with
  | 0 => ("SpeedKernel$Jobs", "count", "I", false)
  | 1 => ("SpeedKernel$Jobs", "release", "[I", true)
  | 2 => ("SpeedKernel$Jobs", "deadline", "[I", true)
  | 3 => ("SpeedKernel$Jobs", "work", "[I", true)
  | _ => ("SpeedKernel$Jobs", "byDeadline", "[I", true)
def t_Jo : Nat → FieldType := fun k => match k with
  | 0 => .int
  | 1 => .array (.int)
  | 2 => .array (.int)
  | 3 => .array (.int)
  | _ => .array (.int)
theorem n_Jo : ∀ a, a < 5 → ∀ b, b < 5 → a ≠ b → (F_Jo a).2.1 ≠ (F_Jo b).2.1 := by decide +kernel
theorem t_Jo_ok : ∀ k, k < 5 → parseFieldDescriptor (F_Jo k).2.2.1 = some (t_Jo k) := by decide +kernel
theorem i_Jo : ∀ w ∈ u_ws R_Jo F_Jo 5, w ∈ zT := by
  exact zT_list [132, 134, 136, 138, 140] (by decide +kernel) (by decide +kernel)
def R_Le : String := "SpeedKernel$Levels"
def F_Le : u_T := fun k => match k with
  | 0 => ("SpeedKernel$Levels", "count", "I", false)
  | 1 => ("SpeedKernel$Levels", "rates", "[I", true)
  | _ => ("SpeedKernel$Levels", "costs", "[I", true)
def t_Le : Nat → FieldType := fun k => match k with
  | 0 => .int
  | 1 => .array (.int)
  | _ => .array (.int)
theorem n_Le : ∀ a, a < 3 → ∀ b, b < 3 → a ≠ b → (F_Le a).2.1 ≠ (F_Le b).2.1 := by decide +kernel
theorem t_Le_ok : ∀ k, k < 3 → parseFieldDescriptor (F_Le k).2.2.1 = some (t_Le k) := by decide +kernel
theorem i_Le : ∀ w ∈ u_ws R_Le F_Le 3, w ∈ zT := by
  exact zT_list [154, 156, 158] (by decide +kernel) (by decide +kernel)
def R_Na : String := "SpeedKernel$Natural"
def F_Na : u_T := fun k => match k with
  | 0 => ("SpeedKernel$Natural", "digits", "[I", true)
  | _ => ("SpeedKernel$Natural", "size", "I", false)
def t_Na : Nat → FieldType := fun k => match k with
  | 0 => .array (.int)
  | _ => .int
theorem n_Na : ∀ a, a < 2 → ∀ b, b < 2 → a ≠ b → (F_Na a).2.1 ≠ (F_Na b).2.1 := by decide +kernel
theorem t_Na_ok : ∀ k, k < 2 → parseFieldDescriptor (F_Na k).2.2.1 = some (t_Na k) := by decide +kernel
theorem i_Na : ∀ w ∈ u_ws R_Na F_Na 2, w ∈ zT := by
  exact zT_list [182, 184] (by decide +kernel) (by decide +kernel)
def R_Fr : String := "SpeedKernel$Fraction"
def F_Fr : u_T := fun k => match k with
  | 0 => ("SpeedKernel$Fraction", "top", "LSpeedKernel$Natural;", true)
  | _ => ("SpeedKernel$Fraction", "below", "LSpeedKernel$Natural;", true)
def t_Fr : Nat → FieldType := fun k => match k with
  | 0 => .object "SpeedKernel$Natural"
  | _ => .object "SpeedKernel$Natural"
theorem n_Fr : ∀ a, a < 2 → ∀ b, b < 2 → a ≠ b → (F_Fr a).2.1 ≠ (F_Fr b).2.1 := by decide +kernel
theorem t_Fr_ok : ∀ k, k < 2 → parseFieldDescriptor (F_Fr k).2.2.1 = some (t_Fr k) := by decide +kernel
theorem i_Fr : ∀ w ∈ u_ws R_Fr F_Fr 2, w ∈ zT := by
  exact zT_list [200, 202] (by decide +kernel) (by decide +kernel)
def R_Pr : String := "SpeedKernel$Profile"
def F_Pr : u_T := fun k => match k with
  | 0 => ("SpeedKernel$Profile", "ready", "Z", false)
  | 1 => ("SpeedKernel$Profile", "steps", "I", false)
  | 2 => ("SpeedKernel$Profile", "begin", "[I", true)
  | 3 => ("SpeedKernel$Profile", "end", "[I", true)
  | 4 => ("SpeedKernel$Profile", "rate", "[LSpeedKernel$Fraction;", true)
  | 5 => ("SpeedKernel$Profile", "done", "[LSpeedKernel$Fraction;", true)
  | 6 => ("SpeedKernel$Profile", "worker", "[I", true)
  | _ => ("SpeedKernel$Profile", "cost", "LSpeedKernel$Fraction;", true)
def t_Pr : Nat → FieldType := fun k => match k with
  | 0 => .boolean
  | 1 => .int
  | 2 => .array (.int)
  | 3 => .array (.int)
  | 4 => .array (.object "SpeedKernel$Fraction")
  | 5 => .array (.object "SpeedKernel$Fraction")
  | 6 => .array (.int)
  | _ => .object "SpeedKernel$Fraction"
theorem n_Pr : ∀ a, a < 8 → ∀ b, b < 8 → a ≠ b → (F_Pr a).2.1 ≠ (F_Pr b).2.1 := by decide +kernel
theorem t_Pr_ok : ∀ k, k < 8 → parseFieldDescriptor (F_Pr k).2.2.1 = some (t_Pr k) := by decide +kernel
theorem i_Pr : ∀ w ∈ u_ws R_Pr F_Pr 8, w ∈ zT := by
  exact zT_list [230, 232, 234, 236, 238, 240, 242, 244] (by decide +kernel) (by decide +kernel)
def R_Re : String := "SpeedKernel$Reckoner"
def F_Re : u_T := fun k => match k with
  | 0 => ("SpeedKernel$Reckoner", "first", "LSpeedKernel$Natural;", true)
  | 1 => ("SpeedKernel$Reckoner", "second", "LSpeedKernel$Natural;", true)
  | 2 => ("SpeedKernel$Reckoner", "quotient", "LSpeedKernel$Natural;", true)
  | 3 => ("SpeedKernel$Reckoner", "shifted", "LSpeedKernel$Natural;", true)
  | 4 => ("SpeedKernel$Reckoner", "product", "LSpeedKernel$Natural;", true)
  | 5 => ("SpeedKernel$Reckoner", "spare", "LSpeedKernel$Natural;", true)
  | 6 => ("SpeedKernel$Reckoner", "sum", "LSpeedKernel$Natural;", true)
  | 7 => ("SpeedKernel$Reckoner", "common", "LSpeedKernel$Natural;", true)
  | _ => ("SpeedKernel$Reckoner", "shares", "[LSpeedKernel$Natural;", true)
def t_Re : Nat → FieldType := fun k => match k with
  | 0 => .object "SpeedKernel$Natural"
  | 1 => .object "SpeedKernel$Natural"
  | 2 => .object "SpeedKernel$Natural"
  | 3 => .object "SpeedKernel$Natural"
  | 4 => .object "SpeedKernel$Natural"
  | 5 => .object "SpeedKernel$Natural"
  | 6 => .object "SpeedKernel$Natural"
  | 7 => .object "SpeedKernel$Natural"
  | _ => .array (.object "SpeedKernel$Natural")
theorem n_Re : ∀ a, a < 9 → ∀ b, b < 9 → a ≠ b → (F_Re a).2.1 ≠ (F_Re b).2.1 := by decide +kernel
theorem t_Re_ok : ∀ k, k < 9 → parseFieldDescriptor (F_Re k).2.2.1 = some (t_Re k) := by decide +kernel
theorem i_Re : ∀ w ∈ u_ws R_Re F_Re 9, w ∈ zT := by
  exact zT_list [265, 267, 269, 271, 273, 275, 277, 279, 281] (by decide +kernel) (by decide +kernel)
def R_Pl : String := "SpeedKernel$Planner"
def F_Pl : u_T := fun k => match k with
  | 0 => ("SpeedKernel$Planner", "groups", "I", false)
  | 1 => ("SpeedKernel$Planner", "groupWork", "[I", true)
  | 2 => ("SpeedKernel$Planner", "groupTime", "[I", true)
  | 3 => ("SpeedKernel$Planner", "groupRate", "[LSpeedKernel$Fraction;", true)
  | 4 => ("SpeedKernel$Planner", "groupOfJob", "[I", true)
  | 5 => ("SpeedKernel$Planner", "groupAt", "[I", true)
  | 6 => ("SpeedKernel$Planner", "freeBefore", "[I", true)
  | 7 => ("SpeedKernel$Planner", "left", "[I", true)
  | 8 => ("SpeedKernel$Planner", "idle", "LSpeedKernel$Fraction;", true)
  | 9 => ("SpeedKernel$Planner", "bestFrom", "I", false)
  | 10 => ("SpeedKernel$Planner", "bestTo", "I", false)
  | 11 => ("SpeedKernel$Planner", "bestWork", "I", false)
  | _ => ("SpeedKernel$Planner", "bestTime", "I", false)
def t_Pl : Nat → FieldType := fun k => match k with
  | 0 => .int
  | 1 => .array (.int)
  | 2 => .array (.int)
  | 3 => .array (.object "SpeedKernel$Fraction")
  | 4 => .array (.int)
  | 5 => .array (.int)
  | 6 => .array (.int)
  | 7 => .array (.int)
  | 8 => .object "SpeedKernel$Fraction"
  | 9 => .int
  | 10 => .int
  | 11 => .int
  | _ => .int
theorem n_Pl : ∀ a, a < 13 → ∀ b, b < 13 → a ≠ b → (F_Pl a).2.1 ≠ (F_Pl b).2.1 := by decide +kernel
theorem t_Pl_ok : ∀ k, k < 13 → parseFieldDescriptor (F_Pl k).2.2.1 = some (t_Pl k) := by decide +kernel
theorem i_Pl : ∀ w ∈ u_ws R_Pl F_Pl 13, w ∈ zT := by
  exact zT_list [307, 309, 311, 313, 315, 317, 319, 321, 323, 325, 327, 329, 331] (by decide +kernel) (by decide +kernel)
def R_Fo : String := "SpeedKernel$Foresight"
def F_Fo : u_T := fun k => match k with
  | 0 => ("SpeedKernel$Foresight", "left", "[LSpeedKernel$Natural;", true)
  | 1 => ("SpeedKernel$Foresight", "scale", "LSpeedKernel$Natural;", true)
  | 2 => ("SpeedKernel$Foresight", "dense", "LSpeedKernel$Natural;", true)
  | 3 => ("SpeedKernel$Foresight", "denseDeadline", "I", false)
  | 4 => ("SpeedKernel$Foresight", "sum", "LSpeedKernel$Natural;", true)
  | 5 => ("SpeedKernel$Foresight", "mark", "LSpeedKernel$Natural;", true)
  | 6 => ("SpeedKernel$Foresight", "room", "LSpeedKernel$Natural;", true)
  | 7 => ("SpeedKernel$Foresight", "spare", "LSpeedKernel$Natural;", true)
  | _ => ("SpeedKernel$Foresight", "rate", "LSpeedKernel$Fraction;", true)
def t_Fo : Nat → FieldType := fun k => match k with
  | 0 => .array (.object "SpeedKernel$Natural")
  | 1 => .object "SpeedKernel$Natural"
  | 2 => .object "SpeedKernel$Natural"
  | 3 => .int
  | 4 => .object "SpeedKernel$Natural"
  | 5 => .object "SpeedKernel$Natural"
  | 6 => .object "SpeedKernel$Natural"
  | 7 => .object "SpeedKernel$Natural"
  | _ => .object "SpeedKernel$Fraction"
theorem n_Fo : ∀ a, a < 9 → ∀ b, b < 9 → a ≠ b → (F_Fo a).2.1 ≠ (F_Fo b).2.1 := by decide +kernel
theorem t_Fo_ok : ∀ k, k < 9 → parseFieldDescriptor (F_Fo k).2.2.1 = some (t_Fo k) := by decide +kernel
theorem i_Fo : ∀ w ∈ u_ws R_Fo F_Fo 9, w ∈ zT := by
  exact zT_list [353, 355, 357, 359, 361, 363, 365, 367, 369] (by decide +kernel) (by decide +kernel)
def R_Sp : String := "SpeedKernel$Splitter"
def F_Sp : u_T := fun k => match k with
  | 0 => ("SpeedKernel$Splitter", "ready", "Z", false)
  | 1 => ("SpeedKernel$Splitter", "lesser", "[I", true)
  | 2 => ("SpeedKernel$Splitter", "greater", "[I", true)
  | 3 => ("SpeedKernel$Splitter", "slowly", "[LSpeedKernel$Fraction;", true)
  | 4 => ("SpeedKernel$Splitter", "fast", "[LSpeedKernel$Fraction;", true)
  | _ => ("SpeedKernel$Splitter", "cost", "LSpeedKernel$Fraction;", true)
def t_Sp : Nat → FieldType := fun k => match k with
  | 0 => .boolean
  | 1 => .array (.int)
  | 2 => .array (.int)
  | 3 => .array (.object "SpeedKernel$Fraction")
  | 4 => .array (.object "SpeedKernel$Fraction")
  | _ => .object "SpeedKernel$Fraction"
theorem n_Sp : ∀ a, a < 6 → ∀ b, b < 6 → a ≠ b → (F_Sp a).2.1 ≠ (F_Sp b).2.1 := by decide +kernel
theorem t_Sp_ok : ∀ k, k < 6 → parseFieldDescriptor (F_Sp k).2.2.1 = some (t_Sp k) := by decide +kernel
theorem i_Sp : ∀ w ∈ u_ws R_Sp F_Sp 6, w ∈ zT := by
  exact zT_list [392, 394, 396, 398, 400, 402] (by decide +kernel) (by decide +kernel)
def R_Te : String := "SpeedKernel$Text"
def F_Te : u_T := fun k => match k with
  | 0 => ("SpeedKernel$Text", "characters", "[C", true)
  | 1 => ("SpeedKernel$Text", "length", "I", false)
  | 2 => ("SpeedKernel$Text", "chunks", "[I", true)
  | _ => ("SpeedKernel$Text", "rest", "LSpeedKernel$Natural;", true)
def t_Te : Nat → FieldType := fun k => match k with
  | 0 => .array (.char)
  | 1 => .int
  | 2 => .array (.int)
  | _ => .object "SpeedKernel$Natural"
theorem n_Te : ∀ a, a < 4 → ∀ b, b < 4 → a ≠ b → (F_Te a).2.1 ≠ (F_Te b).2.1 := by decide +kernel
theorem t_Te_ok : ∀ k, k < 4 → parseFieldDescriptor (F_Te k).2.2.1 = some (t_Te k) := by decide +kernel
theorem i_Te : ∀ w ∈ u_ws R_Te F_Te 4, w ∈ zT := by
  exact zT_list [417, 419, 421, 423] (by decide +kernel) (by decide +kernel)
def R_Mo : String := "SpeedKernelModel"
def F_Mo : u_T := fun k => match k with
  | 0 => ("SpeedKernelModel", "thrown", "I", false)
  | 1 => ("SpeedKernelModel", "cells", "[I", true)
  | 2 => ("SpeedKernelModel", "sizes", "[I", true)
  | 3 => ("SpeedKernelModel", "jobs", "I", false)
  | 4 => ("SpeedKernelModel", "releases", "[I", true)
  | 5 => ("SpeedKernelModel", "deadlines", "[I", true)
  | 6 => ("SpeedKernelModel", "works", "[I", true)
  | 7 => ("SpeedKernelModel", "levels", "I", false)
  | 8 => ("SpeedKernelModel", "rates", "[I", true)
  | 9 => ("SpeedKernelModel", "costs", "[I", true)
  | 10 => ("SpeedKernelModel", "planned", "Z", false)
  | 11 => ("SpeedKernelModel", "gone", "Z", false)
  | 12 => ("SpeedKernelModel", "isSplit", "Z", false)
  | 13 => ("SpeedKernelModel", "fixed", "[Z", true)
  | 14 => ("SpeedKernelModel", "above", "[J", true)
  | 15 => ("SpeedKernelModel", "below", "[J", true)
  | 16 => ("SpeedKernelModel", "done", "[Z", true)
  | 17 => ("SpeedKernelModel", "jobAbove", "[J", true)
  | 18 => ("SpeedKernelModel", "jobBelow", "[J", true)
  | 19 => ("SpeedKernelModel", "left", "[J", true)
  | 20 => ("SpeedKernelModel", "planSteps", "I", false)
  | 21 => ("SpeedKernelModel", "planBegins", "[I", true)
  | 22 => ("SpeedKernelModel", "planEnds", "[I", true)
  | 23 => ("SpeedKernelModel", "stepAbove", "[J", true)
  | 24 => ("SpeedKernelModel", "stepBelow", "[J", true)
  | 25 => ("SpeedKernelModel", "planWorks", "[I", true)
  | 26 => ("SpeedKernelModel", "aheadSteps", "I", false)
  | 27 => ("SpeedKernelModel", "aheadBegins", "[I", true)
  | 28 => ("SpeedKernelModel", "aheadEnds", "[I", true)
  | 29 => ("SpeedKernelModel", "aheadWorks", "[I", true)
  | 30 => ("SpeedKernelModel", "lesser", "[I", true)
  | 31 => ("SpeedKernelModel", "greater", "[I", true)
  | 32 => ("SpeedKernelModel", "printed", "[I", true)
  | _ => ("SpeedKernelModel", "printedMany", "I", false)
def t_Mo : Nat → FieldType := fun k => match k with
  | 0 => .int
  | 1 => .array (.int)
  | 2 => .array (.int)
  | 3 => .int
  | 4 => .array (.int)
  | 5 => .array (.int)
  | 6 => .array (.int)
  | 7 => .int
  | 8 => .array (.int)
  | 9 => .array (.int)
  | 10 => .boolean
  | 11 => .boolean
  | 12 => .boolean
  | 13 => .array (.boolean)
  | 14 => .array (.long)
  | 15 => .array (.long)
  | 16 => .array (.boolean)
  | 17 => .array (.long)
  | 18 => .array (.long)
  | 19 => .array (.long)
  | 20 => .int
  | 21 => .array (.int)
  | 22 => .array (.int)
  | 23 => .array (.long)
  | 24 => .array (.long)
  | 25 => .array (.int)
  | 26 => .int
  | 27 => .array (.int)
  | 28 => .array (.int)
  | 29 => .array (.int)
  | 30 => .array (.int)
  | 31 => .array (.int)
  | 32 => .array (.int)
  | _ => .int
theorem n_Mo : ∀ a, a < 34 → ∀ b, b < 34 → a ≠ b → (F_Mo a).2.1 ≠ (F_Mo b).2.1 := by decide +kernel
theorem t_Mo_ok : ∀ k, k < 34 → parseFieldDescriptor (F_Mo k).2.2.1 = some (t_Mo k) := by decide +kernel
theorem i_Mo : ∀ w ∈ u_ws R_Mo F_Mo 34, w ∈ zT := by
  exact zT_list [1319, 1321, 1323, 1325, 1327, 1329, 1331, 1333, 1335, 1337, 1339, 1341, 1343, 1345, 1347, 1349, 1351, 1353, 1355, 1357, 1359, 1361, 1363, 1365, 1367, 1369, 1371, 1373, 1375, 1377, 1379, 1381, 1383, 1385] (by decide +kernel) (by decide +kernel)
abbrev zcl : List vw_C := [(R_Ke, F_Ke, 9), (R_Jo, F_Jo, 5), (R_Le, F_Le, 3), (R_Na, F_Na, 2), (R_Fr, F_Fr, 2), (R_Pr, F_Pr, 8), (R_Re, F_Re, 9), (R_Pl, F_Pl, 13), (R_Fo, F_Fo, 9), (R_Sp, F_Sp, 6), (R_Te, F_Te, 4), (R_Mo, F_Mo, 34)]
/-- a class, a field: 0 an int, 1 a boolean, 2 a reference: how far behind the object the cell lies -/
def zFT : List (List (Nat × Nat)) := [[(2, 1), (2, 6), (2, 9), (2, 200), (2, 391), (2, 457), (2, 530), (2, 573), (2, 703)], [(0, 0), (2, 1), (2, 2), (2, 3), (2, 4)], [(0, 0), (2, 1), (2, 2)], [(2, 1), (0, 0)], [(2, 1), (2, 3)], [(1, 0), (0, 0), (2, 1), (2, 2), (2, 3), (2, 4), (2, 5), (2, 6)], [(2, 1), (2, 3), (2, 5), (2, 7), (2, 9), (2, 11), (2, 13), (2, 15), (2, 17)], [(0, 0), (2, 1), (2, 2), (2, 3), (2, 4), (2, 5), (2, 6), (2, 7), (2, 8), (0, 0), (0, 0), (0, 0), (0, 0)], [(2, 1), (2, 2), (2, 4), (0, 0), (2, 6), (2, 8), (2, 10), (2, 12), (2, 14)], [(1, 0), (2, 1), (2, 2), (2, 3), (2, 4), (2, 5)], [(2, 1), (0, 0), (2, 2), (2, 3)], [(0, 0), (2, 1), (2, 2), (0, 0), (2, 3), (2, 4), (2, 5), (0, 0), (2, 6), (2, 7), (1, 0), (1, 0), (1, 0), (2, 8), (2, 9), (2, 10), (2, 11), (2, 12), (2, 13), (2, 14), (0, 0), (2, 15), (2, 16), (2, 17), (2, 18), (2, 19), (0, 0), (2, 20), (2, 21), (2, 22), (2, 23), (2, 24), (2, 25), (0, 0)]]
/-- the cells in the order in which they are made: (0, class, 0) an object; (1, n, 0) ints, (2, n, 0) longs, (3, n, 0) booleans, (4, n, 0) chars; (5, n, t) references of kind t -/
def zKT_0 : List (Nat × Nat × Nat) := [(0, 0, 0), (0, 1, 0), (1, 12, 0), (1, 12, 0), (1, 12, 0), (1, 12, 0), (0, 2, 0), (1, 8, 0), (1, 8, 0), (0, 5, 0), (1, 24, 0), (1, 24, 0), (5, 24, 0), (5, 12, 1), (1, 200, 0), (0, 4, 0), (0, 3, 0), (1, 32, 0), (0, 3, 0), (1, 32, 0), (0, 4, 0), (0, 3, 0), (1, 32, 0), (0, 3, 0), (1, 32, 0), (0, 4, 0), (0, 3, 0), (1, 32, 0), (0, 3, 0), (1, 32, 0), (0, 4, 0), (0, 3, 0), (1, 32, 0), (0, 3, 0), (1, 32, 0), (0, 4, 0), (0, 3, 0), (1, 32, 0), (0, 3, 0), (1, 32, 0), (0, 4, 0), (0, 3, 0), (1, 32, 0), (0, 3, 0), (1, 32, 0), (0, 4, 0), (0, 3, 0), (1, 32, 0), (0, 3, 0), (1, 32, 0), (0, 4, 0), (0, 3, 0), (1, 32, 0), (0, 3, 0), (1, 32, 0), (0, 4, 0), (0, 3, 0), (1, 32, 0), (0, 3, 0), (1, 32, 0), (0, 4, 0), (0, 3, 0), (1, 32, 0), (0, 3, 0), (1, 32, 0), (0, 4, 0), (0, 3, 0), (1, 32, 0), (0, 3, 0), (1, 32, 0), (0, 4, 0), (0, 3, 0), (1, 32, 0), (0, 3, 0), (1, 32, 0), (0, 4, 0), (0, 3, 0), (1, 32, 0), (0, 3, 0), (1, 32, 0), (0, 4, 0), (0, 3, 0), (1, 32, 0), (0, 3, 0), (1, 32, 0), (0, 4, 0), (0, 3, 0), (1, 32, 0), (0, 3, 0), (1, 32, 0), (0, 4, 0), (0, 3, 0), (1, 32, 0), (0, 3, 0), (1, 32, 0), (0, 4, 0), (0, 3, 0), (1, 32, 0), (0, 3, 0), (1, 32, 0), (0, 4, 0), (0, 3, 0), (1, 32, 0), (0, 3, 0), (1, 32, 0)]
def zKT_1 : List (Nat × Nat × Nat) := [(0, 4, 0), (0, 3, 0), (1, 32, 0), (0, 3, 0), (1, 32, 0), (0, 4, 0), (0, 3, 0), (1, 32, 0), (0, 3, 0), (1, 32, 0), (0, 4, 0), (0, 3, 0), (1, 32, 0), (0, 3, 0), (1, 32, 0), (0, 4, 0), (0, 3, 0), (1, 32, 0), (0, 3, 0), (1, 32, 0), (0, 4, 0), (0, 3, 0), (1, 32, 0), (0, 3, 0), (1, 32, 0), (0, 4, 0), (0, 3, 0), (1, 32, 0), (0, 3, 0), (1, 32, 0), (0, 4, 0), (0, 3, 0), (1, 32, 0), (0, 3, 0), (1, 32, 0), (0, 4, 0), (0, 3, 0), (1, 32, 0), (0, 3, 0), (1, 32, 0), (0, 4, 0), (0, 3, 0), (1, 32, 0), (0, 3, 0), (1, 32, 0), (0, 4, 0), (0, 3, 0), (1, 32, 0), (0, 3, 0), (1, 32, 0), (0, 4, 0), (0, 3, 0), (1, 32, 0), (0, 3, 0), (1, 32, 0), (0, 4, 0), (0, 3, 0), (1, 32, 0), (0, 3, 0), (1, 32, 0), (0, 4, 0), (0, 3, 0), (1, 32, 0), (0, 3, 0), (1, 32, 0), (0, 4, 0), (0, 3, 0), (1, 32, 0), (0, 3, 0), (1, 32, 0), (0, 4, 0), (0, 3, 0), (1, 32, 0), (0, 3, 0), (1, 32, 0), (0, 4, 0), (0, 3, 0), (1, 32, 0), (0, 3, 0), (1, 32, 0), (0, 4, 0), (0, 3, 0), (1, 32, 0), (0, 3, 0), (1, 32, 0), (0, 4, 0), (0, 3, 0), (1, 32, 0), (0, 3, 0), (1, 32, 0), (0, 4, 0), (0, 3, 0), (1, 32, 0), (0, 3, 0), (1, 32, 0), (0, 5, 0), (1, 24, 0), (1, 24, 0), (5, 24, 0), (5, 12, 1), (1, 200, 0), (0, 4, 0), (0, 3, 0), (1, 32, 0), (0, 3, 0)]
def zKT_2 : List (Nat × Nat × Nat) := [(1, 32, 0), (0, 4, 0), (0, 3, 0), (1, 32, 0), (0, 3, 0), (1, 32, 0), (0, 4, 0), (0, 3, 0), (1, 32, 0), (0, 3, 0), (1, 32, 0), (0, 4, 0), (0, 3, 0), (1, 32, 0), (0, 3, 0), (1, 32, 0), (0, 4, 0), (0, 3, 0), (1, 32, 0), (0, 3, 0), (1, 32, 0), (0, 4, 0), (0, 3, 0), (1, 32, 0), (0, 3, 0), (1, 32, 0), (0, 4, 0), (0, 3, 0), (1, 32, 0), (0, 3, 0), (1, 32, 0), (0, 4, 0), (0, 3, 0), (1, 32, 0), (0, 3, 0), (1, 32, 0), (0, 4, 0), (0, 3, 0), (1, 32, 0), (0, 3, 0), (1, 32, 0), (0, 4, 0), (0, 3, 0), (1, 32, 0), (0, 3, 0), (1, 32, 0), (0, 4, 0), (0, 3, 0), (1, 32, 0), (0, 3, 0), (1, 32, 0), (0, 4, 0), (0, 3, 0), (1, 32, 0), (0, 3, 0), (1, 32, 0), (0, 4, 0), (0, 3, 0), (1, 32, 0), (0, 3, 0), (1, 32, 0), (0, 4, 0), (0, 3, 0), (1, 32, 0), (0, 3, 0), (1, 32, 0), (0, 4, 0), (0, 3, 0), (1, 32, 0), (0, 3, 0), (1, 32, 0), (0, 4, 0), (0, 3, 0), (1, 32, 0), (0, 3, 0), (1, 32, 0), (0, 4, 0), (0, 3, 0), (1, 32, 0), (0, 3, 0), (1, 32, 0), (0, 4, 0), (0, 3, 0), (1, 32, 0), (0, 3, 0), (1, 32, 0), (0, 4, 0), (0, 3, 0), (1, 32, 0), (0, 3, 0), (1, 32, 0), (0, 4, 0), (0, 3, 0), (1, 32, 0), (0, 3, 0), (1, 32, 0), (0, 4, 0), (0, 3, 0), (1, 32, 0), (0, 3, 0), (1, 32, 0), (0, 4, 0), (0, 3, 0), (1, 32, 0), (0, 3, 0)]
def zKT_3 : List (Nat × Nat × Nat) := [(1, 32, 0), (0, 4, 0), (0, 3, 0), (1, 32, 0), (0, 3, 0), (1, 32, 0), (0, 4, 0), (0, 3, 0), (1, 32, 0), (0, 3, 0), (1, 32, 0), (0, 4, 0), (0, 3, 0), (1, 32, 0), (0, 3, 0), (1, 32, 0), (0, 4, 0), (0, 3, 0), (1, 32, 0), (0, 3, 0), (1, 32, 0), (0, 4, 0), (0, 3, 0), (1, 32, 0), (0, 3, 0), (1, 32, 0), (0, 4, 0), (0, 3, 0), (1, 32, 0), (0, 3, 0), (1, 32, 0), (0, 4, 0), (0, 3, 0), (1, 32, 0), (0, 3, 0), (1, 32, 0), (0, 4, 0), (0, 3, 0), (1, 32, 0), (0, 3, 0), (1, 32, 0), (0, 4, 0), (0, 3, 0), (1, 32, 0), (0, 3, 0), (1, 32, 0), (0, 4, 0), (0, 3, 0), (1, 32, 0), (0, 3, 0), (1, 32, 0), (0, 4, 0), (0, 3, 0), (1, 32, 0), (0, 3, 0), (1, 32, 0), (0, 4, 0), (0, 3, 0), (1, 32, 0), (0, 3, 0), (1, 32, 0), (0, 4, 0), (0, 3, 0), (1, 32, 0), (0, 3, 0), (1, 32, 0), (0, 4, 0), (0, 3, 0), (1, 32, 0), (0, 3, 0), (1, 32, 0), (0, 4, 0), (0, 3, 0), (1, 32, 0), (0, 3, 0), (1, 32, 0), (0, 6, 0), (0, 3, 0), (1, 32, 0), (0, 3, 0), (1, 32, 0), (0, 3, 0), (1, 32, 0), (0, 3, 0), (1, 32, 0), (0, 3, 0), (1, 32, 0), (0, 3, 0), (1, 32, 0), (0, 3, 0), (1, 32, 0), (0, 3, 0), (1, 32, 0), (5, 24, 2), (0, 3, 0), (1, 32, 0), (0, 3, 0), (1, 32, 0), (0, 3, 0), (1, 32, 0), (0, 3, 0), (1, 32, 0), (0, 3, 0), (1, 32, 0), (0, 3, 0)]
def zKT_4 : List (Nat × Nat × Nat) := [(1, 32, 0), (0, 3, 0), (1, 32, 0), (0, 3, 0), (1, 32, 0), (0, 3, 0), (1, 32, 0), (0, 3, 0), (1, 32, 0), (0, 3, 0), (1, 32, 0), (0, 3, 0), (1, 32, 0), (0, 3, 0), (1, 32, 0), (0, 3, 0), (1, 32, 0), (0, 3, 0), (1, 32, 0), (0, 3, 0), (1, 32, 0), (0, 3, 0), (1, 32, 0), (0, 3, 0), (1, 32, 0), (0, 3, 0), (1, 32, 0), (0, 3, 0), (1, 32, 0), (0, 3, 0), (1, 32, 0), (0, 3, 0), (1, 32, 0), (0, 3, 0), (1, 32, 0), (0, 3, 0), (1, 32, 0), (0, 7, 0), (1, 12, 0), (1, 12, 0), (5, 12, 3), (1, 12, 0), (1, 200, 0), (1, 201, 0), (1, 12, 0), (0, 4, 0), (0, 3, 0), (1, 32, 0), (0, 3, 0), (1, 32, 0), (0, 4, 0), (0, 3, 0), (1, 32, 0), (0, 3, 0), (1, 32, 0), (0, 4, 0), (0, 3, 0), (1, 32, 0), (0, 3, 0), (1, 32, 0), (0, 4, 0), (0, 3, 0), (1, 32, 0), (0, 3, 0), (1, 32, 0), (0, 4, 0), (0, 3, 0), (1, 32, 0), (0, 3, 0), (1, 32, 0), (0, 4, 0), (0, 3, 0), (1, 32, 0), (0, 3, 0), (1, 32, 0), (0, 4, 0), (0, 3, 0), (1, 32, 0), (0, 3, 0), (1, 32, 0), (0, 4, 0), (0, 3, 0), (1, 32, 0), (0, 3, 0), (1, 32, 0), (0, 4, 0), (0, 3, 0), (1, 32, 0), (0, 3, 0), (1, 32, 0), (0, 4, 0), (0, 3, 0), (1, 32, 0), (0, 3, 0), (1, 32, 0), (0, 4, 0), (0, 3, 0), (1, 32, 0), (0, 3, 0), (1, 32, 0), (0, 4, 0), (0, 3, 0), (1, 32, 0), (0, 3, 0), (1, 32, 0)]
def zKT_5 : List (Nat × Nat × Nat) := [(0, 4, 0), (0, 3, 0), (1, 32, 0), (0, 3, 0), (1, 32, 0), (0, 8, 0), (5, 12, 4), (0, 3, 0), (1, 32, 0), (0, 3, 0), (1, 32, 0), (0, 3, 0), (1, 32, 0), (0, 3, 0), (1, 32, 0), (0, 3, 0), (1, 32, 0), (0, 3, 0), (1, 32, 0), (0, 4, 0), (0, 3, 0), (1, 32, 0), (0, 3, 0), (1, 32, 0), (0, 3, 0), (1, 32, 0), (0, 3, 0), (1, 32, 0), (0, 3, 0), (1, 32, 0), (0, 3, 0), (1, 32, 0), (0, 3, 0), (1, 32, 0), (0, 3, 0), (1, 32, 0), (0, 3, 0), (1, 32, 0), (0, 3, 0), (1, 32, 0), (0, 3, 0), (1, 32, 0), (0, 3, 0), (1, 32, 0), (0, 3, 0), (1, 32, 0), (0, 3, 0), (1, 32, 0), (0, 9, 0), (1, 12, 0), (1, 12, 0), (5, 12, 5), (5, 12, 6), (0, 4, 0), (0, 3, 0), (1, 32, 0), (0, 3, 0), (1, 32, 0), (0, 4, 0), (0, 3, 0), (1, 32, 0), (0, 3, 0), (1, 32, 0), (0, 4, 0), (0, 3, 0), (1, 32, 0), (0, 3, 0), (1, 32, 0), (0, 4, 0), (0, 3, 0), (1, 32, 0), (0, 3, 0), (1, 32, 0), (0, 4, 0), (0, 3, 0), (1, 32, 0), (0, 3, 0), (1, 32, 0), (0, 4, 0), (0, 3, 0), (1, 32, 0), (0, 3, 0), (1, 32, 0), (0, 4, 0), (0, 3, 0), (1, 32, 0), (0, 3, 0), (1, 32, 0), (0, 4, 0), (0, 3, 0), (1, 32, 0), (0, 3, 0), (1, 32, 0), (0, 4, 0), (0, 3, 0), (1, 32, 0), (0, 3, 0), (1, 32, 0), (0, 4, 0), (0, 3, 0), (1, 32, 0), (0, 3, 0), (1, 32, 0), (0, 4, 0), (0, 3, 0)]
def zKT_6 : List (Nat × Nat × Nat) := [(1, 32, 0), (0, 3, 0), (1, 32, 0), (0, 4, 0), (0, 3, 0), (1, 32, 0), (0, 3, 0), (1, 32, 0), (0, 4, 0), (0, 3, 0), (1, 32, 0), (0, 3, 0), (1, 32, 0), (0, 4, 0), (0, 3, 0), (1, 32, 0), (0, 3, 0), (1, 32, 0), (0, 4, 0), (0, 3, 0), (1, 32, 0), (0, 3, 0), (1, 32, 0), (0, 4, 0), (0, 3, 0), (1, 32, 0), (0, 3, 0), (1, 32, 0), (0, 4, 0), (0, 3, 0), (1, 32, 0), (0, 3, 0), (1, 32, 0), (0, 4, 0), (0, 3, 0), (1, 32, 0), (0, 3, 0), (1, 32, 0), (0, 4, 0), (0, 3, 0), (1, 32, 0), (0, 3, 0), (1, 32, 0), (0, 4, 0), (0, 3, 0), (1, 32, 0), (0, 3, 0), (1, 32, 0), (0, 4, 0), (0, 3, 0), (1, 32, 0), (0, 3, 0), (1, 32, 0), (0, 4, 0), (0, 3, 0), (1, 32, 0), (0, 3, 0), (1, 32, 0), (0, 4, 0), (0, 3, 0), (1, 32, 0), (0, 3, 0), (1, 32, 0), (0, 4, 0), (0, 3, 0), (1, 32, 0), (0, 3, 0), (1, 32, 0), (0, 4, 0), (0, 3, 0), (1, 32, 0), (0, 3, 0), (1, 32, 0), (0, 10, 0), (4, 721, 0), (1, 40, 0), (0, 3, 0), (1, 32, 0), (0, 11, 0), (1, 26000, 0), (1, 260, 0), (1, 12, 0), (1, 12, 0), (1, 12, 0), (1, 8, 0), (1, 8, 0), (3, 200, 0), (2, 200, 0), (2, 200, 0), (3, 12, 0), (2, 12, 0), (2, 12, 0), (2, 12, 0), (1, 24, 0), (1, 24, 0), (2, 24, 0), (2, 24, 0), (1, 200, 0), (1, 24, 0), (1, 24, 0), (1, 200, 0), (1, 12, 0), (1, 12, 0), (1, 2000, 0), (2, 1, 0)]
def zKT : List (Nat × Nat × Nat) := zKT_0 ++ (zKT_1 ++ (zKT_2 ++ (zKT_3 ++ (zKT_4 ++ (zKT_5 ++ (zKT_6))))))
def zN : Nat := 735
/-- kinds of arrays of references: the class of the array, where its elements lie, how far apart -/
def zRA : List (Nat × Nat × Nat) := [(6, 8, 5), (6, 127, 5), (5, 1, 2), (6, 10, 5), (5, 18, 2), (6, 7, 10), (6, 11, 10)]
/-! methods: name, code, locals, what it returns, how deep its calls go -/
abbrev MI : Type := MethodName × ByteArray × Nat × Option FieldType × Nat
abbrev MOK (M : MI) (n : Nat) : Prop := Cond.code M.1 M.2.1 M.2.2.1 M.2.2.2.1 ∈ zT ∧ Cond.initialized M.1.cls ∈ zT ∧ (plainName M.1.cls = true ∧ M.1.cls ≠ "java/lang/invoke/MethodHandle" ∧ M.1.cls ≠ "java/lang/invoke/VarHandle" ∧ (parseMethodDescriptor M.1.desc).map (fun d => d.parameters.length) = some n)
abbrev MVV (M : MI) : Prop := Cond.instanceMethod M.1 ∈ zT ∧ Cond.selects M.1.cls M.1 M.1 ∈ zT
abbrev MSS (M : MI) : Prop := Cond.static M.1 ∈ zT
abbrev MII (M : MI) : Prop := Cond.instanceMethod M.1 ∈ zT ∧ M.1.name = "<init>"
def M_Ke_init : MI := (⟨"SpeedKernel", "<init>", "()V"⟩, prog_1_method_1_code, 1, none, 4)
theorem mc_Ke_init : MOK M_Ke_init 0 := ⟨zT_mk 101 (by decide +kernel) (by decide +kernel), zT_mk 67 (by decide +kernel) (by decide +kernel), by decide +kernel⟩
theorem mi_Ke_init : MII M_Ke_init := ⟨zT_mk 100 (by decide +kernel) (by decide +kernel), rfl⟩
def M_Ke_job : MI := (⟨"SpeedKernel", "job", "(III)I"⟩, prog_1_method_2_code, 4, (some .int), 1)
theorem mc_Ke_job : MOK M_Ke_job 3 := ⟨zT_mk 458 (by decide +kernel) (by decide +kernel), zT_mk 67 (by decide +kernel) (by decide +kernel), by decide +kernel⟩
theorem mv_Ke_job : MVV M_Ke_job := ⟨zT_mk 456 (by decide +kernel) (by decide +kernel), zT_mk 457 (by decide +kernel) (by decide +kernel)⟩
def M_Ke_level : MI := (⟨"SpeedKernel", "level", "(II)I"⟩, prog_1_method_3_code, 3, (some .int), 2)
theorem mc_Ke_level : MOK M_Ke_level 2 := ⟨zT_mk 470 (by decide +kernel) (by decide +kernel), zT_mk 67 (by decide +kernel) (by decide +kernel), by decide +kernel⟩
theorem mv_Ke_level : MVV M_Ke_level := ⟨zT_mk 468 (by decide +kernel) (by decide +kernel), zT_mk 469 (by decide +kernel) (by decide +kernel)⟩
def M_Ke_convex : MI := (⟨"SpeedKernel", "convex", "()I"⟩, prog_1_method_4_code, 1, (some .int), 3)
theorem mc_Ke_convex : MOK M_Ke_convex 0 := ⟨zT_mk 487 (by decide +kernel) (by decide +kernel), zT_mk 67 (by decide +kernel) (by decide +kernel), by decide +kernel⟩
theorem mv_Ke_convex : MVV M_Ke_convex := ⟨zT_mk 485 (by decide +kernel) (by decide +kernel), zT_mk 486 (by decide +kernel) (by decide +kernel)⟩
def M_Ke_clear : MI := (⟨"SpeedKernel", "clear", "()I"⟩, prog_1_method_5_code, 2, (some .int), 1)
theorem mc_Ke_clear : MOK M_Ke_clear 0 := ⟨zT_mk 500 (by decide +kernel) (by decide +kernel), zT_mk 67 (by decide +kernel) (by decide +kernel), by decide +kernel⟩
theorem mv_Ke_clear : MVV M_Ke_clear := ⟨zT_mk 498 (by decide +kernel) (by decide +kernel), zT_mk 499 (by decide +kernel) (by decide +kernel)⟩
def M_Ke_about : MI := (⟨"SpeedKernel", "about", "(II)I"⟩, prog_1_method_6_code, 3, (some .int), 2)
theorem mc_Ke_about : MOK M_Ke_about 2 := ⟨zT_mk 504 (by decide +kernel) (by decide +kernel), zT_mk 67 (by decide +kernel) (by decide +kernel), by decide +kernel⟩
theorem mv_Ke_about : MVV M_Ke_about := ⟨zT_mk 502 (by decide +kernel) (by decide +kernel), zT_mk 503 (by decide +kernel) (by decide +kernel)⟩
def M_Ke_plan : MI := (⟨"SpeedKernel", "plan", "()I"⟩, prog_1_method_7_code, 1, (some .int), 6)
theorem mc_Ke_plan : MOK M_Ke_plan 0 := ⟨zT_mk 514 (by decide +kernel) (by decide +kernel), zT_mk 67 (by decide +kernel) (by decide +kernel), by decide +kernel⟩
theorem mv_Ke_plan : MVV M_Ke_plan := ⟨zT_mk 512 (by decide +kernel) (by decide +kernel), zT_mk 513 (by decide +kernel) (by decide +kernel)⟩
def M_Ke_ahead : MI := (⟨"SpeedKernel", "ahead", "()I"⟩, prog_1_method_8_code, 1, (some .int), 6)
theorem mc_Ke_ahead : MOK M_Ke_ahead 0 := ⟨zT_mk 1038 (by decide +kernel) (by decide +kernel), zT_mk 67 (by decide +kernel) (by decide +kernel), by decide +kernel⟩
theorem mv_Ke_ahead : MVV M_Ke_ahead := ⟨zT_mk 1036 (by decide +kernel) (by decide +kernel), zT_mk 1037 (by decide +kernel) (by decide +kernel)⟩
def M_Ke_split : MI := (⟨"SpeedKernel", "split", "()I"⟩, prog_1_method_9_code, 1, (some .int), 12)
theorem mc_Ke_split : MOK M_Ke_split 0 := ⟨zT_mk 1206 (by decide +kernel) (by decide +kernel), zT_mk 67 (by decide +kernel) (by decide +kernel), by decide +kernel⟩
theorem mv_Ke_split : MVV M_Ke_split := ⟨zT_mk 1204 (by decide +kernel) (by decide +kernel), zT_mk 1205 (by decide +kernel) (by decide +kernel)⟩
def M_Ke_step : MI := (⟨"SpeedKernel", "step", "(III)I"⟩, prog_1_method_10_code, 5, (some .int), 12)
theorem mc_Ke_step : MOK M_Ke_step 3 := ⟨zT_mk 1258 (by decide +kernel) (by decide +kernel), zT_mk 67 (by decide +kernel) (by decide +kernel), by decide +kernel⟩
theorem mv_Ke_step : MVV M_Ke_step := ⟨zT_mk 1256 (by decide +kernel) (by decide +kernel), zT_mk 1257 (by decide +kernel) (by decide +kernel)⟩
def M_Ke_print : MI := (⟨"SpeedKernel", "print", "(II)I"⟩, prog_1_method_11_code, 4, (some .int), 4)
theorem mc_Ke_print : MOK M_Ke_print 2 := ⟨zT_mk 1089 (by decide +kernel) (by decide +kernel), zT_mk 67 (by decide +kernel) (by decide +kernel), by decide +kernel⟩
theorem mv_Ke_print : MVV M_Ke_print := ⟨zT_mk 1087 (by decide +kernel) (by decide +kernel), zT_mk 1088 (by decide +kernel) (by decide +kernel)⟩
def M_Ke_character : MI := (⟨"SpeedKernel", "character", "(I)I"⟩, prog_1_method_12_code, 2, (some .int), 1)
theorem mc_Ke_character : MOK M_Ke_character 1 := ⟨zT_mk 1127 (by decide +kernel) (by decide +kernel), zT_mk 67 (by decide +kernel) (by decide +kernel), by decide +kernel⟩
theorem mv_Ke_character : MVV M_Ke_character := ⟨zT_mk 1125 (by decide +kernel) (by decide +kernel), zT_mk 1126 (by decide +kernel) (by decide +kernel)⟩
def M_Ke_compare : MI := (⟨"SpeedKernel", "compare", "(IIII)I"⟩, prog_1_method_13_code, 7, (some .int), 4)
theorem mc_Ke_compare : MOK M_Ke_compare 4 := ⟨zT_mk 1135 (by decide +kernel) (by decide +kernel), zT_mk 67 (by decide +kernel) (by decide +kernel), by decide +kernel⟩
theorem mv_Ke_compare : MVV M_Ke_compare := ⟨zT_mk 1133 (by decide +kernel) (by decide +kernel), zT_mk 1134 (by decide +kernel) (by decide +kernel)⟩
def M_Ke_levelOf : MI := (⟨"SpeedKernel", "levelOf", "(II)I"⟩, prog_1_method_14_code, 3, (some .int), 1)
theorem mc_Ke_levelOf : MOK M_Ke_levelOf 2 := ⟨zT_mk 1144 (by decide +kernel) (by decide +kernel), zT_mk 67 (by decide +kernel) (by decide +kernel), by decide +kernel⟩
theorem mv_Ke_levelOf : MVV M_Ke_levelOf := ⟨zT_mk 1142 (by decide +kernel) (by decide +kernel), zT_mk 1143 (by decide +kernel) (by decide +kernel)⟩
def M_Ke_near : MI := (⟨"SpeedKernel", "near", "()D"⟩, prog_1_method_15_code, 6, (some .double), 2)
theorem mc_Ke_near : MOK M_Ke_near 0 := ⟨zT_mk 1148 (by decide +kernel) (by decide +kernel), zT_mk 67 (by decide +kernel) (by decide +kernel), by decide +kernel⟩
theorem mv_Ke_near : MVV M_Ke_near := ⟨zT_mk 1146 (by decide +kernel) (by decide +kernel), zT_mk 1147 (by decide +kernel) (by decide +kernel)⟩
def M_Ke_speed : MI := (⟨"SpeedKernel", "speed", "(D)D"⟩, prog_1_method_16_code, 4, (some .double), 2)
theorem mc_Ke_speed : MOK M_Ke_speed 1 := ⟨zT_mk 1157 (by decide +kernel) (by decide +kernel), zT_mk 67 (by decide +kernel) (by decide +kernel), by decide +kernel⟩
theorem mv_Ke_speed : MVV M_Ke_speed := ⟨zT_mk 1155 (by decide +kernel) (by decide +kernel), zT_mk 1156 (by decide +kernel) (by decide +kernel)⟩
def M_Ke_working : MI := (⟨"SpeedKernel", "working", "(II)I"⟩, prog_1_method_17_code, 4, (some .int), 0)
theorem mc_Ke_working : MOK M_Ke_working 2 := ⟨zT_mk 1161 (by decide +kernel) (by decide +kernel), zT_mk 67 (by decide +kernel) (by decide +kernel), by decide +kernel⟩
theorem mv_Ke_working : MVV M_Ke_working := ⟨zT_mk 1159 (by decide +kernel) (by decide +kernel), zT_mk 1160 (by decide +kernel) (by decide +kernel)⟩
def M_Ke_check : MI := (⟨"SpeedKernel", "check", "()I"⟩, prog_1_method_18_code, 1, (some .int), 5)
theorem mc_Ke_check : MOK M_Ke_check 0 := ⟨zT_mk 1165 (by decide +kernel) (by decide +kernel), zT_mk 67 (by decide +kernel) (by decide +kernel), by decide +kernel⟩
theorem mv_Ke_check : MVV M_Ke_check := ⟨zT_mk 1163 (by decide +kernel) (by decide +kernel), zT_mk 1164 (by decide +kernel) (by decide +kernel)⟩
def M_Ke_forgetPlans : MI := (⟨"SpeedKernel", "forgetPlans", "()V"⟩, prog_1_method_19_code, 1, none, 0)
theorem mc_Ke_forgetPlans : MOK M_Ke_forgetPlans 0 := ⟨zT_mk 462 (by decide +kernel) (by decide +kernel), zT_mk 67 (by decide +kernel) (by decide +kernel), by decide +kernel⟩
theorem mv_Ke_forgetPlans : MVV M_Ke_forgetPlans := ⟨zT_mk 461 (by decide +kernel) (by decide +kernel), zT_mk 0 (by decide +kernel) (by decide +kernel)⟩
def M_Ke_fractionOf : MI := (⟨"SpeedKernel", "fractionOf", "(II)LSpeedKernel$Fraction;"⟩, prog_1_method_20_code, 3, (some (.object "SpeedKernel$Fraction")), 2)
theorem mc_Ke_fractionOf : MOK M_Ke_fractionOf 2 := ⟨zT_mk 1093 (by decide +kernel) (by decide +kernel), zT_mk 67 (by decide +kernel) (by decide +kernel), by decide +kernel⟩
theorem mv_Ke_fractionOf : MVV M_Ke_fractionOf := ⟨zT_mk 1092 (by decide +kernel) (by decide +kernel), zT_mk 23 (by decide +kernel) (by decide +kernel)⟩
def M_Ke_leavesRoom : MI := (⟨"SpeedKernel", "leavesRoom", "()Z"⟩, prog_1_method_21_code, 5, (some .boolean), 4)
theorem mc_Ke_leavesRoom : MOK M_Ke_leavesRoom 0 := ⟨zT_mk 1170 (by decide +kernel) (by decide +kernel), zT_mk 67 (by decide +kernel) (by decide +kernel), by decide +kernel⟩
theorem mv_Ke_leavesRoom : MVV M_Ke_leavesRoom := ⟨zT_mk 1169 (by decide +kernel) (by decide +kernel), zT_mk 27 (by decide +kernel) (by decide +kernel)⟩
def M_Ke_commonOf : MI := (⟨"SpeedKernel", "commonOf", "(JJ)J"⟩, prog_1_method_22_code, 11, (some .long), 0)
theorem mc_Ke_commonOf : MOK M_Ke_commonOf 2 := ⟨zT_mk 554 (by decide +kernel) (by decide +kernel), zT_mk 67 (by decide +kernel) (by decide +kernel), by decide +kernel⟩
theorem ms_Ke_commonOf : MSS M_Ke_commonOf := zT_mk 553 (by decide +kernel) (by decide +kernel)
def M_Mo_init : MI := (⟨"SpeedKernelModel", "<init>", "()V"⟩, prog_13_method_1_code, 1, none, 1)
theorem mc_Mo_init : MOK M_Mo_init 0 := ⟨zT_mk 1283 (by decide +kernel) (by decide +kernel), zT_mk 78 (by decide +kernel) (by decide +kernel), by decide +kernel⟩
theorem mi_Mo_init : MII M_Mo_init := ⟨zT_mk 1282 (by decide +kernel) (by decide +kernel), rfl⟩
def M_Mo_thrown : MI := (⟨"SpeedKernelModel", "thrown", "()I"⟩, prog_13_method_2_code, 1, (some .int), 0)
theorem mc_Mo_thrown : MOK M_Mo_thrown 0 := ⟨zT_mk 1393 (by decide +kernel) (by decide +kernel), zT_mk 78 (by decide +kernel) (by decide +kernel), by decide +kernel⟩
theorem mv_Mo_thrown : MVV M_Mo_thrown := ⟨zT_mk 1391 (by decide +kernel) (by decide +kernel), zT_mk 1392 (by decide +kernel) (by decide +kernel)⟩
def M_Mo_set : MI := (⟨"SpeedKernelModel", "set", "(IJ)V"⟩, prog_13_method_3_code, 6, none, 0)
theorem mc_Mo_set : MOK M_Mo_set 2 := ⟨zT_mk 1460 (by decide +kernel) (by decide +kernel), zT_mk 78 (by decide +kernel) (by decide +kernel), by decide +kernel⟩
theorem mv_Mo_set : MVV M_Mo_set := ⟨zT_mk 1459 (by decide +kernel) (by decide +kernel), zT_mk 38 (by decide +kernel) (by decide +kernel)⟩
def M_Mo_copy : MI := (⟨"SpeedKernelModel", "copy", "(II)V"⟩, prog_13_method_4_code, 4, none, 0)
theorem mc_Mo_copy : MOK M_Mo_copy 2 := ⟨zT_mk 1473 (by decide +kernel) (by decide +kernel), zT_mk 78 (by decide +kernel) (by decide +kernel), by decide +kernel⟩
theorem mv_Mo_copy : MVV M_Mo_copy := ⟨zT_mk 1472 (by decide +kernel) (by decide +kernel), zT_mk 41 (by decide +kernel) (by decide +kernel)⟩
def M_Mo_part : MI := (⟨"SpeedKernelModel", "part", "(II)I"⟩, prog_13_method_5_code, 3, (some .int), 0)
theorem mc_Mo_part : MOK M_Mo_part 2 := ⟨zT_mk 1497 (by decide +kernel) (by decide +kernel), zT_mk 78 (by decide +kernel) (by decide +kernel), by decide +kernel⟩
theorem mv_Mo_part : MVV M_Mo_part := ⟨zT_mk 1496 (by decide +kernel) (by decide +kernel), zT_mk 47 (by decide +kernel) (by decide +kernel)⟩
def M_Mo_trim : MI := (⟨"SpeedKernelModel", "trim", "(I)V"⟩, prog_13_method_6_code, 2, none, 0)
theorem mc_Mo_trim : MOK M_Mo_trim 1 := ⟨zT_mk 1485 (by decide +kernel) (by decide +kernel), zT_mk 78 (by decide +kernel) (by decide +kernel), by decide +kernel⟩
theorem mv_Mo_trim : MVV M_Mo_trim := ⟨zT_mk 1484 (by decide +kernel) (by decide +kernel), zT_mk 44 (by decide +kernel) (by decide +kernel)⟩
def M_Mo_order : MI := (⟨"SpeedKernelModel", "order", "(II)I"⟩, prog_13_method_7_code, 6, (some .int), 0)
theorem mc_Mo_order : MOK M_Mo_order 2 := ⟨zT_mk 1489 (by decide +kernel) (by decide +kernel), zT_mk 78 (by decide +kernel) (by decide +kernel), by decide +kernel⟩
theorem mv_Mo_order : MVV M_Mo_order := ⟨zT_mk 1488 (by decide +kernel) (by decide +kernel), zT_mk 45 (by decide +kernel) (by decide +kernel)⟩
def M_Mo_add : MI := (⟨"SpeedKernelModel", "add", "(III)V"⟩, prog_13_method_8_code, 8, none, 1)
theorem mc_Mo_add : MOK M_Mo_add 3 := ⟨zT_mk 1522 (by decide +kernel) (by decide +kernel), zT_mk 78 (by decide +kernel) (by decide +kernel), by decide +kernel⟩
theorem mv_Mo_add : MVV M_Mo_add := ⟨zT_mk 1521 (by decide +kernel) (by decide +kernel), zT_mk 53 (by decide +kernel) (by decide +kernel)⟩
def M_Mo_subtract : MI := (⟨"SpeedKernelModel", "subtract", "(III)V"⟩, prog_13_method_9_code, 8, none, 1)
theorem mc_Mo_subtract : MOK M_Mo_subtract 3 := ⟨zT_mk 1493 (by decide +kernel) (by decide +kernel), zT_mk 78 (by decide +kernel) (by decide +kernel), by decide +kernel⟩
theorem mv_Mo_subtract : MVV M_Mo_subtract := ⟨zT_mk 1492 (by decide +kernel) (by decide +kernel), zT_mk 46 (by decide +kernel) (by decide +kernel)⟩
def M_Mo_multiply : MI := (⟨"SpeedKernelModel", "multiply", "(III)V"⟩, prog_13_method_10_code, 13, none, 1)
theorem mc_Mo_multiply : MOK M_Mo_multiply 3 := ⟨zT_mk 1514 (by decide +kernel) (by decide +kernel), zT_mk 78 (by decide +kernel) (by decide +kernel), by decide +kernel⟩
theorem mv_Mo_multiply : MVV M_Mo_multiply := ⟨zT_mk 1513 (by decide +kernel) (by decide +kernel), zT_mk 51 (by decide +kernel) (by decide +kernel)⟩
def M_Mo_multiplyBy : MI := (⟨"SpeedKernelModel", "multiplyBy", "(II)V"⟩, prog_13_method_11_code, 8, none, 1)
theorem mc_Mo_multiplyBy : MOK M_Mo_multiplyBy 2 := ⟨zT_mk 1502 (by decide +kernel) (by decide +kernel), zT_mk 78 (by decide +kernel) (by decide +kernel), by decide +kernel⟩
theorem mv_Mo_multiplyBy : MVV M_Mo_multiplyBy := ⟨zT_mk 1501 (by decide +kernel) (by decide +kernel), zT_mk 48 (by decide +kernel) (by decide +kernel)⟩
def M_Mo_divideBy : MI := (⟨"SpeedKernelModel", "divideBy", "(II)I"⟩, prog_13_method_12_code, 8, (some .int), 1)
theorem mc_Mo_divideBy : MOK M_Mo_divideBy 2 := ⟨zT_mk 1481 (by decide +kernel) (by decide +kernel), zT_mk 78 (by decide +kernel) (by decide +kernel), by decide +kernel⟩
theorem mv_Mo_divideBy : MVV M_Mo_divideBy := ⟨zT_mk 1480 (by decide +kernel) (by decide +kernel), zT_mk 43 (by decide +kernel) (by decide +kernel)⟩
def M_Mo_isEven : MI := (⟨"SpeedKernelModel", "isEven", "(I)Z"⟩, prog_13_method_13_code, 2, (some .boolean), 0)
theorem mc_Mo_isEven : MOK M_Mo_isEven 1 := ⟨zT_mk 1477 (by decide +kernel) (by decide +kernel), zT_mk 78 (by decide +kernel) (by decide +kernel), by decide +kernel⟩
theorem mv_Mo_isEven : MVV M_Mo_isEven := ⟨zT_mk 1476 (by decide +kernel) (by decide +kernel), zT_mk 42 (by decide +kernel) (by decide +kernel)⟩
def M_Mo_common : MI := (⟨"SpeedKernelModel", "common", "(II)V"⟩, prog_13_method_14_code, 5, none, 2)
theorem mc_Mo_common : MOK M_Mo_common 2 := ⟨zT_mk 1469 (by decide +kernel) (by decide +kernel), zT_mk 78 (by decide +kernel) (by decide +kernel), by decide +kernel⟩
theorem mv_Mo_common : MVV M_Mo_common := ⟨zT_mk 1468 (by decide +kernel) (by decide +kernel), zT_mk 40 (by decide +kernel) (by decide +kernel)⟩
def M_Mo_divide : MI := (⟨"SpeedKernelModel", "divide", "(I)V"⟩, prog_13_method_15_code, 5, none, 2)
theorem mc_Mo_divide : MOK M_Mo_divide 1 := ⟨zT_mk 1506 (by decide +kernel) (by decide +kernel), zT_mk 78 (by decide +kernel) (by decide +kernel), by decide +kernel⟩
theorem mv_Mo_divide : MVV M_Mo_divide := ⟨zT_mk 1505 (by decide +kernel) (by decide +kernel), zT_mk 49 (by decide +kernel) (by decide +kernel)⟩
def M_Mo_reduce : MI := (⟨"SpeedKernelModel", "reduce", "(I)V"⟩, prog_13_method_16_code, 2, none, 3)
theorem mc_Mo_reduce : MOK M_Mo_reduce 1 := ⟨zT_mk 1465 (by decide +kernel) (by decide +kernel), zT_mk 78 (by decide +kernel) (by decide +kernel), by decide +kernel⟩
theorem mv_Mo_reduce : MVV M_Mo_reduce := ⟨zT_mk 1464 (by decide +kernel) (by decide +kernel), zT_mk 39 (by decide +kernel) (by decide +kernel)⟩
def M_Mo_tell : MI := (⟨"SpeedKernelModel", "tell", "(IJJ)V"⟩, prog_13_method_17_code, 6, none, 4)
theorem mc_Mo_tell : MOK M_Mo_tell 3 := ⟨zT_mk 1456 (by decide +kernel) (by decide +kernel), zT_mk 78 (by decide +kernel) (by decide +kernel), by decide +kernel⟩
theorem mv_Mo_tell : MVV M_Mo_tell := ⟨zT_mk 1455 (by decide +kernel) (by decide +kernel), zT_mk 37 (by decide +kernel) (by decide +kernel)⟩
def M_Mo_sumUp : MI := (⟨"SpeedKernelModel", "sumUp", "()V"⟩, prog_13_method_18_code, 1, none, 4)
theorem mc_Mo_sumUp : MOK M_Mo_sumUp 0 := ⟨zT_mk 1518 (by decide +kernel) (by decide +kernel), zT_mk 78 (by decide +kernel) (by decide +kernel), by decide +kernel⟩
theorem mv_Mo_sumUp : MVV M_Mo_sumUp := ⟨zT_mk 1517 (by decide +kernel) (by decide +kernel), zT_mk 52 (by decide +kernel) (by decide +kernel)⟩
def M_Mo_sumCube : MI := (⟨"SpeedKernelModel", "sumCube", "(II)V"⟩, prog_13_method_19_code, 3, none, 5)
theorem mc_Mo_sumCube : MOK M_Mo_sumCube 2 := ⟨zT_mk 1510 (by decide +kernel) (by decide +kernel), zT_mk 78 (by decide +kernel) (by decide +kernel), by decide +kernel⟩
theorem mv_Mo_sumCube : MVV M_Mo_sumCube := ⟨zT_mk 1509 (by decide +kernel) (by decide +kernel), zT_mk 50 (by decide +kernel) (by decide +kernel)⟩
def M_Mo_keep : MI := (⟨"SpeedKernelModel", "keep", "(II)V"⟩, prog_13_method_20_code, 3, none, 1)
theorem mc_Mo_keep : MOK M_Mo_keep 2 := ⟨zT_mk 1526 (by decide +kernel) (by decide +kernel), zT_mk 78 (by decide +kernel) (by decide +kernel), by decide +kernel⟩
theorem mv_Mo_keep : MVV M_Mo_keep := ⟨zT_mk 1525 (by decide +kernel) (by decide +kernel), zT_mk 54 (by decide +kernel) (by decide +kernel)⟩
def M_Mo_isSame : MI := (⟨"SpeedKernelModel", "isSame", "(II)Z"⟩, prog_13_method_21_code, 3, (some .boolean), 1)
theorem mc_Mo_isSame : MOK M_Mo_isSame 2 := ⟨zT_mk 1554 (by decide +kernel) (by decide +kernel), zT_mk 78 (by decide +kernel) (by decide +kernel), by decide +kernel⟩
theorem mv_Mo_isSame : MVV M_Mo_isSame := ⟨zT_mk 1553 (by decide +kernel) (by decide +kernel), zT_mk 60 (by decide +kernel) (by decide +kernel)⟩
def M_Mo_in : MI := (⟨"SpeedKernelModel", "in", "(III)Z"⟩, prog_13_method_22_code, 3, (some .boolean), 0)
theorem mc_Mo_in : MOK M_Mo_in 3 := ⟨zT_mk 1400 (by decide +kernel) (by decide +kernel), zT_mk 78 (by decide +kernel) (by decide +kernel), by decide +kernel⟩
theorem ms_Mo_in : MSS M_Mo_in := zT_mk 1399 (by decide +kernel) (by decide +kernel)
def M_Mo_job : MI := (⟨"SpeedKernelModel", "job", "(III)I"⟩, prog_13_method_23_code, 4, (some .int), 1)
theorem mc_Mo_job : MOK M_Mo_job 3 := ⟨zT_mk 1397 (by decide +kernel) (by decide +kernel), zT_mk 78 (by decide +kernel) (by decide +kernel), by decide +kernel⟩
theorem mv_Mo_job : MVV M_Mo_job := ⟨zT_mk 1395 (by decide +kernel) (by decide +kernel), zT_mk 1396 (by decide +kernel) (by decide +kernel)⟩
def M_Mo_level : MI := (⟨"SpeedKernelModel", "level", "(II)I"⟩, prog_13_method_24_code, 3, (some .int), 1)
theorem mc_Mo_level : MOK M_Mo_level 2 := ⟨zT_mk 1404 (by decide +kernel) (by decide +kernel), zT_mk 78 (by decide +kernel) (by decide +kernel), by decide +kernel⟩
theorem mv_Mo_level : MVV M_Mo_level := ⟨zT_mk 1402 (by decide +kernel) (by decide +kernel), zT_mk 1403 (by decide +kernel) (by decide +kernel)⟩
def M_Mo_convex : MI := (⟨"SpeedKernelModel", "convex", "()I"⟩, prog_13_method_25_code, 9, (some .int), 0)
theorem mc_Mo_convex : MOK M_Mo_convex 0 := ⟨zT_mk 1409 (by decide +kernel) (by decide +kernel), zT_mk 78 (by decide +kernel) (by decide +kernel), by decide +kernel⟩
theorem mv_Mo_convex : MVV M_Mo_convex := ⟨zT_mk 1407 (by decide +kernel) (by decide +kernel), zT_mk 1408 (by decide +kernel) (by decide +kernel)⟩
def M_Mo_clear : MI := (⟨"SpeedKernelModel", "clear", "()I"⟩, prog_13_method_26_code, 2, (some .int), 0)
theorem mc_Mo_clear : MOK M_Mo_clear 0 := ⟨zT_mk 1413 (by decide +kernel) (by decide +kernel), zT_mk 78 (by decide +kernel) (by decide +kernel), by decide +kernel⟩
theorem mv_Mo_clear : MVV M_Mo_clear := ⟨zT_mk 1411 (by decide +kernel) (by decide +kernel), zT_mk 1412 (by decide +kernel) (by decide +kernel)⟩
def M_Mo_about : MI := (⟨"SpeedKernelModel", "about", "(II)I"⟩, prog_13_method_27_code, 3, (some .int), 1)
theorem mc_Mo_about : MOK M_Mo_about 2 := ⟨zT_mk 1417 (by decide +kernel) (by decide +kernel), zT_mk 78 (by decide +kernel) (by decide +kernel), by decide +kernel⟩
theorem mv_Mo_about : MVV M_Mo_about := ⟨zT_mk 1415 (by decide +kernel) (by decide +kernel), zT_mk 1416 (by decide +kernel) (by decide +kernel)⟩
def M_Mo_firstRelease : MI := (⟨"SpeedKernelModel", "firstRelease", "()I"⟩, prog_13_method_28_code, 3, (some .int), 0)
theorem mc_Mo_firstRelease : MOK M_Mo_firstRelease 0 := ⟨zT_mk 1440 (by decide +kernel) (by decide +kernel), zT_mk 78 (by decide +kernel) (by decide +kernel), by decide +kernel⟩
theorem mv_Mo_firstRelease : MVV M_Mo_firstRelease := ⟨zT_mk 1439 (by decide +kernel) (by decide +kernel), zT_mk 33 (by decide +kernel) (by decide +kernel)⟩
def M_Mo_lastDeadline : MI := (⟨"SpeedKernelModel", "lastDeadline", "()I"⟩, prog_13_method_29_code, 3, (some .int), 0)
theorem mc_Mo_lastDeadline : MOK M_Mo_lastDeadline 0 := ⟨zT_mk 1444 (by decide +kernel) (by decide +kernel), zT_mk 78 (by decide +kernel) (by decide +kernel), by decide +kernel⟩
theorem mv_Mo_lastDeadline : MVV M_Mo_lastDeadline := ⟨zT_mk 1443 (by decide +kernel) (by decide +kernel), zT_mk 34 (by decide +kernel) (by decide +kernel)⟩
def M_Mo_open : MI := (⟨"SpeedKernelModel", "open", "(II)I"⟩, prog_13_method_30_code, 5, (some .int), 0)
theorem mc_Mo_open : MOK M_Mo_open 2 := ⟨zT_mk 1429 (by decide +kernel) (by decide +kernel), zT_mk 78 (by decide +kernel) (by decide +kernel), by decide +kernel⟩
theorem mv_Mo_open : MVV M_Mo_open := ⟨zT_mk 1428 (by decide +kernel) (by decide +kernel), zT_mk 31 (by decide +kernel) (by decide +kernel)⟩
def M_Mo_isWithin : MI := (⟨"SpeedKernelModel", "isWithin", "(III)Z"⟩, prog_13_method_31_code, 7, (some .boolean), 1)
theorem mc_Mo_isWithin : MOK M_Mo_isWithin 3 := ⟨zT_mk 1433 (by decide +kernel) (by decide +kernel), zT_mk 78 (by decide +kernel) (by decide +kernel), by decide +kernel⟩
theorem mv_Mo_isWithin : MVV M_Mo_isWithin := ⟨zT_mk 1432 (by decide +kernel) (by decide +kernel), zT_mk 32 (by decide +kernel) (by decide +kernel)⟩
def M_Mo_commonOf : MI := (⟨"SpeedKernelModel", "commonOf", "(JJ)J"⟩, prog_13_method_32_code, 10, (some .long), 0)
theorem mc_Mo_commonOf : MOK M_Mo_commonOf 2 := ⟨zT_mk 1436 (by decide +kernel) (by decide +kernel), zT_mk 78 (by decide +kernel) (by decide +kernel), by decide +kernel⟩
theorem ms_Mo_commonOf : MSS M_Mo_commonOf := zT_mk 1435 (by decide +kernel) (by decide +kernel)
def M_Mo_fixBest : MI := (⟨"SpeedKernelModel", "fixBest", "()Z"⟩, prog_13_method_33_code, 15, (some .boolean), 2)
theorem mc_Mo_fixBest : MOK M_Mo_fixBest 0 := ⟨zT_mk 1425 (by decide +kernel) (by decide +kernel), zT_mk 78 (by decide +kernel) (by decide +kernel), by decide +kernel⟩
theorem mv_Mo_fixBest : MVV M_Mo_fixBest := ⟨zT_mk 1424 (by decide +kernel) (by decide +kernel), zT_mk 30 (by decide +kernel) (by decide +kernel)⟩
def M_Mo_nextJob : MI := (⟨"SpeedKernelModel", "nextJob", "(I)I"⟩, prog_13_method_34_code, 4, (some .int), 0)
theorem mc_Mo_nextJob : MOK M_Mo_nextJob 1 := ⟨zT_mk 1452 (by decide +kernel) (by decide +kernel), zT_mk 78 (by decide +kernel) (by decide +kernel), by decide +kernel⟩
theorem mv_Mo_nextJob : MVV M_Mo_nextJob := ⟨zT_mk 1451 (by decide +kernel) (by decide +kernel), zT_mk 36 (by decide +kernel) (by decide +kernel)⟩
def M_Mo_workPlan : MI := (⟨"SpeedKernelModel", "workPlan", "(II)V"⟩, prog_13_method_35_code, 9, none, 5)
theorem mc_Mo_workPlan : MOK M_Mo_workPlan 2 := ⟨zT_mk 1448 (by decide +kernel) (by decide +kernel), zT_mk 78 (by decide +kernel) (by decide +kernel), by decide +kernel⟩
theorem mv_Mo_workPlan : MVV M_Mo_workPlan := ⟨zT_mk 1447 (by decide +kernel) (by decide +kernel), zT_mk 35 (by decide +kernel) (by decide +kernel)⟩
def M_Mo_plan : MI := (⟨"SpeedKernelModel", "plan", "()I"⟩, prog_13_method_36_code, 6, (some .int), 6)
theorem mc_Mo_plan : MOK M_Mo_plan 0 := ⟨zT_mk 1421 (by decide +kernel) (by decide +kernel), zT_mk 78 (by decide +kernel) (by decide +kernel), by decide +kernel⟩
theorem mv_Mo_plan : MVV M_Mo_plan := ⟨zT_mk 1419 (by decide +kernel) (by decide +kernel), zT_mk 1420 (by decide +kernel) (by decide +kernel)⟩
def M_Mo_nextEvent : MI := (⟨"SpeedKernelModel", "nextEvent", "(I)I"⟩, prog_13_method_37_code, 4, (some .int), 0)
theorem mc_Mo_nextEvent : MOK M_Mo_nextEvent 1 := ⟨zT_mk 1534 (by decide +kernel) (by decide +kernel), zT_mk 78 (by decide +kernel) (by decide +kernel), by decide +kernel⟩
theorem mv_Mo_nextEvent : MVV M_Mo_nextEvent := ⟨zT_mk 1533 (by decide +kernel) (by decide +kernel), zT_mk 55 (by decide +kernel) (by decide +kernel)⟩
def M_Mo_inOrder : MI := (⟨"SpeedKernelModel", "inOrder", "(II)I"⟩, prog_13_method_38_code, 6, (some .int), 0)
theorem mc_Mo_inOrder : MOK M_Mo_inOrder 2 := ⟨zT_mk 1550 (by decide +kernel) (by decide +kernel), zT_mk 78 (by decide +kernel) (by decide +kernel), by decide +kernel⟩
theorem mv_Mo_inOrder : MVV M_Mo_inOrder := ⟨zT_mk 1549 (by decide +kernel) (by decide +kernel), zT_mk 59 (by decide +kernel) (by decide +kernel)⟩
def M_Mo_findBest : MI := (⟨"SpeedKernelModel", "findBest", "(I)I"⟩, prog_13_method_39_code, 6, (some .int), 2)
theorem mc_Mo_findBest : MOK M_Mo_findBest 1 := ⟨zT_mk 1538 (by decide +kernel) (by decide +kernel), zT_mk 78 (by decide +kernel) (by decide +kernel), by decide +kernel⟩
theorem mv_Mo_findBest : MVV M_Mo_findBest := ⟨zT_mk 1537 (by decide +kernel) (by decide +kernel), zT_mk 56 (by decide +kernel) (by decide +kernel)⟩
def M_Mo_workAhead : MI := (⟨"SpeedKernelModel", "workAhead", "(III)V"⟩, prog_13_method_40_code, 5, none, 4)
theorem mc_Mo_workAhead : MOK M_Mo_workAhead 3 := ⟨zT_mk 1542 (by decide +kernel) (by decide +kernel), zT_mk 78 (by decide +kernel) (by decide +kernel), by decide +kernel⟩
theorem mv_Mo_workAhead : MVV M_Mo_workAhead := ⟨zT_mk 1541 (by decide +kernel) (by decide +kernel), zT_mk 57 (by decide +kernel) (by decide +kernel)⟩
def M_Mo_whoAt : MI := (⟨"SpeedKernelModel", "whoAt", "(II)I"⟩, prog_13_method_41_code, 5, (some .int), 2)
theorem mc_Mo_whoAt : MOK M_Mo_whoAt 2 := ⟨zT_mk 1546 (by decide +kernel) (by decide +kernel), zT_mk 78 (by decide +kernel) (by decide +kernel), by decide +kernel⟩
theorem mv_Mo_whoAt : MVV M_Mo_whoAt := ⟨zT_mk 1545 (by decide +kernel) (by decide +kernel), zT_mk 58 (by decide +kernel) (by decide +kernel)⟩
def M_Mo_ahead : MI := (⟨"SpeedKernelModel", "ahead", "()I"⟩, prog_13_method_42_code, 5, (some .int), 6)
theorem mc_Mo_ahead : MOK M_Mo_ahead 0 := ⟨zT_mk 1530 (by decide +kernel) (by decide +kernel), zT_mk 78 (by decide +kernel) (by decide +kernel), by decide +kernel⟩
theorem mv_Mo_ahead : MVV M_Mo_ahead := ⟨zT_mk 1528 (by decide +kernel) (by decide +kernel), zT_mk 1529 (by decide +kernel) (by decide +kernel)⟩
def M_Mo_split : MI := (⟨"SpeedKernelModel", "split", "()I"⟩, prog_13_method_43_code, 2, (some .int), 7)
theorem mc_Mo_split : MOK M_Mo_split 0 := ⟨zT_mk 1558 (by decide +kernel) (by decide +kernel), zT_mk 78 (by decide +kernel) (by decide +kernel), by decide +kernel⟩
theorem mv_Mo_split : MVV M_Mo_split := ⟨zT_mk 1556 (by decide +kernel) (by decide +kernel), zT_mk 1557 (by decide +kernel) (by decide +kernel)⟩
def M_Mo_splitOne : MI := (⟨"SpeedKernelModel", "splitOne", "(I)V"⟩, prog_13_method_44_code, 11, none, 6)
theorem mc_Mo_splitOne : MOK M_Mo_splitOne 1 := ⟨zT_mk 1562 (by decide +kernel) (by decide +kernel), zT_mk 78 (by decide +kernel) (by decide +kernel), by decide +kernel⟩
theorem mv_Mo_splitOne : MVV M_Mo_splitOne := ⟨zT_mk 1561 (by decide +kernel) (by decide +kernel), zT_mk 61 (by decide +kernel) (by decide +kernel)⟩
def M_Mo_pay : MI := (⟨"SpeedKernelModel", "pay", "(II)V"⟩, prog_13_method_45_code, 3, none, 5)
theorem mc_Mo_pay : MOK M_Mo_pay 2 := ⟨zT_mk 1566 (by decide +kernel) (by decide +kernel), zT_mk 78 (by decide +kernel) (by decide +kernel), by decide +kernel⟩
theorem mv_Mo_pay : MVV M_Mo_pay := ⟨zT_mk 1565 (by decide +kernel) (by decide +kernel), zT_mk 62 (by decide +kernel) (by decide +kernel)⟩
def M_Mo_levelOf : MI := (⟨"SpeedKernelModel", "levelOf", "(II)I"⟩, prog_13_method_46_code, 3, (some .int), 1)
theorem mc_Mo_levelOf : MOK M_Mo_levelOf 2 := ⟨zT_mk 1570 (by decide +kernel) (by decide +kernel), zT_mk 78 (by decide +kernel) (by decide +kernel), by decide +kernel⟩
theorem mv_Mo_levelOf : MVV M_Mo_levelOf := ⟨zT_mk 1568 (by decide +kernel) (by decide +kernel), zT_mk 1569 (by decide +kernel) (by decide +kernel)⟩
def M_Mo_step : MI := (⟨"SpeedKernelModel", "step", "(III)I"⟩, prog_13_method_47_code, 4, (some .int), 1)
theorem mc_Mo_step : MOK M_Mo_step 3 := ⟨zT_mk 1574 (by decide +kernel) (by decide +kernel), zT_mk 78 (by decide +kernel) (by decide +kernel), by decide +kernel⟩
theorem mv_Mo_step : MVV M_Mo_step := ⟨zT_mk 1572 (by decide +kernel) (by decide +kernel), zT_mk 1573 (by decide +kernel) (by decide +kernel)⟩
def M_Mo_fraction : MI := (⟨"SpeedKernelModel", "fraction", "(II)I"⟩, prog_13_method_48_code, 4, (some .int), 1)
theorem mc_Mo_fraction : MOK M_Mo_fraction 2 := ⟨zT_mk 1582 (by decide +kernel) (by decide +kernel), zT_mk 78 (by decide +kernel) (by decide +kernel), by decide +kernel⟩
theorem mv_Mo_fraction : MVV M_Mo_fraction := ⟨zT_mk 1581 (by decide +kernel) (by decide +kernel), zT_mk 63 (by decide +kernel) (by decide +kernel)⟩
def M_Mo_printNumber : MI := (⟨"SpeedKernelModel", "printNumber", "(I)V"⟩, prog_13_method_49_code, 7, none, 2)
theorem mc_Mo_printNumber : MOK M_Mo_printNumber 1 := ⟨zT_mk 1586 (by decide +kernel) (by decide +kernel), zT_mk 78 (by decide +kernel) (by decide +kernel), by decide +kernel⟩
theorem mv_Mo_printNumber : MVV M_Mo_printNumber := ⟨zT_mk 1585 (by decide +kernel) (by decide +kernel), zT_mk 64 (by decide +kernel) (by decide +kernel)⟩
def M_Mo_print : MI := (⟨"SpeedKernelModel", "print", "(II)I"⟩, prog_13_method_50_code, 4, (some .int), 3)
theorem mc_Mo_print : MOK M_Mo_print 2 := ⟨zT_mk 1578 (by decide +kernel) (by decide +kernel), zT_mk 78 (by decide +kernel) (by decide +kernel), by decide +kernel⟩
theorem mv_Mo_print : MVV M_Mo_print := ⟨zT_mk 1576 (by decide +kernel) (by decide +kernel), zT_mk 1577 (by decide +kernel) (by decide +kernel)⟩
def M_Mo_character : MI := (⟨"SpeedKernelModel", "character", "(I)I"⟩, prog_13_method_51_code, 2, (some .int), 1)
theorem mc_Mo_character : MOK M_Mo_character 1 := ⟨zT_mk 1590 (by decide +kernel) (by decide +kernel), zT_mk 78 (by decide +kernel) (by decide +kernel), by decide +kernel⟩
theorem mv_Mo_character : MVV M_Mo_character := ⟨zT_mk 1588 (by decide +kernel) (by decide +kernel), zT_mk 1589 (by decide +kernel) (by decide +kernel)⟩
def M_Mo_compare : MI := (⟨"SpeedKernelModel", "compare", "(IIII)I"⟩, prog_13_method_52_code, 7, (some .int), 2)
theorem mc_Mo_compare : MOK M_Mo_compare 4 := ⟨zT_mk 1594 (by decide +kernel) (by decide +kernel), zT_mk 78 (by decide +kernel) (by decide +kernel), by decide +kernel⟩
theorem mv_Mo_compare : MVV M_Mo_compare := ⟨zT_mk 1592 (by decide +kernel) (by decide +kernel), zT_mk 1593 (by decide +kernel) (by decide +kernel)⟩
def M_Mo_speedOf : MI := (⟨"SpeedKernelModel", "speedOf", "(I)D"⟩, prog_13_method_53_code, 2, (some .double), 0)
theorem mc_Mo_speedOf : MOK M_Mo_speedOf 1 := ⟨zT_mk 1602 (by decide +kernel) (by decide +kernel), zT_mk 78 (by decide +kernel) (by decide +kernel), by decide +kernel⟩
theorem mv_Mo_speedOf : MVV M_Mo_speedOf := ⟨zT_mk 1601 (by decide +kernel) (by decide +kernel), zT_mk 65 (by decide +kernel) (by decide +kernel)⟩
def M_Mo_near : MI := (⟨"SpeedKernelModel", "near", "()D"⟩, prog_13_method_54_code, 6, (some .double), 1)
theorem mc_Mo_near : MOK M_Mo_near 0 := ⟨zT_mk 1598 (by decide +kernel) (by decide +kernel), zT_mk 78 (by decide +kernel) (by decide +kernel), by decide +kernel⟩
theorem mv_Mo_near : MVV M_Mo_near := ⟨zT_mk 1596 (by decide +kernel) (by decide +kernel), zT_mk 1597 (by decide +kernel) (by decide +kernel)⟩
def M_Mo_speed : MI := (⟨"SpeedKernelModel", "speed", "(D)D"⟩, prog_13_method_55_code, 4, (some .double), 1)
theorem mc_Mo_speed : MOK M_Mo_speed 1 := ⟨zT_mk 1606 (by decide +kernel) (by decide +kernel), zT_mk 78 (by decide +kernel) (by decide +kernel), by decide +kernel⟩
theorem mv_Mo_speed : MVV M_Mo_speed := ⟨zT_mk 1604 (by decide +kernel) (by decide +kernel), zT_mk 1605 (by decide +kernel) (by decide +kernel)⟩
def M_Mo_working : MI := (⟨"SpeedKernelModel", "working", "(II)I"⟩, prog_13_method_56_code, 3, (some .int), 1)
theorem mc_Mo_working : MOK M_Mo_working 2 := ⟨zT_mk 1610 (by decide +kernel) (by decide +kernel), zT_mk 78 (by decide +kernel) (by decide +kernel), by decide +kernel⟩
theorem mv_Mo_working : MVV M_Mo_working := ⟨zT_mk 1608 (by decide +kernel) (by decide +kernel), zT_mk 1609 (by decide +kernel) (by decide +kernel)⟩
def M_Mo_check : MI := (⟨"SpeedKernelModel", "check", "()I"⟩, prog_13_method_57_code, 1, (some .int), 0)
theorem mc_Mo_check : MOK M_Mo_check 0 := ⟨zT_mk 1614 (by decide +kernel) (by decide +kernel), zT_mk 78 (by decide +kernel) (by decide +kernel), by decide +kernel⟩
theorem mv_Mo_check : MVV M_Mo_check := ⟨zT_mk 1612 (by decide +kernel) (by decide +kernel), zT_mk 1613 (by decide +kernel) (by decide +kernel)⟩
def M_Fo_init : MI := (⟨"SpeedKernel$Foresight", "<init>", "()V"⟩, prog_2_method_1_code, 2, none, 3)
theorem mc_Fo_init : MOK M_Fo_init 0 := ⟨zT_mk 338 (by decide +kernel) (by decide +kernel), zT_mk 75 (by decide +kernel) (by decide +kernel), by decide +kernel⟩
theorem mi_Fo_init : MII M_Fo_init := ⟨zT_mk 337 (by decide +kernel) (by decide +kernel), rfl⟩
def M_Fo_workOut : MI := (⟨"SpeedKernel$Foresight", "workOut", "(LSpeedKernel$Jobs;LSpeedKernel$Profile;LSpeedKernel$Reckoner;)V"⟩, prog_2_method_2_code, 8, none, 5)
theorem mc_Fo_workOut : MOK M_Fo_workOut 3 := ⟨zT_mk 1042 (by decide +kernel) (by decide +kernel), zT_mk 75 (by decide +kernel) (by decide +kernel), by decide +kernel⟩
theorem mv_Fo_workOut : MVV M_Fo_workOut := ⟨zT_mk 1040 (by decide +kernel) (by decide +kernel), zT_mk 1041 (by decide +kernel) (by decide +kernel)⟩
def M_Fo_isOpen : MI := (⟨"SpeedKernel$Foresight", "isOpen", "(LSpeedKernel$Jobs;II)Z"⟩, prog_2_method_3_code, 4, (some .boolean), 1)
theorem mc_Fo_isOpen : MOK M_Fo_isOpen 3 := ⟨zT_mk 1056 (by decide +kernel) (by decide +kernel), zT_mk 75 (by decide +kernel) (by decide +kernel), by decide +kernel⟩
theorem mv_Fo_isOpen : MVV M_Fo_isOpen := ⟨zT_mk 1055 (by decide +kernel) (by decide +kernel), zT_mk 18 (by decide +kernel) (by decide +kernel)⟩
def M_Fo_findDensest : MI := (⟨"SpeedKernel$Foresight", "findDensest", "(LSpeedKernel$Jobs;I)V"⟩, prog_2_method_4_code, 5, none, 2)
theorem mc_Fo_findDensest : MOK M_Fo_findDensest 2 := ⟨zT_mk 1052 (by decide +kernel) (by decide +kernel), zT_mk 75 (by decide +kernel) (by decide +kernel), by decide +kernel⟩
theorem mv_Fo_findDensest : MVV M_Fo_findDensest := ⟨zT_mk 1051 (by decide +kernel) (by decide +kernel), zT_mk 17 (by decide +kernel) (by decide +kernel)⟩
def M_Fo_setRate : MI := (⟨"SpeedKernel$Foresight", "setRate", "(I)V"⟩, prog_2_method_5_code, 2, none, 2)
theorem mc_Fo_setRate : MOK M_Fo_setRate 1 := ⟨zT_mk 1067 (by decide +kernel) (by decide +kernel), zT_mk 75 (by decide +kernel) (by decide +kernel), by decide +kernel⟩
theorem mv_Fo_setRate : MVV M_Fo_setRate := ⟨zT_mk 1066 (by decide +kernel) (by decide +kernel), zT_mk 19 (by decide +kernel) (by decide +kernel)⟩
def M_Fo_workOff : MI := (⟨"SpeedKernel$Foresight", "workOff", "(LSpeedKernel$Jobs;LSpeedKernel$Profile;II)V"⟩, prog_2_method_6_code, 10, none, 3)
theorem mc_Fo_workOff : MOK M_Fo_workOff 4 := ⟨zT_mk 1073 (by decide +kernel) (by decide +kernel), zT_mk 75 (by decide +kernel) (by decide +kernel), by decide +kernel⟩
theorem mv_Fo_workOff : MVV M_Fo_workOff := ⟨zT_mk 1072 (by decide +kernel) (by decide +kernel), zT_mk 20 (by decide +kernel) (by decide +kernel)⟩
def M_Fo_setEnd : MI := (⟨"SpeedKernel$Foresight", "setEnd", "(LSpeedKernel$Profile;II)V"⟩, prog_2_method_7_code, 5, none, 2)
theorem mc_Fo_setEnd : MOK M_Fo_setEnd 3 := ⟨zT_mk 1081 (by decide +kernel) (by decide +kernel), zT_mk 75 (by decide +kernel) (by decide +kernel), by decide +kernel⟩
theorem mv_Fo_setEnd : MVV M_Fo_setEnd := ⟨zT_mk 1080 (by decide +kernel) (by decide +kernel), zT_mk 21 (by decide +kernel) (by decide +kernel)⟩
def M_Fo_rescale : MI := (⟨"SpeedKernel$Foresight", "rescale", "(LSpeedKernel$Jobs;II)V"⟩, prog_2_method_8_code, 5, none, 2)
theorem mc_Fo_rescale : MOK M_Fo_rescale 3 := ⟨zT_mk 1085 (by decide +kernel) (by decide +kernel), zT_mk 75 (by decide +kernel) (by decide +kernel), by decide +kernel⟩
theorem mv_Fo_rescale : MVV M_Fo_rescale := ⟨zT_mk 1084 (by decide +kernel) (by decide +kernel), zT_mk 22 (by decide +kernel) (by decide +kernel)⟩
def M_Fr_init : MI := (⟨"SpeedKernel$Fraction", "<init>", "()V"⟩, prog_3_method_1_code, 1, none, 2)
theorem mc_Fr_init : MOK M_Fr_init 0 := ⟨zT_mk 172 (by decide +kernel) (by decide +kernel), zT_mk 71 (by decide +kernel) (by decide +kernel), by decide +kernel⟩
theorem mi_Fr_init : MII M_Fr_init := ⟨zT_mk 171 (by decide +kernel) (by decide +kernel), rfl⟩
def M_Fr_setSmall : MI := (⟨"SpeedKernel$Fraction", "setSmall", "(JJ)V"⟩, prog_3_method_2_code, 7, none, 1)
theorem mc_Fr_setSmall : MOK M_Fr_setSmall 2 := ⟨zT_mk 551 (by decide +kernel) (by decide +kernel), zT_mk 71 (by decide +kernel) (by decide +kernel), by decide +kernel⟩
theorem mv_Fr_setSmall : MVV M_Fr_setSmall := ⟨zT_mk 549 (by decide +kernel) (by decide +kernel), zT_mk 550 (by decide +kernel) (by decide +kernel)⟩
def M_Fr_copyFrom : MI := (⟨"SpeedKernel$Fraction", "copyFrom", "(LSpeedKernel$Fraction;)V"⟩, prog_3_method_3_code, 2, none, 2)
theorem mc_Fr_copyFrom : MOK M_Fr_copyFrom 1 := ⟨zT_mk 596 (by decide +kernel) (by decide +kernel), zT_mk 71 (by decide +kernel) (by decide +kernel), by decide +kernel⟩
theorem mv_Fr_copyFrom : MVV M_Fr_copyFrom := ⟨zT_mk 594 (by decide +kernel) (by decide +kernel), zT_mk 595 (by decide +kernel) (by decide +kernel)⟩
def M_Fr_isSame : MI := (⟨"SpeedKernel$Fraction", "isSame", "(LSpeedKernel$Fraction;)Z"⟩, prog_3_method_4_code, 2, (some .boolean), 1)
theorem mc_Fr_isSame : MOK M_Fr_isSame 1 := ⟨zT_mk 588 (by decide +kernel) (by decide +kernel), zT_mk 71 (by decide +kernel) (by decide +kernel), by decide +kernel⟩
theorem mv_Fr_isSame : MVV M_Fr_isSame := ⟨zT_mk 586 (by decide +kernel) (by decide +kernel), zT_mk 587 (by decide +kernel) (by decide +kernel)⟩
def M_Fr_asBinary : MI := (⟨"SpeedKernel$Fraction", "asBinary", "()D"⟩, prog_3_method_5_code, 3, (some .double), 1)
theorem mc_Fr_asBinary : MOK M_Fr_asBinary 0 := ⟨zT_mk 1152 (by decide +kernel) (by decide +kernel), zT_mk 71 (by decide +kernel) (by decide +kernel), by decide +kernel⟩
theorem mv_Fr_asBinary : MVV M_Fr_asBinary := ⟨zT_mk 1150 (by decide +kernel) (by decide +kernel), zT_mk 1151 (by decide +kernel) (by decide +kernel)⟩
def M_Jo_init : MI := (⟨"SpeedKernel$Jobs", "<init>", "()V"⟩, prog_4_method_1_code, 1, none, 1)
theorem mc_Jo_init : MOK M_Jo_init 0 := ⟨zT_mk 109 (by decide +kernel) (by decide +kernel), zT_mk 68 (by decide +kernel) (by decide +kernel), by decide +kernel⟩
theorem mi_Jo_init : MII M_Jo_init := ⟨zT_mk 108 (by decide +kernel) (by decide +kernel), rfl⟩
def M_Jo_has : MI := (⟨"SpeedKernel$Jobs", "has", "(I)Z"⟩, prog_4_method_2_code, 2, (some .boolean), 0)
theorem mc_Jo_has : MOK M_Jo_has 1 := ⟨zT_mk 508 (by decide +kernel) (by decide +kernel), zT_mk 68 (by decide +kernel) (by decide +kernel), by decide +kernel⟩
theorem mv_Jo_has : MVV M_Jo_has := ⟨zT_mk 506 (by decide +kernel) (by decide +kernel), zT_mk 507 (by decide +kernel) (by decide +kernel)⟩
def M_Jo_add : MI := (⟨"SpeedKernel$Jobs", "add", "(III)I"⟩, prog_4_method_3_code, 5, (some .int), 0)
theorem mc_Jo_add : MOK M_Jo_add 3 := ⟨zT_mk 466 (by decide +kernel) (by decide +kernel), zT_mk 68 (by decide +kernel) (by decide +kernel), by decide +kernel⟩
theorem mv_Jo_add : MVV M_Jo_add := ⟨zT_mk 464 (by decide +kernel) (by decide +kernel), zT_mk 465 (by decide +kernel) (by decide +kernel)⟩
def M_Jo_firstRelease : MI := (⟨"SpeedKernel$Jobs", "firstRelease", "()I"⟩, prog_4_method_4_code, 1, (some .int), 1)
theorem mc_Jo_firstRelease : MOK M_Jo_firstRelease 0 := ⟨zT_mk 569 (by decide +kernel) (by decide +kernel), zT_mk 68 (by decide +kernel) (by decide +kernel), by decide +kernel⟩
theorem mv_Jo_firstRelease : MVV M_Jo_firstRelease := ⟨zT_mk 567 (by decide +kernel) (by decide +kernel), zT_mk 568 (by decide +kernel) (by decide +kernel)⟩
def M_Jo_lastDeadline : MI := (⟨"SpeedKernel$Jobs", "lastDeadline", "()I"⟩, prog_4_method_5_code, 1, (some .int), 0)
theorem mc_Jo_lastDeadline : MOK M_Jo_lastDeadline 0 := ⟨zT_mk 562 (by decide +kernel) (by decide +kernel), zT_mk 68 (by decide +kernel) (by decide +kernel), by decide +kernel⟩
theorem mv_Jo_lastDeadline : MVV M_Jo_lastDeadline := ⟨zT_mk 560 (by decide +kernel) (by decide +kernel), zT_mk 561 (by decide +kernel) (by decide +kernel)⟩
def M_Jo_nextRelease : MI := (⟨"SpeedKernel$Jobs", "nextRelease", "(II)I"⟩, prog_4_method_6_code, 5, (some .int), 0)
theorem mc_Jo_nextRelease : MOK M_Jo_nextRelease 2 := ⟨zT_mk 573 (by decide +kernel) (by decide +kernel), zT_mk 68 (by decide +kernel) (by decide +kernel), by decide +kernel⟩
theorem mv_Jo_nextRelease : MVV M_Jo_nextRelease := ⟨zT_mk 571 (by decide +kernel) (by decide +kernel), zT_mk 572 (by decide +kernel) (by decide +kernel)⟩
def M_Jo_isWithin : MI := (⟨"SpeedKernel$Jobs", "isWithin", "(III)Z"⟩, prog_4_method_7_code, 4, (some .boolean), 1)
theorem mc_Jo_isWithin : MOK M_Jo_isWithin 3 := ⟨zT_mk 542 (by decide +kernel) (by decide +kernel), zT_mk 68 (by decide +kernel) (by decide +kernel), by decide +kernel⟩
theorem mv_Jo_isWithin : MVV M_Jo_isWithin := ⟨zT_mk 540 (by decide +kernel) (by decide +kernel), zT_mk 541 (by decide +kernel) (by decide +kernel)⟩
def M_Jo_workWithin : MI := (⟨"SpeedKernel$Jobs", "workWithin", "(II)I"⟩, prog_4_method_8_code, 5, (some .int), 2)
theorem mc_Jo_workWithin : MOK M_Jo_workWithin 2 := ⟨zT_mk 1174 (by decide +kernel) (by decide +kernel), zT_mk 68 (by decide +kernel) (by decide +kernel), by decide +kernel⟩
theorem mv_Jo_workWithin : MVV M_Jo_workWithin := ⟨zT_mk 1172 (by decide +kernel) (by decide +kernel), zT_mk 1173 (by decide +kernel) (by decide +kernel)⟩
def M_Jo_allWork : MI := (⟨"SpeedKernel$Jobs", "allWork", "()I"⟩, prog_4_method_9_code, 1, (some .int), 3)
theorem mc_Jo_allWork : MOK M_Jo_allWork 0 := ⟨zT_mk 1193 (by decide +kernel) (by decide +kernel), zT_mk 68 (by decide +kernel) (by decide +kernel), by decide +kernel⟩
theorem mv_Jo_allWork : MVV M_Jo_allWork := ⟨zT_mk 1191 (by decide +kernel) (by decide +kernel), zT_mk 1192 (by decide +kernel) (by decide +kernel)⟩
def M_Le_init : MI := (⟨"SpeedKernel$Levels", "<init>", "()V"⟩, prog_5_method_1_code, 1, none, 1)
theorem mc_Le_init : MOK M_Le_init 0 := ⟨zT_mk 148 (by decide +kernel) (by decide +kernel), zT_mk 69 (by decide +kernel) (by decide +kernel), by decide +kernel⟩
theorem mi_Le_init : MII M_Le_init := ⟨zT_mk 147 (by decide +kernel) (by decide +kernel), rfl⟩
def M_Le_has : MI := (⟨"SpeedKernel$Levels", "has", "(I)Z"⟩, prog_5_method_2_code, 2, (some .boolean), 0)
theorem mc_Le_has : MOK M_Le_has 1 := ⟨zT_mk 479 (by decide +kernel) (by decide +kernel), zT_mk 69 (by decide +kernel) (by decide +kernel), by decide +kernel⟩
theorem mv_Le_has : MVV M_Le_has := ⟨zT_mk 477 (by decide +kernel) (by decide +kernel), zT_mk 478 (by decide +kernel) (by decide +kernel)⟩
def M_Le_rateOf : MI := (⟨"SpeedKernel$Levels", "rateOf", "(I)I"⟩, prog_5_method_3_code, 2, (some .int), 1)
theorem mc_Le_rateOf : MOK M_Le_rateOf 1 := ⟨zT_mk 475 (by decide +kernel) (by decide +kernel), zT_mk 69 (by decide +kernel) (by decide +kernel), by decide +kernel⟩
theorem mv_Le_rateOf : MVV M_Le_rateOf := ⟨zT_mk 473 (by decide +kernel) (by decide +kernel), zT_mk 474 (by decide +kernel) (by decide +kernel)⟩
def M_Le_costOf : MI := (⟨"SpeedKernel$Levels", "costOf", "(I)I"⟩, prog_5_method_4_code, 2, (some .int), 1)
theorem mc_Le_costOf : MOK M_Le_costOf 1 := ⟨zT_mk 495 (by decide +kernel) (by decide +kernel), zT_mk 69 (by decide +kernel) (by decide +kernel), by decide +kernel⟩
theorem mv_Le_costOf : MVV M_Le_costOf := ⟨zT_mk 493 (by decide +kernel) (by decide +kernel), zT_mk 494 (by decide +kernel) (by decide +kernel)⟩
def M_Le_add : MI := (⟨"SpeedKernel$Levels", "add", "(II)I"⟩, prog_5_method_5_code, 3, (some .int), 0)
theorem mc_Le_add : MOK M_Le_add 2 := ⟨zT_mk 483 (by decide +kernel) (by decide +kernel), zT_mk 69 (by decide +kernel) (by decide +kernel), by decide +kernel⟩
theorem mv_Le_add : MVV M_Le_add := ⟨zT_mk 481 (by decide +kernel) (by decide +kernel), zT_mk 482 (by decide +kernel) (by decide +kernel)⟩
def M_Le_leastFor : MI := (⟨"SpeedKernel$Levels", "leastFor", "(II)I"⟩, prog_5_method_6_code, 4, (some .int), 2)
theorem mc_Le_leastFor : MOK M_Le_leastFor 2 := ⟨zT_mk 1237 (by decide +kernel) (by decide +kernel), zT_mk 69 (by decide +kernel) (by decide +kernel), by decide +kernel⟩
theorem mv_Le_leastFor : MVV M_Le_leastFor := ⟨zT_mk 1235 (by decide +kernel) (by decide +kernel), zT_mk 1236 (by decide +kernel) (by decide +kernel)⟩
def M_Le_areConvex : MI := (⟨"SpeedKernel$Levels", "areConvex", "()Z"⟩, prog_5_method_7_code, 10, (some .boolean), 2)
theorem mc_Le_areConvex : MOK M_Le_areConvex 0 := ⟨zT_mk 491 (by decide +kernel) (by decide +kernel), zT_mk 69 (by decide +kernel) (by decide +kernel), by decide +kernel⟩
theorem mv_Le_areConvex : MVV M_Le_areConvex := ⟨zT_mk 489 (by decide +kernel) (by decide +kernel), zT_mk 490 (by decide +kernel) (by decide +kernel)⟩
def M_Na_init : MI := (⟨"SpeedKernel$Natural", "<init>", "()V"⟩, prog_6_method_1_code, 1, none, 1)
theorem mc_Na_init : MOK M_Na_init 0 := ⟨zT_mk 178 (by decide +kernel) (by decide +kernel), zT_mk 72 (by decide +kernel) (by decide +kernel), by decide +kernel⟩
theorem mi_Na_init : MII M_Na_init := ⟨zT_mk 177 (by decide +kernel) (by decide +kernel), rfl⟩
def M_Na_isZero : MI := (⟨"SpeedKernel$Natural", "isZero", "()Z"⟩, prog_6_method_2_code, 1, (some .boolean), 0)
theorem mc_Na_isZero : MOK M_Na_isZero 0 := ⟨zT_mk 633 (by decide +kernel) (by decide +kernel), zT_mk 72 (by decide +kernel) (by decide +kernel), by decide +kernel⟩
theorem mv_Na_isZero : MVV M_Na_isZero := ⟨zT_mk 631 (by decide +kernel) (by decide +kernel), zT_mk 632 (by decide +kernel) (by decide +kernel)⟩
def M_Na_isOne : MI := (⟨"SpeedKernel$Natural", "isOne", "()Z"⟩, prog_6_method_3_code, 1, (some .boolean), 0)
theorem mc_Na_isOne : MOK M_Na_isOne 0 := ⟨zT_mk 1034 (by decide +kernel) (by decide +kernel), zT_mk 72 (by decide +kernel) (by decide +kernel), by decide +kernel⟩
theorem mv_Na_isOne : MVV M_Na_isOne := ⟨zT_mk 1032 (by decide +kernel) (by decide +kernel), zT_mk 1033 (by decide +kernel) (by decide +kernel)⟩
def M_Na_fitsLong : MI := (⟨"SpeedKernel$Natural", "fitsLong", "()Z"⟩, prog_6_method_4_code, 1, (some .boolean), 0)
theorem mc_Na_fitsLong : MOK M_Na_fitsLong 0 := ⟨zT_mk 637 (by decide +kernel) (by decide +kernel), zT_mk 72 (by decide +kernel) (by decide +kernel), by decide +kernel⟩
theorem mv_Na_fitsLong : MVV M_Na_fitsLong := ⟨zT_mk 635 (by decide +kernel) (by decide +kernel), zT_mk 636 (by decide +kernel) (by decide +kernel)⟩
def M_Na_asLong : MI := (⟨"SpeedKernel$Natural", "asLong", "()J"⟩, prog_6_method_5_code, 5, (some .long), 0)
theorem mc_Na_asLong : MOK M_Na_asLong 0 := ⟨zT_mk 641 (by decide +kernel) (by decide +kernel), zT_mk 72 (by decide +kernel) (by decide +kernel), by decide +kernel⟩
theorem mv_Na_asLong : MVV M_Na_asLong := ⟨zT_mk 639 (by decide +kernel) (by decide +kernel), zT_mk 640 (by decide +kernel) (by decide +kernel)⟩
def M_Na_setSmall : MI := (⟨"SpeedKernel$Natural", "setSmall", "(J)V"⟩, prog_6_method_6_code, 5, none, 0)
theorem mc_Na_setSmall : MOK M_Na_setSmall 1 := ⟨zT_mk 190 (by decide +kernel) (by decide +kernel), zT_mk 72 (by decide +kernel) (by decide +kernel), by decide +kernel⟩
theorem mv_Na_setSmall : MVV M_Na_setSmall := ⟨zT_mk 188 (by decide +kernel) (by decide +kernel), zT_mk 189 (by decide +kernel) (by decide +kernel)⟩
def M_Na_copyFrom : MI := (⟨"SpeedKernel$Natural", "copyFrom", "(LSpeedKernel$Natural;)V"⟩, prog_6_method_7_code, 2, none, 1)
theorem mc_Na_copyFrom : MOK M_Na_copyFrom 1 := ⟨zT_mk 600 (by decide +kernel) (by decide +kernel), zT_mk 72 (by decide +kernel) (by decide +kernel), by decide +kernel⟩
theorem mv_Na_copyFrom : MVV M_Na_copyFrom := ⟨zT_mk 598 (by decide +kernel) (by decide +kernel), zT_mk 599 (by decide +kernel) (by decide +kernel)⟩
def M_Na_order : MI := (⟨"SpeedKernel$Natural", "order", "(LSpeedKernel$Natural;)I"⟩, prog_6_method_8_code, 3, (some .int), 0)
theorem mc_Na_order : MOK M_Na_order 1 := ⟨zT_mk 592 (by decide +kernel) (by decide +kernel), zT_mk 72 (by decide +kernel) (by decide +kernel), by decide +kernel⟩
theorem mv_Na_order : MVV M_Na_order := ⟨zT_mk 590 (by decide +kernel) (by decide +kernel), zT_mk 591 (by decide +kernel) (by decide +kernel)⟩
def M_Na_add : MI := (⟨"SpeedKernel$Natural", "add", "(LSpeedKernel$Natural;)V"⟩, prog_6_method_9_code, 10, none, 1)
theorem mc_Na_add : MOK M_Na_add 1 := ⟨zT_mk 1025 (by decide +kernel) (by decide +kernel), zT_mk 72 (by decide +kernel) (by decide +kernel), by decide +kernel⟩
theorem mv_Na_add : MVV M_Na_add := ⟨zT_mk 1023 (by decide +kernel) (by decide +kernel), zT_mk 1024 (by decide +kernel) (by decide +kernel)⟩
def M_Na_takeOff : MI := (⟨"SpeedKernel$Natural", "takeOff", "(LSpeedKernel$Natural;)V"⟩, prog_6_method_10_code, 9, none, 1)
theorem mc_Na_takeOff : MOK M_Na_takeOff 1 := ⟨zT_mk 1077 (by decide +kernel) (by decide +kernel), zT_mk 72 (by decide +kernel) (by decide +kernel), by decide +kernel⟩
theorem mv_Na_takeOff : MVV M_Na_takeOff := ⟨zT_mk 1075 (by decide +kernel) (by decide +kernel), zT_mk 1076 (by decide +kernel) (by decide +kernel)⟩
def M_Na_times : MI := (⟨"SpeedKernel$Natural", "times", "(I)V"⟩, prog_6_method_11_code, 5, none, 1)
theorem mc_Na_times : MOK M_Na_times 1 := ⟨zT_mk 1021 (by decide +kernel) (by decide +kernel), zT_mk 72 (by decide +kernel) (by decide +kernel), by decide +kernel⟩
theorem mv_Na_times : MVV M_Na_times := ⟨zT_mk 1019 (by decide +kernel) (by decide +kernel), zT_mk 1020 (by decide +kernel) (by decide +kernel)⟩
def M_Na_setProduct : MI := (⟨"SpeedKernel$Natural", "setProduct", "(LSpeedKernel$Natural;LSpeedKernel$Natural;)V"⟩, prog_6_method_12_code, 10, none, 2)
theorem mc_Na_setProduct : MOK M_Na_setProduct 2 := ⟨zT_mk 686 (by decide +kernel) (by decide +kernel), zT_mk 72 (by decide +kernel) (by decide +kernel), by decide +kernel⟩
theorem mv_Na_setProduct : MVV M_Na_setProduct := ⟨zT_mk 684 (by decide +kernel) (by decide +kernel), zT_mk 685 (by decide +kernel) (by decide +kernel)⟩
def M_Na_divideSmall : MI := (⟨"SpeedKernel$Natural", "divideSmall", "(I)I"⟩, prog_6_method_13_code, 5, (some .int), 1)
theorem mc_Na_divideSmall : MOK M_Na_divideSmall 1 := ⟨zT_mk 652 (by decide +kernel) (by decide +kernel), zT_mk 72 (by decide +kernel) (by decide +kernel), by decide +kernel⟩
theorem mv_Na_divideSmall : MVV M_Na_divideSmall := ⟨zT_mk 650 (by decide +kernel) (by decide +kernel), zT_mk 651 (by decide +kernel) (by decide +kernel)⟩
def M_Na_divideBy : MI := (⟨"SpeedKernel$Natural", "divideBy", "(LSpeedKernel$Natural;LSpeedKernel$Natural;LSpeedKernel$Natural;)V"⟩, prog_6_method_14_code, 7, none, 2)
theorem mc_Na_divideBy : MOK M_Na_divideBy 3 := ⟨zT_mk 646 (by decide +kernel) (by decide +kernel), zT_mk 72 (by decide +kernel) (by decide +kernel), by decide +kernel⟩
theorem mv_Na_divideBy : MVV M_Na_divideBy := ⟨zT_mk 644 (by decide +kernel) (by decide +kernel), zT_mk 645 (by decide +kernel) (by decide +kernel)⟩
def M_Na_takeMultiple : MI := (⟨"SpeedKernel$Natural", "takeMultiple", "(LSpeedKernel$Natural;I)J"⟩, prog_6_method_15_code, 11, (some .long), 1)
theorem mc_Na_takeMultiple : MOK M_Na_takeMultiple 2 := ⟨zT_mk 674 (by decide +kernel) (by decide +kernel), zT_mk 72 (by decide +kernel) (by decide +kernel), by decide +kernel⟩
theorem mv_Na_takeMultiple : MVV M_Na_takeMultiple := ⟨zT_mk 673 (by decide +kernel) (by decide +kernel), zT_mk 13 (by decide +kernel) (by decide +kernel)⟩
def M_Na_guessMultiple : MI := (⟨"SpeedKernel$Natural", "guessMultiple", "(LSpeedKernel$Natural;I)J"⟩, prog_6_method_16_code, 14, (some .long), 0)
theorem mc_Na_guessMultiple : MOK M_Na_guessMultiple 2 := ⟨zT_mk 678 (by decide +kernel) (by decide +kernel), zT_mk 72 (by decide +kernel) (by decide +kernel), by decide +kernel⟩
theorem mv_Na_guessMultiple : MVV M_Na_guessMultiple := ⟨zT_mk 677 (by decide +kernel) (by decide +kernel), zT_mk 14 (by decide +kernel) (by decide +kernel)⟩
def M_Na_freeBits : MI := (⟨"SpeedKernel$Natural", "freeBits", "()I"⟩, prog_6_method_17_code, 3, (some .int), 0)
theorem mc_Na_freeBits : MOK M_Na_freeBits 0 := ⟨zT_mk 661 (by decide +kernel) (by decide +kernel), zT_mk 72 (by decide +kernel) (by decide +kernel), by decide +kernel⟩
theorem mv_Na_freeBits : MVV M_Na_freeBits := ⟨zT_mk 660 (by decide +kernel) (by decide +kernel), zT_mk 10 (by decide +kernel) (by decide +kernel)⟩
def M_Na_shiftUp : MI := (⟨"SpeedKernel$Natural", "shiftUp", "(I)V"⟩, prog_6_method_18_code, 5, none, 1)
theorem mc_Na_shiftUp : MOK M_Na_shiftUp 1 := ⟨zT_mk 666 (by decide +kernel) (by decide +kernel), zT_mk 72 (by decide +kernel) (by decide +kernel), by decide +kernel⟩
theorem mv_Na_shiftUp : MVV M_Na_shiftUp := ⟨zT_mk 665 (by decide +kernel) (by decide +kernel), zT_mk 11 (by decide +kernel) (by decide +kernel)⟩
def M_Na_shiftDown : MI := (⟨"SpeedKernel$Natural", "shiftDown", "(I)V"⟩, prog_6_method_19_code, 5, none, 1)
theorem mc_Na_shiftDown : MOK M_Na_shiftDown 1 := ⟨zT_mk 682 (by decide +kernel) (by decide +kernel), zT_mk 72 (by decide +kernel) (by decide +kernel), by decide +kernel⟩
theorem mv_Na_shiftDown : MVV M_Na_shiftDown := ⟨zT_mk 681 (by decide +kernel) (by decide +kernel), zT_mk 15 (by decide +kernel) (by decide +kernel)⟩
def M_Na_push : MI := (⟨"SpeedKernel$Natural", "push", "(J)V"⟩, prog_6_method_20_code, 3, none, 0)
theorem mc_Na_push : MOK M_Na_push 1 := ⟨zT_mk 670 (by decide +kernel) (by decide +kernel), zT_mk 72 (by decide +kernel) (by decide +kernel), by decide +kernel⟩
theorem mv_Na_push : MVV M_Na_push := ⟨zT_mk 669 (by decide +kernel) (by decide +kernel), zT_mk 12 (by decide +kernel) (by decide +kernel)⟩
def M_Na_trim : MI := (⟨"SpeedKernel$Natural", "trim", "()V"⟩, prog_6_method_21_code, 1, none, 0)
theorem mc_Na_trim : MOK M_Na_trim 0 := ⟨zT_mk 656 (by decide +kernel) (by decide +kernel), zT_mk 72 (by decide +kernel) (by decide +kernel), by decide +kernel⟩
theorem mv_Na_trim : MVV M_Na_trim := ⟨zT_mk 655 (by decide +kernel) (by decide +kernel), zT_mk 9 (by decide +kernel) (by decide +kernel)⟩
def M_Pl_init : MI := (⟨"SpeedKernel$Planner", "<init>", "()V"⟩, prog_7_method_1_code, 2, none, 3)
theorem mc_Pl_init : MOK M_Pl_init 0 := ⟨zT_mk 288 (by decide +kernel) (by decide +kernel), zT_mk 74 (by decide +kernel) (by decide +kernel), by decide +kernel⟩
theorem mi_Pl_init : MII M_Pl_init := ⟨zT_mk 287 (by decide +kernel) (by decide +kernel), rfl⟩
def M_Pl_workOut : MI := (⟨"SpeedKernel$Planner", "workOut", "(LSpeedKernel$Jobs;LSpeedKernel$Profile;)V"⟩, prog_7_method_2_code, 3, none, 5)
theorem mc_Pl_workOut : MOK M_Pl_workOut 2 := ⟨zT_mk 518 (by decide +kernel) (by decide +kernel), zT_mk 74 (by decide +kernel) (by decide +kernel), by decide +kernel⟩
theorem mv_Pl_workOut : MVV M_Pl_workOut := ⟨zT_mk 516 (by decide +kernel) (by decide +kernel), zT_mk 517 (by decide +kernel) (by decide +kernel)⟩
def M_Pl_hasGroup : MI := (⟨"SpeedKernel$Planner", "hasGroup", "(I)Z"⟩, prog_7_method_3_code, 2, (some .boolean), 0)
theorem mc_Pl_hasGroup : MOK M_Pl_hasGroup 1 := ⟨zT_mk 580 (by decide +kernel) (by decide +kernel), zT_mk 74 (by decide +kernel) (by decide +kernel), by decide +kernel⟩
theorem mv_Pl_hasGroup : MVV M_Pl_hasGroup := ⟨zT_mk 578 (by decide +kernel) (by decide +kernel), zT_mk 579 (by decide +kernel) (by decide +kernel)⟩
def M_Pl_groupOf : MI := (⟨"SpeedKernel$Planner", "groupOf", "(I)I"⟩, prog_7_method_4_code, 2, (some .int), 0)
theorem mc_Pl_groupOf : MOK M_Pl_groupOf 1 := ⟨zT_mk 615 (by decide +kernel) (by decide +kernel), zT_mk 74 (by decide +kernel) (by decide +kernel), by decide +kernel⟩
theorem mv_Pl_groupOf : MVV M_Pl_groupOf := ⟨zT_mk 613 (by decide +kernel) (by decide +kernel), zT_mk 614 (by decide +kernel) (by decide +kernel)⟩
def M_Pl_rateOf : MI := (⟨"SpeedKernel$Planner", "rateOf", "(I)LSpeedKernel$Fraction;"⟩, prog_7_method_5_code, 3, (some (.object "SpeedKernel$Fraction")), 1)
theorem mc_Pl_rateOf : MOK M_Pl_rateOf 1 := ⟨zT_mk 1101 (by decide +kernel) (by decide +kernel), zT_mk 74 (by decide +kernel) (by decide +kernel), by decide +kernel⟩
theorem mv_Pl_rateOf : MVV M_Pl_rateOf := ⟨zT_mk 1099 (by decide +kernel) (by decide +kernel), zT_mk 1100 (by decide +kernel) (by decide +kernel)⟩
def M_Pl_findGroups : MI := (⟨"SpeedKernel$Planner", "findGroups", "(LSpeedKernel$Jobs;)V"⟩, prog_7_method_6_code, 3, none, 4)
theorem mc_Pl_findGroups : MOK M_Pl_findGroups 1 := ⟨zT_mk 529 (by decide +kernel) (by decide +kernel), zT_mk 74 (by decide +kernel) (by decide +kernel), by decide +kernel⟩
theorem mv_Pl_findGroups : MVV M_Pl_findGroups := ⟨zT_mk 528 (by decide +kernel) (by decide +kernel), zT_mk 1 (by decide +kernel) (by decide +kernel)⟩
def M_Pl_findDensest : MI := (⟨"SpeedKernel$Planner", "findDensest", "(LSpeedKernel$Jobs;)V"⟩, prog_7_method_7_code, 4, none, 3)
theorem mc_Pl_findDensest : MOK M_Pl_findDensest 1 := ⟨zT_mk 534 (by decide +kernel) (by decide +kernel), zT_mk 74 (by decide +kernel) (by decide +kernel), by decide +kernel⟩
theorem mv_Pl_findDensest : MVV M_Pl_findDensest := ⟨zT_mk 533 (by decide +kernel) (by decide +kernel), zT_mk 2 (by decide +kernel) (by decide +kernel)⟩
def M_Pl_tryBetween : MI := (⟨"SpeedKernel$Planner", "tryBetween", "(LSpeedKernel$Jobs;II)V"⟩, prog_7_method_8_code, 7, none, 2)
theorem mc_Pl_tryBetween : MOK M_Pl_tryBetween 3 := ⟨zT_mk 538 (by decide +kernel) (by decide +kernel), zT_mk 74 (by decide +kernel) (by decide +kernel), by decide +kernel⟩
theorem mv_Pl_tryBetween : MVV M_Pl_tryBetween := ⟨zT_mk 537 (by decide +kernel) (by decide +kernel), zT_mk 3 (by decide +kernel) (by decide +kernel)⟩
def M_Pl_takeDensest : MI := (⟨"SpeedKernel$Planner", "takeDensest", "(LSpeedKernel$Jobs;)V"⟩, prog_7_method_9_code, 3, none, 2)
theorem mc_Pl_takeDensest : MOK M_Pl_takeDensest 1 := ⟨zT_mk 547 (by decide +kernel) (by decide +kernel), zT_mk 74 (by decide +kernel) (by decide +kernel), by decide +kernel⟩
theorem mv_Pl_takeDensest : MVV M_Pl_takeDensest := ⟨zT_mk 546 (by decide +kernel) (by decide +kernel), zT_mk 4 (by decide +kernel) (by decide +kernel)⟩
def M_Pl_layOutSteps : MI := (⟨"SpeedKernel$Planner", "layOutSteps", "(LSpeedKernel$Jobs;LSpeedKernel$Profile;)V"⟩, prog_7_method_10_code, 7, none, 4)
theorem mc_Pl_layOutSteps : MOK M_Pl_layOutSteps 2 := ⟨zT_mk 558 (by decide +kernel) (by decide +kernel), zT_mk 74 (by decide +kernel) (by decide +kernel), by decide +kernel⟩
theorem mv_Pl_layOutSteps : MVV M_Pl_layOutSteps := ⟨zT_mk 557 (by decide +kernel) (by decide +kernel), zT_mk 5 (by decide +kernel) (by decide +kernel)⟩
def M_Pl_workOff : MI := (⟨"SpeedKernel$Planner", "workOff", "(LSpeedKernel$Jobs;LSpeedKernel$Profile;)V"⟩, prog_7_method_11_code, 4, none, 3)
theorem mc_Pl_workOff : MOK M_Pl_workOff 2 := ⟨zT_mk 607 (by decide +kernel) (by decide +kernel), zT_mk 74 (by decide +kernel) (by decide +kernel), by decide +kernel⟩
theorem mv_Pl_workOff : MVV M_Pl_workOff := ⟨zT_mk 606 (by decide +kernel) (by decide +kernel), zT_mk 6 (by decide +kernel) (by decide +kernel)⟩
def M_Pl_workOffAt : MI := (⟨"SpeedKernel$Planner", "workOffAt", "(LSpeedKernel$Jobs;LSpeedKernel$Profile;II)V"⟩, prog_7_method_12_code, 10, none, 2)
theorem mc_Pl_workOffAt : MOK M_Pl_workOffAt 4 := ⟨zT_mk 611 (by decide +kernel) (by decide +kernel), zT_mk 74 (by decide +kernel) (by decide +kernel), by decide +kernel⟩
theorem mv_Pl_workOffAt : MVV M_Pl_workOffAt := ⟨zT_mk 610 (by decide +kernel) (by decide +kernel), zT_mk 7 (by decide +kernel) (by decide +kernel)⟩
def M_Pr_init : MI := (⟨"SpeedKernel$Profile", "<init>", "()V"⟩, prog_8_method_1_code, 2, none, 3)
theorem mc_Pr_init : MOK M_Pr_init 0 := ⟨zT_mk 165 (by decide +kernel) (by decide +kernel), zT_mk 70 (by decide +kernel) (by decide +kernel), by decide +kernel⟩
theorem mi_Pr_init : MII M_Pr_init := ⟨zT_mk 164 (by decide +kernel) (by decide +kernel), rfl⟩
def M_Pr_empty : MI := (⟨"SpeedKernel$Profile", "empty", "()V"⟩, prog_8_method_2_code, 1, none, 1)
theorem mc_Pr_empty : MOK M_Pr_empty 0 := ⟨zT_mk 522 (by decide +kernel) (by decide +kernel), zT_mk 70 (by decide +kernel) (by decide +kernel), by decide +kernel⟩
theorem mv_Pr_empty : MVV M_Pr_empty := ⟨zT_mk 520 (by decide +kernel) (by decide +kernel), zT_mk 521 (by decide +kernel) (by decide +kernel)⟩
def M_Pr_hasStep : MI := (⟨"SpeedKernel$Profile", "hasStep", "(I)Z"⟩, prog_8_method_3_code, 2, (some .boolean), 0)
theorem mc_Pr_hasStep : MOK M_Pr_hasStep 1 := ⟨zT_mk 1097 (by decide +kernel) (by decide +kernel), zT_mk 70 (by decide +kernel) (by decide +kernel), by decide +kernel⟩
theorem mv_Pr_hasStep : MVV M_Pr_hasStep := ⟨zT_mk 1095 (by decide +kernel) (by decide +kernel), zT_mk 1096 (by decide +kernel) (by decide +kernel)⟩
def M_Pr_append : MI := (⟨"SpeedKernel$Profile", "append", "(IILSpeedKernel$Fraction;)V"⟩, prog_8_method_4_code, 4, none, 3)
theorem mc_Pr_append : MOK M_Pr_append 3 := ⟨zT_mk 584 (by decide +kernel) (by decide +kernel), zT_mk 70 (by decide +kernel) (by decide +kernel), by decide +kernel⟩
theorem mv_Pr_append : MVV M_Pr_append := ⟨zT_mk 582 (by decide +kernel) (by decide +kernel), zT_mk 583 (by decide +kernel) (by decide +kernel)⟩
def M_Pr_lengthWithin : MI := (⟨"SpeedKernel$Profile", "lengthWithin", "(III)I"⟩, prog_8_method_5_code, 4, (some .int), 1)
theorem mc_Pr_lengthWithin : MOK M_Pr_lengthWithin 3 := ⟨zT_mk 1187 (by decide +kernel) (by decide +kernel), zT_mk 70 (by decide +kernel) (by decide +kernel), by decide +kernel⟩
theorem mv_Pr_lengthWithin : MVV M_Pr_lengthWithin := ⟨zT_mk 1185 (by decide +kernel) (by decide +kernel), zT_mk 1186 (by decide +kernel) (by decide +kernel)⟩
def M_Re_init : MI := (⟨"SpeedKernel$Reckoner", "<init>", "()V"⟩, prog_9_method_1_code, 2, none, 2)
theorem mc_Re_init : MOK M_Re_init 0 := ⟨zT_mk 251 (by decide +kernel) (by decide +kernel), zT_mk 73 (by decide +kernel) (by decide +kernel), by decide +kernel⟩
theorem mi_Re_init : MII M_Re_init := ⟨zT_mk 250 (by decide +kernel) (by decide +kernel), rfl⟩
def M_Re_order : MI := (⟨"SpeedKernel$Reckoner", "order", "(LSpeedKernel$Fraction;LSpeedKernel$Fraction;)I"⟩, prog_9_method_2_code, 3, (some .int), 3)
theorem mc_Re_order : MOK M_Re_order 2 := ⟨zT_mk 1139 (by decide +kernel) (by decide +kernel), zT_mk 73 (by decide +kernel) (by decide +kernel), by decide +kernel⟩
theorem mv_Re_order : MVV M_Re_order := ⟨zT_mk 1137 (by decide +kernel) (by decide +kernel), zT_mk 1138 (by decide +kernel) (by decide +kernel)⟩
def M_Re_lower : MI := (⟨"SpeedKernel$Reckoner", "lower", "(LSpeedKernel$Fraction;)V"⟩, prog_9_method_3_code, 3, none, 4)
theorem mc_Re_lower : MOK M_Re_lower 1 := ⟨zT_mk 1030 (by decide +kernel) (by decide +kernel), zT_mk 73 (by decide +kernel) (by decide +kernel), by decide +kernel⟩
theorem mv_Re_lower : MVV M_Re_lower := ⟨zT_mk 1028 (by decide +kernel) (by decide +kernel), zT_mk 1029 (by decide +kernel) (by decide +kernel)⟩
def M_Re_commonOf : MI := (⟨"SpeedKernel$Reckoner", "commonOf", "(LSpeedKernel$Natural;LSpeedKernel$Natural;)LSpeedKernel$Natural;"⟩, prog_9_method_4_code, 7, (some (.object "SpeedKernel$Natural")), 3)
theorem mc_Re_commonOf : MOK M_Re_commonOf 2 := ⟨zT_mk 628 (by decide +kernel) (by decide +kernel), zT_mk 73 (by decide +kernel) (by decide +kernel), by decide +kernel⟩
theorem mv_Re_commonOf : MVV M_Re_commonOf := ⟨zT_mk 627 (by decide +kernel) (by decide +kernel), zT_mk 8 (by decide +kernel) (by decide +kernel)⟩
def M_Re_add : MI := (⟨"SpeedKernel$Reckoner", "add", "(LSpeedKernel$Fraction;JI)V"⟩, prog_9_method_5_code, 5, none, 3)
theorem mc_Re_add : MOK M_Re_add 3 := ⟨zT_mk 1247 (by decide +kernel) (by decide +kernel), zT_mk 73 (by decide +kernel) (by decide +kernel), by decide +kernel⟩
theorem mv_Re_add : MVV M_Re_add := ⟨zT_mk 1245 (by decide +kernel) (by decide +kernel), zT_mk 1246 (by decide +kernel) (by decide +kernel)⟩
def M_Re_shareOut : MI := (⟨"SpeedKernel$Reckoner", "shareOut", "(LSpeedKernel$Profile;)V"⟩, prog_9_method_6_code, 5, none, 4)
theorem mc_Re_shareOut : MOK M_Re_shareOut 1 := ⟨zT_mk 623 (by decide +kernel) (by decide +kernel), zT_mk 73 (by decide +kernel) (by decide +kernel), by decide +kernel⟩
theorem mv_Re_shareOut : MVV M_Re_shareOut := ⟨zT_mk 621 (by decide +kernel) (by decide +kernel), zT_mk 622 (by decide +kernel) (by decide +kernel)⟩
def M_Re_reckonCost : MI := (⟨"SpeedKernel$Reckoner", "reckonCost", "(LSpeedKernel$Profile;)V"⟩, prog_9_method_7_code, 3, none, 5)
theorem mc_Re_reckonCost : MOK M_Re_reckonCost 1 := ⟨zT_mk 619 (by decide +kernel) (by decide +kernel), zT_mk 73 (by decide +kernel) (by decide +kernel), by decide +kernel⟩
theorem mv_Re_reckonCost : MVV M_Re_reckonCost := ⟨zT_mk 617 (by decide +kernel) (by decide +kernel), zT_mk 618 (by decide +kernel) (by decide +kernel)⟩
def M_Re_orderOfWork : MI := (⟨"SpeedKernel$Reckoner", "orderOfWork", "(LSpeedKernel$Profile;III)I"⟩, prog_9_method_8_code, 7, (some .int), 2)
theorem mc_Re_orderOfWork : MOK M_Re_orderOfWork 4 := ⟨zT_mk 1183 (by decide +kernel) (by decide +kernel), zT_mk 73 (by decide +kernel) (by decide +kernel), by decide +kernel⟩
theorem mv_Re_orderOfWork : MVV M_Re_orderOfWork := ⟨zT_mk 1182 (by decide +kernel) (by decide +kernel), zT_mk 28 (by decide +kernel) (by decide +kernel)⟩
def M_Re_doesEnough : MI := (⟨"SpeedKernel$Reckoner", "doesEnough", "(LSpeedKernel$Profile;III)Z"⟩, prog_9_method_9_code, 5, (some .boolean), 3)
theorem mc_Re_doesEnough : MOK M_Re_doesEnough 4 := ⟨zT_mk 1179 (by decide +kernel) (by decide +kernel), zT_mk 73 (by decide +kernel) (by decide +kernel), by decide +kernel⟩
theorem mv_Re_doesEnough : MVV M_Re_doesEnough := ⟨zT_mk 1177 (by decide +kernel) (by decide +kernel), zT_mk 1178 (by decide +kernel) (by decide +kernel)⟩
def M_Re_doesJust : MI := (⟨"SpeedKernel$Reckoner", "doesJust", "(LSpeedKernel$Profile;I)Z"⟩, prog_9_method_10_code, 3, (some .boolean), 3)
theorem mc_Re_doesJust : MOK M_Re_doesJust 2 := ⟨zT_mk 1198 (by decide +kernel) (by decide +kernel), zT_mk 73 (by decide +kernel) (by decide +kernel), by decide +kernel⟩
theorem mv_Re_doesJust : MVV M_Re_doesJust := ⟨zT_mk 1196 (by decide +kernel) (by decide +kernel), zT_mk 1197 (by decide +kernel) (by decide +kernel)⟩
def M_Sp_init : MI := (⟨"SpeedKernel$Splitter", "<init>", "()V"⟩, prog_10_method_1_code, 2, none, 3)
theorem mc_Sp_init : MOK M_Sp_init 0 := ⟨zT_mk 376 (by decide +kernel) (by decide +kernel), zT_mk 76 (by decide +kernel) (by decide +kernel), by decide +kernel⟩
theorem mi_Sp_init : MII M_Sp_init := ⟨zT_mk 375 (by decide +kernel) (by decide +kernel), rfl⟩
def M_Sp_workOut : MI := (⟨"SpeedKernel$Splitter", "workOut", "(LSpeedKernel$Jobs;LSpeedKernel$Levels;LSpeedKernel$Planner;LSpeedKernel$Reckoner;)Z"⟩, prog_10_method_2_code, 7, (some .boolean), 5)
theorem mc_Sp_workOut : MOK M_Sp_workOut 4 := ⟨zT_mk 1231 (by decide +kernel) (by decide +kernel), zT_mk 76 (by decide +kernel) (by decide +kernel), by decide +kernel⟩
theorem mv_Sp_workOut : MVV M_Sp_workOut := ⟨zT_mk 1229 (by decide +kernel) (by decide +kernel), zT_mk 1230 (by decide +kernel) (by decide +kernel)⟩
def M_Sp_splitGroup : MI := (⟨"SpeedKernel$Splitter", "splitGroup", "(LSpeedKernel$Planner;ILSpeedKernel$Jobs;LSpeedKernel$Levels;ILSpeedKernel$Reckoner;)V"⟩, prog_10_method_3_code, 18, none, 4)
theorem mc_Sp_splitGroup : MOK M_Sp_splitGroup 6 := ⟨zT_mk 1241 (by decide +kernel) (by decide +kernel), zT_mk 76 (by decide +kernel) (by decide +kernel), by decide +kernel⟩
theorem mv_Sp_splitGroup : MVV M_Sp_splitGroup := ⟨zT_mk 1240 (by decide +kernel) (by decide +kernel), zT_mk 29 (by decide +kernel) (by decide +kernel)⟩
def M_Te_init : MI := (⟨"SpeedKernel$Text", "<init>", "()V"⟩, prog_11_method_1_code, 1, none, 2)
theorem mc_Te_init : MOK M_Te_init 0 := ⟨zT_mk 409 (by decide +kernel) (by decide +kernel), zT_mk 77 (by decide +kernel) (by decide +kernel), by decide +kernel⟩
theorem mi_Te_init : MII M_Te_init := ⟨zT_mk 408 (by decide +kernel) (by decide +kernel), rfl⟩
def M_Te_at : MI := (⟨"SpeedKernel$Text", "at", "(I)I"⟩, prog_11_method_2_code, 2, (some .int), 0)
theorem mc_Te_at : MOK M_Te_at 1 := ⟨zT_mk 1131 (by decide +kernel) (by decide +kernel), zT_mk 77 (by decide +kernel) (by decide +kernel), by decide +kernel⟩
theorem mv_Te_at : MVV M_Te_at := ⟨zT_mk 1129 (by decide +kernel) (by decide +kernel), zT_mk 1130 (by decide +kernel) (by decide +kernel)⟩
def M_Te_write : MI := (⟨"SpeedKernel$Text", "write", "(LSpeedKernel$Fraction;)I"⟩, prog_11_method_3_code, 2, (some .int), 3)
theorem mc_Te_write : MOK M_Te_write 1 := ⟨zT_mk 1105 (by decide +kernel) (by decide +kernel), zT_mk 77 (by decide +kernel) (by decide +kernel), by decide +kernel⟩
theorem mv_Te_write : MVV M_Te_write := ⟨zT_mk 1103 (by decide +kernel) (by decide +kernel), zT_mk 1104 (by decide +kernel) (by decide +kernel)⟩
def M_Te_writeNumber : MI := (⟨"SpeedKernel$Text", "writeNumber", "(LSpeedKernel$Natural;)V"⟩, prog_11_method_4_code, 4, none, 2)
theorem mc_Te_writeNumber : MOK M_Te_writeNumber 1 := ⟨zT_mk 1109 (by decide +kernel) (by decide +kernel), zT_mk 77 (by decide +kernel) (by decide +kernel), by decide +kernel⟩
theorem mv_Te_writeNumber : MVV M_Te_writeNumber := ⟨zT_mk 1108 (by decide +kernel) (by decide +kernel), zT_mk 24 (by decide +kernel) (by decide +kernel)⟩
def M_Te_writeChunk : MI := (⟨"SpeedKernel$Text", "writeChunk", "(IZ)V"⟩, prog_11_method_5_code, 7, none, 1)
theorem mc_Te_writeChunk : MOK M_Te_writeChunk 2 := ⟨zT_mk 1117 (by decide +kernel) (by decide +kernel), zT_mk 77 (by decide +kernel) (by decide +kernel), by decide +kernel⟩
theorem mv_Te_writeChunk : MVV M_Te_writeChunk := ⟨zT_mk 1116 (by decide +kernel) (by decide +kernel), zT_mk 25 (by decide +kernel) (by decide +kernel)⟩
def M_Te_push : MI := (⟨"SpeedKernel$Text", "push", "(C)V"⟩, prog_11_method_6_code, 2, none, 0)
theorem mc_Te_push : MOK M_Te_push 1 := ⟨zT_mk 1122 (by decide +kernel) (by decide +kernel), zT_mk 77 (by decide +kernel) (by decide +kernel), by decide +kernel⟩
theorem mv_Te_push : MVV M_Te_push := ⟨zT_mk 1121 (by decide +kernel) (by decide +kernel), zT_mk 26 (by decide +kernel) (by decide +kernel)⟩
def M_Ar_fill2 : MI := (⟨"java/util/Arrays", "fill", "([II)V"⟩, prog_30_method_103_code, 4, none, 0)
theorem mc_Ar_fill2 : MOK M_Ar_fill2 2 := ⟨zT_mk 525 (by decide +kernel) (by decide +kernel), zT_mk 79 (by decide +kernel) (by decide +kernel), by decide +kernel⟩
theorem ms_Ar_fill2 : MSS M_Ar_fill2 := zT_mk 524 (by decide +kernel) (by decide +kernel)
def M_Ar_fill4 : MI := (⟨"java/util/Arrays", "fill", "([IIII)V"⟩, prog_30_method_104_code, 5, none, 1)
theorem mc_Ar_fill4 : MOK M_Ar_fill4 4 := ⟨zT_mk 690 (by decide +kernel) (by decide +kernel), zT_mk 79 (by decide +kernel) (by decide +kernel), by decide +kernel⟩
theorem ms_Ar_fill4 : MSS M_Ar_fill4 := zT_mk 689 (by decide +kernel) (by decide +kernel)
def M_Ar_rangeCheck : MI := (⟨"java/util/Arrays", "rangeCheck", "(III)V"⟩, prog_30_method_30_code, 3, none, 0)
theorem mc_Ar_rangeCheck : MOK M_Ar_rangeCheck 3 := ⟨zT_mk 693 (by decide +kernel) (by decide +kernel), zT_mk 79 (by decide +kernel) (by decide +kernel), by decide +kernel⟩
theorem ms_Ar_rangeCheck : MSS M_Ar_rangeCheck := zT_mk 692 (by decide +kernel) (by decide +kernel)
/-! links -/
theorem l_Ke_3 : Cond.methodLink "SpeedKernel" 3 ⟨"java/lang/Object", "<init>", "()V"⟩ ∈ zT := zT_mk 102 (by decide +kernel) (by decide +kernel)
theorem l_Ke_9 : Cond.classLink "SpeedKernel" 9 "SpeedKernel$Jobs" ∈ zT := zT_mk 105 (by decide +kernel) (by decide +kernel)
theorem l_Ke_12 : Cond.fieldLink "SpeedKernel" 12 "SpeedKernel" "jobs" "LSpeedKernel$Jobs;" ∈ zT := zT_mk 427 (by decide +kernel) (by decide +kernel)
theorem l_Ke_16 : Cond.classLink "SpeedKernel" 16 "SpeedKernel$Levels" ∈ zT := zT_mk 144 (by decide +kernel) (by decide +kernel)
theorem l_Ke_19 : Cond.fieldLink "SpeedKernel" 19 "SpeedKernel" "levels" "LSpeedKernel$Levels;" ∈ zT := zT_mk 428 (by decide +kernel) (by decide +kernel)
theorem l_Ke_23 : Cond.classLink "SpeedKernel" 23 "SpeedKernel$Profile" ∈ zT := zT_mk 161 (by decide +kernel) (by decide +kernel)
theorem l_Ke_25 : Cond.methodLink "SpeedKernel" 25 M_Pr_init.1 ∈ zT := zT_mk 163 (by decide +kernel) (by decide +kernel)
theorem l_Ke_26 : Cond.fieldLink "SpeedKernel" 26 "SpeedKernel" "planned" "LSpeedKernel$Profile;" ∈ zT := zT_mk 429 (by decide +kernel) (by decide +kernel)
theorem l_Ke_30 : Cond.fieldLink "SpeedKernel" 30 "SpeedKernel" "foreseen" "LSpeedKernel$Profile;" ∈ zT := zT_mk 430 (by decide +kernel) (by decide +kernel)
theorem l_Ke_33 : Cond.classLink "SpeedKernel" 33 "SpeedKernel$Reckoner" ∈ zT := zT_mk 247 (by decide +kernel) (by decide +kernel)
theorem l_Ke_35 : Cond.methodLink "SpeedKernel" 35 M_Re_init.1 ∈ zT := zT_mk 249 (by decide +kernel) (by decide +kernel)
theorem l_Ke_36 : Cond.fieldLink "SpeedKernel" 36 "SpeedKernel" "reckoner" "LSpeedKernel$Reckoner;" ∈ zT := zT_mk 431 (by decide +kernel) (by decide +kernel)
theorem l_Ke_40 : Cond.classLink "SpeedKernel" 40 "SpeedKernel$Planner" ∈ zT := zT_mk 284 (by decide +kernel) (by decide +kernel)
theorem l_Ke_42 : Cond.methodLink "SpeedKernel" 42 M_Pl_init.1 ∈ zT := zT_mk 286 (by decide +kernel) (by decide +kernel)
theorem l_Ke_43 : Cond.fieldLink "SpeedKernel" 43 "SpeedKernel" "planner" "LSpeedKernel$Planner;" ∈ zT := zT_mk 432 (by decide +kernel) (by decide +kernel)
theorem l_Ke_47 : Cond.classLink "SpeedKernel" 47 "SpeedKernel$Foresight" ∈ zT := zT_mk 334 (by decide +kernel) (by decide +kernel)
theorem l_Ke_49 : Cond.methodLink "SpeedKernel" 49 M_Fo_init.1 ∈ zT := zT_mk 336 (by decide +kernel) (by decide +kernel)
theorem l_Ke_50 : Cond.fieldLink "SpeedKernel" 50 "SpeedKernel" "foresight" "LSpeedKernel$Foresight;" ∈ zT := zT_mk 433 (by decide +kernel) (by decide +kernel)
theorem l_Ke_54 : Cond.classLink "SpeedKernel" 54 "SpeedKernel$Splitter" ∈ zT := zT_mk 372 (by decide +kernel) (by decide +kernel)
theorem l_Ke_56 : Cond.methodLink "SpeedKernel" 56 M_Sp_init.1 ∈ zT := zT_mk 374 (by decide +kernel) (by decide +kernel)
theorem l_Ke_57 : Cond.fieldLink "SpeedKernel" 57 "SpeedKernel" "splitter" "LSpeedKernel$Splitter;" ∈ zT := zT_mk 434 (by decide +kernel) (by decide +kernel)
theorem l_Ke_61 : Cond.classLink "SpeedKernel" 61 "SpeedKernel$Text" ∈ zT := zT_mk 405 (by decide +kernel) (by decide +kernel)
theorem l_Ke_64 : Cond.fieldLink "SpeedKernel" 64 "SpeedKernel" "text" "LSpeedKernel$Text;" ∈ zT := zT_mk 435 (by decide +kernel) (by decide +kernel)
theorem l_Ke_72 : Cond.methodLink "SpeedKernel" 72 M_Ke_forgetPlans.1 ∈ zT := zT_mk 459 (by decide +kernel) (by decide +kernel)
theorem l_Ke_75 : Cond.methodLink "SpeedKernel" 75 M_Jo_add.1 ∈ zT := zT_mk 463 (by decide +kernel) (by decide +kernel)
theorem l_Ke_79 : Cond.constant "SpeedKernel" 79 (1000000) ∈ zT := zT_mk 471 (by decide +kernel) (by decide +kernel)
theorem l_Ke_81 : Cond.methodLink "SpeedKernel" 81 M_Le_rateOf.1 ∈ zT := zT_mk 472 (by decide +kernel) (by decide +kernel)
theorem l_Ke_89 : Cond.methodLink "SpeedKernel" 89 M_Le_add.1 ∈ zT := zT_mk 480 (by decide +kernel) (by decide +kernel)
theorem l_Ke_92 : Cond.methodLink "SpeedKernel" 92 M_Le_areConvex.1 ∈ zT := zT_mk 488 (by decide +kernel) (by decide +kernel)
theorem l_Ke_96 : Cond.methodLink "SpeedKernel" 96 M_Jo_has.1 ∈ zT := zT_mk 505 (by decide +kernel) (by decide +kernel)
theorem l_Ke_110 : Cond.methodLink "SpeedKernel" 110 M_Le_has.1 ∈ zT := zT_mk 509 (by decide +kernel) (by decide +kernel)
theorem l_Ke_111 : Cond.methodLink "SpeedKernel" 111 M_Le_costOf.1 ∈ zT := zT_mk 510 (by decide +kernel) (by decide +kernel)
theorem l_Ke_114 : Cond.methodLink "SpeedKernel" 114 M_Pl_workOut.1 ∈ zT := zT_mk 515 (by decide +kernel) (by decide +kernel)
theorem l_Ke_118 : Cond.methodLink "SpeedKernel" 118 M_Re_reckonCost.1 ∈ zT := zT_mk 616 (by decide +kernel) (by decide +kernel)
theorem l_Ke_126 : Cond.methodLink "SpeedKernel" 126 M_Fo_workOut.1 ∈ zT := zT_mk 1039 (by decide +kernel) (by decide +kernel)
theorem l_Ke_129 : Cond.classLink "SpeedKernel" 129 "java/lang/IllegalStateException" ∈ zT := zT_mk 1207 (by decide +kernel) (by decide +kernel)
theorem l_Ke_131 : Cond.methodLink "SpeedKernel" 131 ⟨"java/lang/IllegalStateException", "<init>", "()V"⟩ ∈ zT := zT_mk 1216 (by decide +kernel) (by decide +kernel)
theorem l_Ke_132 : Cond.methodLink "SpeedKernel" 132 M_Sp_workOut.1 ∈ zT := zT_mk 1228 (by decide +kernel) (by decide +kernel)
theorem l_Ke_135 : Cond.classLink "SpeedKernel" 135 "java/lang/IllegalArgumentException" ∈ zT := zT_mk 1259 (by decide +kernel) (by decide +kernel)
theorem l_Ke_137 : Cond.methodLink "SpeedKernel" 137 ⟨"java/lang/IllegalArgumentException", "<init>", "()V"⟩ ∈ zT := zT_mk 1260 (by decide +kernel) (by decide +kernel)
theorem l_Ke_138 : Cond.methodLink "SpeedKernel" 138 M_Pr_hasStep.1 ∈ zT := zT_mk 1094 (by decide +kernel) (by decide +kernel)
theorem l_Ke_141 : Cond.classLink "SpeedKernel" 141 "java/lang/IndexOutOfBoundsException" ∈ zT := zT_mk 1264 (by decide +kernel) (by decide +kernel)
theorem l_Ke_143 : Cond.methodLink "SpeedKernel" 143 ⟨"java/lang/IndexOutOfBoundsException", "<init>", "()V"⟩ ∈ zT := zT_mk 1273 (by decide +kernel) (by decide +kernel)
theorem l_Ke_150 : Cond.methodLink "SpeedKernel" 150 M_Ke_fractionOf.1 ∈ zT := zT_mk 1090 (by decide +kernel) (by decide +kernel)
theorem l_Ke_154 : Cond.methodLink "SpeedKernel" 154 M_Te_write.1 ∈ zT := zT_mk 1102 (by decide +kernel) (by decide +kernel)
theorem l_Ke_158 : Cond.methodLink "SpeedKernel" 158 M_Te_at.1 ∈ zT := zT_mk 1128 (by decide +kernel) (by decide +kernel)
theorem l_Ke_161 : Cond.methodLink "SpeedKernel" 161 M_Re_order.1 ∈ zT := zT_mk 1136 (by decide +kernel) (by decide +kernel)
theorem l_Ke_175 : Cond.methodLink "SpeedKernel" 175 M_Fr_asBinary.1 ∈ zT := zT_mk 1149 (by decide +kernel) (by decide +kernel)
theorem l_Ke_184 : Cond.methodLink "SpeedKernel" 184 M_Re_shareOut.1 ∈ zT := zT_mk 1166 (by decide +kernel) (by decide +kernel)
theorem l_Ke_187 : Cond.methodLink "SpeedKernel" 187 M_Ke_leavesRoom.1 ∈ zT := zT_mk 1167 (by decide +kernel) (by decide +kernel)
theorem l_Ke_190 : Cond.methodLink "SpeedKernel" 190 M_Jo_allWork.1 ∈ zT := zT_mk 1190 (by decide +kernel) (by decide +kernel)
theorem l_Ke_194 : Cond.methodLink "SpeedKernel" 194 M_Re_doesJust.1 ∈ zT := zT_mk 1195 (by decide +kernel) (by decide +kernel)
theorem l_Ke_205 : Cond.methodLink "SpeedKernel" 205 M_Pl_rateOf.1 ∈ zT := zT_mk 1098 (by decide +kernel) (by decide +kernel)
theorem l_Ke_215 : Cond.methodLink "SpeedKernel" 215 M_Jo_workWithin.1 ∈ zT := zT_mk 1171 (by decide +kernel) (by decide +kernel)
theorem l_Ke_218 : Cond.methodLink "SpeedKernel" 218 M_Re_doesEnough.1 ∈ zT := zT_mk 1176 (by decide +kernel) (by decide +kernel)
theorem l_Mo_1 : Cond.methodLink "SpeedKernelModel" 1 ⟨"java/lang/Object", "<init>", "()V"⟩ ∈ zT := zT_mk 1284 (by decide +kernel) (by decide +kernel)
theorem l_Mo_7 : Cond.fieldLink "SpeedKernelModel" 7 "SpeedKernelModel" "cells" "[I" ∈ zT := zT_mk 1286 (by decide +kernel) (by decide +kernel)
theorem l_Mo_13 : Cond.fieldLink "SpeedKernelModel" 13 "SpeedKernelModel" "sizes" "[I" ∈ zT := zT_mk 1287 (by decide +kernel) (by decide +kernel)
theorem l_Mo_16 : Cond.fieldLink "SpeedKernelModel" 16 "SpeedKernelModel" "releases" "[I" ∈ zT := zT_mk 1289 (by decide +kernel) (by decide +kernel)
theorem l_Mo_19 : Cond.fieldLink "SpeedKernelModel" 19 "SpeedKernelModel" "deadlines" "[I" ∈ zT := zT_mk 1290 (by decide +kernel) (by decide +kernel)
theorem l_Mo_22 : Cond.fieldLink "SpeedKernelModel" 22 "SpeedKernelModel" "works" "[I" ∈ zT := zT_mk 1291 (by decide +kernel) (by decide +kernel)
theorem l_Mo_25 : Cond.fieldLink "SpeedKernelModel" 25 "SpeedKernelModel" "rates" "[I" ∈ zT := zT_mk 1293 (by decide +kernel) (by decide +kernel)
theorem l_Mo_28 : Cond.fieldLink "SpeedKernelModel" 28 "SpeedKernelModel" "costs" "[I" ∈ zT := zT_mk 1294 (by decide +kernel) (by decide +kernel)
theorem l_Mo_31 : Cond.fieldLink "SpeedKernelModel" 31 "SpeedKernelModel" "fixed" "[Z" ∈ zT := zT_mk 1298 (by decide +kernel) (by decide +kernel)
theorem l_Mo_35 : Cond.fieldLink "SpeedKernelModel" 35 "SpeedKernelModel" "above" "[J" ∈ zT := zT_mk 1299 (by decide +kernel) (by decide +kernel)
theorem l_Mo_39 : Cond.fieldLink "SpeedKernelModel" 39 "SpeedKernelModel" "below" "[J" ∈ zT := zT_mk 1300 (by decide +kernel) (by decide +kernel)
theorem l_Mo_42 : Cond.fieldLink "SpeedKernelModel" 42 "SpeedKernelModel" "done" "[Z" ∈ zT := zT_mk 1301 (by decide +kernel) (by decide +kernel)
theorem l_Mo_45 : Cond.fieldLink "SpeedKernelModel" 45 "SpeedKernelModel" "jobAbove" "[J" ∈ zT := zT_mk 1302 (by decide +kernel) (by decide +kernel)
theorem l_Mo_48 : Cond.fieldLink "SpeedKernelModel" 48 "SpeedKernelModel" "jobBelow" "[J" ∈ zT := zT_mk 1303 (by decide +kernel) (by decide +kernel)
theorem l_Mo_51 : Cond.fieldLink "SpeedKernelModel" 51 "SpeedKernelModel" "left" "[J" ∈ zT := zT_mk 1304 (by decide +kernel) (by decide +kernel)
theorem l_Mo_54 : Cond.fieldLink "SpeedKernelModel" 54 "SpeedKernelModel" "planBegins" "[I" ∈ zT := zT_mk 1306 (by decide +kernel) (by decide +kernel)
theorem l_Mo_57 : Cond.fieldLink "SpeedKernelModel" 57 "SpeedKernelModel" "planEnds" "[I" ∈ zT := zT_mk 1307 (by decide +kernel) (by decide +kernel)
theorem l_Mo_60 : Cond.fieldLink "SpeedKernelModel" 60 "SpeedKernelModel" "stepAbove" "[J" ∈ zT := zT_mk 1308 (by decide +kernel) (by decide +kernel)
theorem l_Mo_63 : Cond.fieldLink "SpeedKernelModel" 63 "SpeedKernelModel" "stepBelow" "[J" ∈ zT := zT_mk 1309 (by decide +kernel) (by decide +kernel)
theorem l_Mo_66 : Cond.fieldLink "SpeedKernelModel" 66 "SpeedKernelModel" "planWorks" "[I" ∈ zT := zT_mk 1310 (by decide +kernel) (by decide +kernel)
theorem l_Mo_69 : Cond.fieldLink "SpeedKernelModel" 69 "SpeedKernelModel" "aheadBegins" "[I" ∈ zT := zT_mk 1312 (by decide +kernel) (by decide +kernel)
theorem l_Mo_72 : Cond.fieldLink "SpeedKernelModel" 72 "SpeedKernelModel" "aheadEnds" "[I" ∈ zT := zT_mk 1313 (by decide +kernel) (by decide +kernel)
theorem l_Mo_75 : Cond.fieldLink "SpeedKernelModel" 75 "SpeedKernelModel" "aheadWorks" "[I" ∈ zT := zT_mk 1314 (by decide +kernel) (by decide +kernel)
theorem l_Mo_78 : Cond.fieldLink "SpeedKernelModel" 78 "SpeedKernelModel" "lesser" "[I" ∈ zT := zT_mk 1315 (by decide +kernel) (by decide +kernel)
theorem l_Mo_81 : Cond.fieldLink "SpeedKernelModel" 81 "SpeedKernelModel" "greater" "[I" ∈ zT := zT_mk 1316 (by decide +kernel) (by decide +kernel)
theorem l_Mo_84 : Cond.fieldLink "SpeedKernelModel" 84 "SpeedKernelModel" "printed" "[I" ∈ zT := zT_mk 1317 (by decide +kernel) (by decide +kernel)
theorem l_Mo_87 : Cond.fieldLink "SpeedKernelModel" 87 "SpeedKernelModel" "planned" "Z" ∈ zT := zT_mk 1295 (by decide +kernel) (by decide +kernel)
theorem l_Mo_91 : Cond.fieldLink "SpeedKernelModel" 91 "SpeedKernelModel" "thrown" "I" ∈ zT := zT_mk 1285 (by decide +kernel) (by decide +kernel)
theorem l_Mo_95 : Cond.constantLong "SpeedKernelModel" 95 (16777216) ∈ zT := zT_mk 1461 (by decide +kernel) (by decide +kernel)
theorem l_Mo_97 : Cond.methodLink "SpeedKernelModel" 97 M_Mo_part.1 ∈ zT := zT_mk 1494 (by decide +kernel) (by decide +kernel)
theorem l_Mo_101 : Cond.constant "SpeedKernelModel" 101 (16777216) ∈ zT := zT_mk 1498 (by decide +kernel) (by decide +kernel)
theorem l_Mo_102 : Cond.methodLink "SpeedKernelModel" 102 M_Mo_trim.1 ∈ zT := zT_mk 1482 (by decide +kernel) (by decide +kernel)
theorem l_Mo_106 : Cond.methodLink "SpeedKernelModel" 106 M_Mo_copy.1 ∈ zT := zT_mk 1470 (by decide +kernel) (by decide +kernel)
theorem l_Mo_110 : Cond.methodLink "SpeedKernelModel" 110 M_Mo_isEven.1 ∈ zT := zT_mk 1474 (by decide +kernel) (by decide +kernel)
theorem l_Mo_114 : Cond.methodLink "SpeedKernelModel" 114 M_Mo_divideBy.1 ∈ zT := zT_mk 1478 (by decide +kernel) (by decide +kernel)
theorem l_Mo_117 : Cond.methodLink "SpeedKernelModel" 117 M_Mo_order.1 ∈ zT := zT_mk 1486 (by decide +kernel) (by decide +kernel)
theorem l_Mo_120 : Cond.methodLink "SpeedKernelModel" 120 M_Mo_subtract.1 ∈ zT := zT_mk 1490 (by decide +kernel) (by decide +kernel)
theorem l_Mo_124 : Cond.methodLink "SpeedKernelModel" 124 M_Mo_multiplyBy.1 ∈ zT := zT_mk 1499 (by decide +kernel) (by decide +kernel)
theorem l_Mo_127 : Cond.methodLink "SpeedKernelModel" 127 M_Mo_set.1 ∈ zT := zT_mk 1457 (by decide +kernel) (by decide +kernel)
theorem l_Mo_131 : Cond.methodLink "SpeedKernelModel" 131 M_Mo_common.1 ∈ zT := zT_mk 1466 (by decide +kernel) (by decide +kernel)
theorem l_Mo_134 : Cond.methodLink "SpeedKernelModel" 134 M_Mo_divide.1 ∈ zT := zT_mk 1503 (by decide +kernel) (by decide +kernel)
theorem l_Mo_137 : Cond.methodLink "SpeedKernelModel" 137 M_Mo_reduce.1 ∈ zT := zT_mk 1462 (by decide +kernel) (by decide +kernel)
theorem l_Mo_140 : Cond.methodLink "SpeedKernelModel" 140 M_Mo_multiply.1 ∈ zT := zT_mk 1511 (by decide +kernel) (by decide +kernel)
theorem l_Mo_143 : Cond.methodLink "SpeedKernelModel" 143 M_Mo_add.1 ∈ zT := zT_mk 1519 (by decide +kernel) (by decide +kernel)
theorem l_Mo_146 : Cond.methodLink "SpeedKernelModel" 146 M_Mo_sumUp.1 ∈ zT := zT_mk 1515 (by decide +kernel) (by decide +kernel)
theorem l_Mo_149 : Cond.methodLink "SpeedKernelModel" 149 M_Mo_in.1 ∈ zT := zT_mk 1398 (by decide +kernel) (by decide +kernel)
theorem l_Mo_153 : Cond.fieldLink "SpeedKernelModel" 153 "SpeedKernelModel" "jobs" "I" ∈ zT := zT_mk 1288 (by decide +kernel) (by decide +kernel)
theorem l_Mo_156 : Cond.fieldLink "SpeedKernelModel" 156 "SpeedKernelModel" "gone" "Z" ∈ zT := zT_mk 1296 (by decide +kernel) (by decide +kernel)
theorem l_Mo_159 : Cond.fieldLink "SpeedKernelModel" 159 "SpeedKernelModel" "isSplit" "Z" ∈ zT := zT_mk 1297 (by decide +kernel) (by decide +kernel)
theorem l_Mo_162 : Cond.constant "SpeedKernelModel" 162 (1000000) ∈ zT := zT_mk 1405 (by decide +kernel) (by decide +kernel)
theorem l_Mo_163 : Cond.fieldLink "SpeedKernelModel" 163 "SpeedKernelModel" "levels" "I" ∈ zT := zT_mk 1292 (by decide +kernel) (by decide +kernel)
theorem l_Mo_166 : Cond.methodLink "SpeedKernelModel" 166 M_Mo_open.1 ∈ zT := zT_mk 1426 (by decide +kernel) (by decide +kernel)
theorem l_Mo_169 : Cond.methodLink "SpeedKernelModel" 169 M_Mo_isWithin.1 ∈ zT := zT_mk 1430 (by decide +kernel) (by decide +kernel)
theorem l_Mo_172 : Cond.methodLink "SpeedKernelModel" 172 M_Mo_commonOf.1 ∈ zT := zT_mk 1434 (by decide +kernel) (by decide +kernel)
theorem l_Mo_176 : Cond.methodLink "SpeedKernelModel" 176 M_Mo_nextJob.1 ∈ zT := zT_mk 1449 (by decide +kernel) (by decide +kernel)
theorem l_Mo_180 : Cond.methodLink "SpeedKernelModel" 180 M_Mo_tell.1 ∈ zT := zT_mk 1453 (by decide +kernel) (by decide +kernel)
theorem l_Mo_184 : Cond.fieldLink "SpeedKernelModel" 184 "SpeedKernelModel" "planSteps" "I" ∈ zT := zT_mk 1305 (by decide +kernel) (by decide +kernel)
theorem l_Mo_187 : Cond.methodLink "SpeedKernelModel" 187 M_Mo_fixBest.1 ∈ zT := zT_mk 1422 (by decide +kernel) (by decide +kernel)
theorem l_Mo_191 : Cond.methodLink "SpeedKernelModel" 191 M_Mo_firstRelease.1 ∈ zT := zT_mk 1437 (by decide +kernel) (by decide +kernel)
theorem l_Mo_195 : Cond.methodLink "SpeedKernelModel" 195 M_Mo_lastDeadline.1 ∈ zT := zT_mk 1441 (by decide +kernel) (by decide +kernel)
theorem l_Mo_198 : Cond.methodLink "SpeedKernelModel" 198 M_Mo_workPlan.1 ∈ zT := zT_mk 1445 (by decide +kernel) (by decide +kernel)
theorem l_Mo_201 : Cond.methodLink "SpeedKernelModel" 201 M_Mo_sumCube.1 ∈ zT := zT_mk 1507 (by decide +kernel) (by decide +kernel)
theorem l_Mo_204 : Cond.methodLink "SpeedKernelModel" 204 M_Mo_keep.1 ∈ zT := zT_mk 1523 (by decide +kernel) (by decide +kernel)
theorem l_Mo_207 : Cond.methodLink "SpeedKernelModel" 207 M_Mo_whoAt.1 ∈ zT := zT_mk 1543 (by decide +kernel) (by decide +kernel)
theorem l_Mo_210 : Cond.methodLink "SpeedKernelModel" 210 M_Mo_inOrder.1 ∈ zT := zT_mk 1547 (by decide +kernel) (by decide +kernel)
theorem l_Mo_213 : Cond.fieldLink "SpeedKernelModel" 213 "SpeedKernelModel" "aheadSteps" "I" ∈ zT := zT_mk 1311 (by decide +kernel) (by decide +kernel)
theorem l_Mo_216 : Cond.methodLink "SpeedKernelModel" 216 M_Mo_nextEvent.1 ∈ zT := zT_mk 1531 (by decide +kernel) (by decide +kernel)
theorem l_Mo_219 : Cond.methodLink "SpeedKernelModel" 219 M_Mo_findBest.1 ∈ zT := zT_mk 1535 (by decide +kernel) (by decide +kernel)
theorem l_Mo_222 : Cond.methodLink "SpeedKernelModel" 222 M_Mo_workAhead.1 ∈ zT := zT_mk 1539 (by decide +kernel) (by decide +kernel)
theorem l_Mo_225 : Cond.methodLink "SpeedKernelModel" 225 M_Mo_isSame.1 ∈ zT := zT_mk 1551 (by decide +kernel) (by decide +kernel)
theorem l_Mo_229 : Cond.methodLink "SpeedKernelModel" 229 M_Mo_splitOne.1 ∈ zT := zT_mk 1559 (by decide +kernel) (by decide +kernel)
theorem l_Mo_232 : Cond.methodLink "SpeedKernelModel" 232 M_Mo_pay.1 ∈ zT := zT_mk 1563 (by decide +kernel) (by decide +kernel)
theorem l_Mo_235 : Cond.fieldLink "SpeedKernelModel" 235 "SpeedKernelModel" "printedMany" "I" ∈ zT := zT_mk 1318 (by decide +kernel) (by decide +kernel)
theorem l_Mo_238 : Cond.methodLink "SpeedKernelModel" 238 M_Mo_fraction.1 ∈ zT := zT_mk 1579 (by decide +kernel) (by decide +kernel)
theorem l_Mo_241 : Cond.methodLink "SpeedKernelModel" 241 M_Mo_printNumber.1 ∈ zT := zT_mk 1583 (by decide +kernel) (by decide +kernel)
theorem l_Mo_244 : Cond.methodLink "SpeedKernelModel" 244 M_Mo_speedOf.1 ∈ zT := zT_mk 1599 (by decide +kernel) (by decide +kernel)
theorem l_Fo_3 : Cond.methodLink "SpeedKernel$Foresight" 3 ⟨"java/lang/Object", "<init>", "()V"⟩ ∈ zT := zT_mk 339 (by decide +kernel) (by decide +kernel)
theorem l_Fo_9 : Cond.classLink "SpeedKernel$Foresight" 9 "SpeedKernel$Natural" ∈ zT := zT_mk 340 (by decide +kernel) (by decide +kernel)
theorem l_Fo_11 : Cond.fieldLink "SpeedKernel$Foresight" 11 "SpeedKernel$Foresight" "left" "[LSpeedKernel$Natural;" ∈ zT := zT_mk 344 (by decide +kernel) (by decide +kernel)
theorem l_Fo_18 : Cond.fieldLink "SpeedKernel$Foresight" 18 "SpeedKernel$Foresight" "scale" "LSpeedKernel$Natural;" ∈ zT := zT_mk 345 (by decide +kernel) (by decide +kernel)
theorem l_Fo_22 : Cond.fieldLink "SpeedKernel$Foresight" 22 "SpeedKernel$Foresight" "dense" "LSpeedKernel$Natural;" ∈ zT := zT_mk 346 (by decide +kernel) (by decide +kernel)
theorem l_Fo_25 : Cond.fieldLink "SpeedKernel$Foresight" 25 "SpeedKernel$Foresight" "sum" "LSpeedKernel$Natural;" ∈ zT := zT_mk 348 (by decide +kernel) (by decide +kernel)
theorem l_Fo_28 : Cond.fieldLink "SpeedKernel$Foresight" 28 "SpeedKernel$Foresight" "mark" "LSpeedKernel$Natural;" ∈ zT := zT_mk 349 (by decide +kernel) (by decide +kernel)
theorem l_Fo_31 : Cond.fieldLink "SpeedKernel$Foresight" 31 "SpeedKernel$Foresight" "room" "LSpeedKernel$Natural;" ∈ zT := zT_mk 350 (by decide +kernel) (by decide +kernel)
theorem l_Fo_34 : Cond.fieldLink "SpeedKernel$Foresight" 34 "SpeedKernel$Foresight" "spare" "LSpeedKernel$Natural;" ∈ zT := zT_mk 351 (by decide +kernel) (by decide +kernel)
theorem l_Fo_37 : Cond.classLink "SpeedKernel$Foresight" 37 "SpeedKernel$Fraction" ∈ zT := zT_mk 342 (by decide +kernel) (by decide +kernel)
theorem l_Fo_39 : Cond.methodLink "SpeedKernel$Foresight" 39 M_Fr_init.1 ∈ zT := zT_mk 343 (by decide +kernel) (by decide +kernel)
theorem l_Fo_40 : Cond.fieldLink "SpeedKernel$Foresight" 40 "SpeedKernel$Foresight" "rate" "LSpeedKernel$Fraction;" ∈ zT := zT_mk 352 (by decide +kernel) (by decide +kernel)
theorem l_Fo_44 : Cond.methodLink "SpeedKernel$Foresight" 44 M_Pr_empty.1 ∈ zT := zT_mk 1043 (by decide +kernel) (by decide +kernel)
theorem l_Fo_49 : Cond.methodLink "SpeedKernel$Foresight" 49 M_Na_setSmall.1 ∈ zT := zT_mk 1044 (by decide +kernel) (by decide +kernel)
theorem l_Fo_63 : Cond.methodLink "SpeedKernel$Foresight" 63 M_Jo_lastDeadline.1 ∈ zT := zT_mk 1045 (by decide +kernel) (by decide +kernel)
theorem l_Fo_67 : Cond.methodLink "SpeedKernel$Foresight" 67 ⟨"java/lang/Math", "min", "(II)I"⟩ ∈ zT := zT_mk 1046 (by decide +kernel) (by decide +kernel)
theorem l_Fo_73 : Cond.methodLink "SpeedKernel$Foresight" 73 M_Jo_firstRelease.1 ∈ zT := zT_mk 1047 (by decide +kernel) (by decide +kernel)
theorem l_Fo_76 : Cond.methodLink "SpeedKernel$Foresight" 76 ⟨"java/lang/Math", "max", "(II)I"⟩ ∈ zT := zT_mk 1048 (by decide +kernel) (by decide +kernel)
theorem l_Fo_79 : Cond.methodLink "SpeedKernel$Foresight" 79 M_Fo_findDensest.1 ∈ zT := zT_mk 1049 (by decide +kernel) (by decide +kernel)
theorem l_Fo_83 : Cond.methodLink "SpeedKernel$Foresight" 83 M_Jo_nextRelease.1 ∈ zT := zT_mk 1063 (by decide +kernel) (by decide +kernel)
theorem l_Fo_86 : Cond.methodLink "SpeedKernel$Foresight" 86 M_Na_isZero.1 ∈ zT := zT_mk 1058 (by decide +kernel) (by decide +kernel)
theorem l_Fo_90 : Cond.fieldLink "SpeedKernel$Foresight" 90 "SpeedKernel$Foresight" "denseDeadline" "I" ∈ zT := zT_mk 347 (by decide +kernel) (by decide +kernel)
theorem l_Fo_93 : Cond.methodLink "SpeedKernel$Foresight" 93 M_Fo_setRate.1 ∈ zT := zT_mk 1064 (by decide +kernel) (by decide +kernel)
theorem l_Fo_97 : Cond.methodLink "SpeedKernel$Foresight" 97 M_Re_lower.1 ∈ zT := zT_mk 1068 (by decide +kernel) (by decide +kernel)
theorem l_Fo_103 : Cond.methodLink "SpeedKernel$Foresight" 103 M_Pr_append.1 ∈ zT := zT_mk 1069 (by decide +kernel) (by decide +kernel)
theorem l_Fo_107 : Cond.methodLink "SpeedKernel$Foresight" 107 M_Fo_workOff.1 ∈ zT := zT_mk 1070 (by decide +kernel) (by decide +kernel)
theorem l_Fo_115 : Cond.methodLink "SpeedKernel$Foresight" 115 M_Jo_has.1 ∈ zT := zT_mk 1057 (by decide +kernel) (by decide +kernel)
theorem l_Fo_128 : Cond.methodLink "SpeedKernel$Foresight" 128 M_Fo_isOpen.1 ∈ zT := zT_mk 1053 (by decide +kernel) (by decide +kernel)
theorem l_Fo_132 : Cond.methodLink "SpeedKernel$Foresight" 132 M_Na_add.1 ∈ zT := zT_mk 1059 (by decide +kernel) (by decide +kernel)
theorem l_Fo_136 : Cond.methodLink "SpeedKernel$Foresight" 136 M_Na_copyFrom.1 ∈ zT := zT_mk 1060 (by decide +kernel) (by decide +kernel)
theorem l_Fo_139 : Cond.methodLink "SpeedKernel$Foresight" 139 M_Na_times.1 ∈ zT := zT_mk 1061 (by decide +kernel) (by decide +kernel)
theorem l_Fo_142 : Cond.methodLink "SpeedKernel$Foresight" 142 M_Na_order.1 ∈ zT := zT_mk 1062 (by decide +kernel) (by decide +kernel)
theorem l_Fo_155 : Cond.methodLink "SpeedKernel$Foresight" 155 M_Na_takeOff.1 ∈ zT := zT_mk 1074 (by decide +kernel) (by decide +kernel)
theorem l_Fo_158 : Cond.methodLink "SpeedKernel$Foresight" 158 M_Fo_setEnd.1 ∈ zT := zT_mk 1078 (by decide +kernel) (by decide +kernel)
theorem l_Fo_162 : Cond.methodLink "SpeedKernel$Foresight" 162 M_Fo_rescale.1 ∈ zT := zT_mk 1082 (by decide +kernel) (by decide +kernel)
theorem l_Fr_1 : Cond.methodLink "SpeedKernel$Fraction" 1 ⟨"java/lang/Object", "<init>", "()V"⟩ ∈ zT := zT_mk 173 (by decide +kernel) (by decide +kernel)
theorem l_Fr_7 : Cond.classLink "SpeedKernel$Fraction" 7 "SpeedKernel$Natural" ∈ zT := zT_mk 174 (by decide +kernel) (by decide +kernel)
theorem l_Fr_10 : Cond.fieldLink "SpeedKernel$Fraction" 10 "SpeedKernel$Fraction" "top" "LSpeedKernel$Natural;" ∈ zT := zT_mk 192 (by decide +kernel) (by decide +kernel)
theorem l_Fr_16 : Cond.fieldLink "SpeedKernel$Fraction" 16 "SpeedKernel$Fraction" "below" "LSpeedKernel$Natural;" ∈ zT := zT_mk 196 (by decide +kernel) (by decide +kernel)
theorem l_Fr_19 : Cond.methodLink "SpeedKernel$Fraction" 19 M_Na_setSmall.1 ∈ zT := zT_mk 187 (by decide +kernel) (by decide +kernel)
theorem l_Fr_29 : Cond.methodLink "SpeedKernel$Fraction" 29 M_Na_copyFrom.1 ∈ zT := zT_mk 597 (by decide +kernel) (by decide +kernel)
theorem l_Fr_33 : Cond.methodLink "SpeedKernel$Fraction" 33 M_Na_order.1 ∈ zT := zT_mk 589 (by decide +kernel) (by decide +kernel)
theorem l_Fr_37 : Cond.methodLink "SpeedKernel$Fraction" 37 M_Na_asLong.1 ∈ zT := zT_mk 1153 (by decide +kernel) (by decide +kernel)
theorem l_Jo_3 : Cond.methodLink "SpeedKernel$Jobs" 3 ⟨"java/lang/Object", "<init>", "()V"⟩ ∈ zT := zT_mk 110 (by decide +kernel) (by decide +kernel)
theorem l_Jo_9 : Cond.fieldLink "SpeedKernel$Jobs" 9 "SpeedKernel$Jobs" "release" "[I" ∈ zT := zT_mk 116 (by decide +kernel) (by decide +kernel)
theorem l_Jo_15 : Cond.fieldLink "SpeedKernel$Jobs" 15 "SpeedKernel$Jobs" "deadline" "[I" ∈ zT := zT_mk 120 (by decide +kernel) (by decide +kernel)
theorem l_Jo_18 : Cond.fieldLink "SpeedKernel$Jobs" 18 "SpeedKernel$Jobs" "work" "[I" ∈ zT := zT_mk 124 (by decide +kernel) (by decide +kernel)
theorem l_Jo_21 : Cond.fieldLink "SpeedKernel$Jobs" 21 "SpeedKernel$Jobs" "byDeadline" "[I" ∈ zT := zT_mk 129 (by decide +kernel) (by decide +kernel)
theorem l_Jo_24 : Cond.fieldLink "SpeedKernel$Jobs" 24 "SpeedKernel$Jobs" "count" "I" ∈ zT := zT_mk 111 (by decide +kernel) (by decide +kernel)
theorem l_Jo_28 : Cond.methodLink "SpeedKernel$Jobs" 28 M_Jo_nextRelease.1 ∈ zT := zT_mk 570 (by decide +kernel) (by decide +kernel)
theorem l_Jo_32 : Cond.methodLink "SpeedKernel$Jobs" 32 M_Jo_has.1 ∈ zT := zT_mk 543 (by decide +kernel) (by decide +kernel)
theorem l_Jo_36 : Cond.methodLink "SpeedKernel$Jobs" 36 M_Jo_isWithin.1 ∈ zT := zT_mk 1175 (by decide +kernel) (by decide +kernel)
theorem l_Jo_40 : Cond.methodLink "SpeedKernel$Jobs" 40 M_Jo_workWithin.1 ∈ zT := zT_mk 1194 (by decide +kernel) (by decide +kernel)
theorem l_Le_3 : Cond.methodLink "SpeedKernel$Levels" 3 ⟨"java/lang/Object", "<init>", "()V"⟩ ∈ zT := zT_mk 149 (by decide +kernel) (by decide +kernel)
theorem l_Le_9 : Cond.fieldLink "SpeedKernel$Levels" 9 "SpeedKernel$Levels" "rates" "[I" ∈ zT := zT_mk 152 (by decide +kernel) (by decide +kernel)
theorem l_Le_15 : Cond.fieldLink "SpeedKernel$Levels" 15 "SpeedKernel$Levels" "costs" "[I" ∈ zT := zT_mk 153 (by decide +kernel) (by decide +kernel)
theorem l_Le_18 : Cond.fieldLink "SpeedKernel$Levels" 18 "SpeedKernel$Levels" "count" "I" ∈ zT := zT_mk 150 (by decide +kernel) (by decide +kernel)
theorem l_Le_22 : Cond.methodLink "SpeedKernel$Levels" 22 M_Le_has.1 ∈ zT := zT_mk 476 (by decide +kernel) (by decide +kernel)
theorem l_Le_26 : Cond.methodLink "SpeedKernel$Levels" 26 M_Le_rateOf.1 ∈ zT := zT_mk 496 (by decide +kernel) (by decide +kernel)
theorem l_Le_30 : Cond.methodLink "SpeedKernel$Levels" 30 M_Le_costOf.1 ∈ zT := zT_mk 492 (by decide +kernel) (by decide +kernel)
theorem l_Na_3 : Cond.methodLink "SpeedKernel$Natural" 3 ⟨"java/lang/Object", "<init>", "()V"⟩ ∈ zT := zT_mk 179 (by decide +kernel) (by decide +kernel)
theorem l_Na_9 : Cond.fieldLink "SpeedKernel$Natural" 9 "SpeedKernel$Natural" "digits" "[I" ∈ zT := zT_mk 180 (by decide +kernel) (by decide +kernel)
theorem l_Na_15 : Cond.fieldLink "SpeedKernel$Natural" 15 "SpeedKernel$Natural" "size" "I" ∈ zT := zT_mk 181 (by decide +kernel) (by decide +kernel)
theorem l_Na_19 : Cond.constantLong "SpeedKernel$Natural" 19 (2147483647) ∈ zT := zT_mk 191 (by decide +kernel) (by decide +kernel)
theorem l_Na_21 : Cond.methodLink "SpeedKernel$Natural" 21 ⟨"java/lang/System", "arraycopy", "(Ljava/lang/Object;ILjava/lang/Object;II)V"⟩ ∈ zT := zT_mk 601 (by decide +kernel) (by decide +kernel)
theorem l_Na_27 : Cond.methodLink "SpeedKernel$Natural" 27 ⟨"java/lang/Math", "max", "(II)I"⟩ ∈ zT := zT_mk 1026 (by decide +kernel) (by decide +kernel)
theorem l_Na_33 : Cond.methodLink "SpeedKernel$Natural" 33 M_Na_push.1 ∈ zT := zT_mk 667 (by decide +kernel) (by decide +kernel)
theorem l_Na_37 : Cond.methodLink "SpeedKernel$Natural" 37 M_Na_trim.1 ∈ zT := zT_mk 653 (by decide +kernel) (by decide +kernel)
theorem l_Na_40 : Cond.methodLink "SpeedKernel$Natural" 40 ⟨"java/lang/Math", "min", "(II)I"⟩ ∈ zT := zT_mk 687 (by decide +kernel) (by decide +kernel)
theorem l_Na_43 : Cond.methodLink "SpeedKernel$Natural" 43 M_Ar_fill4.1 ∈ zT := zT_mk 688 (by decide +kernel) (by decide +kernel)
theorem l_Na_49 : Cond.methodLink "SpeedKernel$Natural" 49 M_Na_order.1 ∈ zT := zT_mk 647 (by decide +kernel) (by decide +kernel)
theorem l_Na_53 : Cond.methodLink "SpeedKernel$Natural" 53 M_Na_copyFrom.1 ∈ zT := zT_mk 648 (by decide +kernel) (by decide +kernel)
theorem l_Na_57 : Cond.methodLink "SpeedKernel$Natural" 57 M_Na_divideSmall.1 ∈ zT := zT_mk 649 (by decide +kernel) (by decide +kernel)
theorem l_Na_61 : Cond.methodLink "SpeedKernel$Natural" 61 M_Na_setSmall.1 ∈ zT := zT_mk 657 (by decide +kernel) (by decide +kernel)
theorem l_Na_64 : Cond.methodLink "SpeedKernel$Natural" 64 M_Na_freeBits.1 ∈ zT := zT_mk 658 (by decide +kernel) (by decide +kernel)
theorem l_Na_68 : Cond.methodLink "SpeedKernel$Natural" 68 M_Na_shiftUp.1 ∈ zT := zT_mk 663 (by decide +kernel) (by decide +kernel)
theorem l_Na_72 : Cond.methodLink "SpeedKernel$Natural" 72 M_Na_takeMultiple.1 ∈ zT := zT_mk 671 (by decide +kernel) (by decide +kernel)
theorem l_Na_76 : Cond.methodLink "SpeedKernel$Natural" 76 M_Na_shiftDown.1 ∈ zT := zT_mk 679 (by decide +kernel) (by decide +kernel)
theorem l_Na_79 : Cond.methodLink "SpeedKernel$Natural" 79 M_Na_guessMultiple.1 ∈ zT := zT_mk 675 (by decide +kernel) (by decide +kernel)
theorem l_Na_82 : Cond.constant "SpeedKernel$Natural" 82 (1073741824) ∈ zT := zT_mk 662 (by decide +kernel) (by decide +kernel)
theorem l_Pl_3 : Cond.methodLink "SpeedKernel$Planner" 3 ⟨"java/lang/Object", "<init>", "()V"⟩ ∈ zT := zT_mk 289 (by decide +kernel) (by decide +kernel)
theorem l_Pl_9 : Cond.fieldLink "SpeedKernel$Planner" 9 "SpeedKernel$Planner" "groupWork" "[I" ∈ zT := zT_mk 293 (by decide +kernel) (by decide +kernel)
theorem l_Pl_15 : Cond.fieldLink "SpeedKernel$Planner" 15 "SpeedKernel$Planner" "groupTime" "[I" ∈ zT := zT_mk 295 (by decide +kernel) (by decide +kernel)
theorem l_Pl_18 : Cond.classLink "SpeedKernel$Planner" 18 "SpeedKernel$Fraction" ∈ zT := zT_mk 290 (by decide +kernel) (by decide +kernel)
theorem l_Pl_20 : Cond.fieldLink "SpeedKernel$Planner" 20 "SpeedKernel$Planner" "groupRate" "[LSpeedKernel$Fraction;" ∈ zT := zT_mk 297 (by decide +kernel) (by decide +kernel)
theorem l_Pl_24 : Cond.fieldLink "SpeedKernel$Planner" 24 "SpeedKernel$Planner" "groupOfJob" "[I" ∈ zT := zT_mk 298 (by decide +kernel) (by decide +kernel)
theorem l_Pl_27 : Cond.fieldLink "SpeedKernel$Planner" 27 "SpeedKernel$Planner" "groupAt" "[I" ∈ zT := zT_mk 299 (by decide +kernel) (by decide +kernel)
theorem l_Pl_30 : Cond.fieldLink "SpeedKernel$Planner" 30 "SpeedKernel$Planner" "freeBefore" "[I" ∈ zT := zT_mk 300 (by decide +kernel) (by decide +kernel)
theorem l_Pl_33 : Cond.fieldLink "SpeedKernel$Planner" 33 "SpeedKernel$Planner" "left" "[I" ∈ zT := zT_mk 301 (by decide +kernel) (by decide +kernel)
theorem l_Pl_36 : Cond.methodLink "SpeedKernel$Planner" 36 M_Fr_init.1 ∈ zT := zT_mk 291 (by decide +kernel) (by decide +kernel)
theorem l_Pl_37 : Cond.fieldLink "SpeedKernel$Planner" 37 "SpeedKernel$Planner" "idle" "LSpeedKernel$Fraction;" ∈ zT := zT_mk 302 (by decide +kernel) (by decide +kernel)
theorem l_Pl_41 : Cond.methodLink "SpeedKernel$Planner" 41 M_Pr_empty.1 ∈ zT := zT_mk 519 (by decide +kernel) (by decide +kernel)
theorem l_Pl_46 : Cond.methodLink "SpeedKernel$Planner" 46 M_Pl_findGroups.1 ∈ zT := zT_mk 526 (by decide +kernel) (by decide +kernel)
theorem l_Pl_50 : Cond.methodLink "SpeedKernel$Planner" 50 M_Pl_layOutSteps.1 ∈ zT := zT_mk 555 (by decide +kernel) (by decide +kernel)
theorem l_Pl_54 : Cond.methodLink "SpeedKernel$Planner" 54 M_Pl_workOff.1 ∈ zT := zT_mk 604 (by decide +kernel) (by decide +kernel)
theorem l_Pl_57 : Cond.fieldLink "SpeedKernel$Planner" 57 "SpeedKernel$Planner" "groups" "I" ∈ zT := zT_mk 292 (by decide +kernel) (by decide +kernel)
theorem l_Pl_61 : Cond.methodLink "SpeedKernel$Planner" 61 M_Pl_groupOf.1 ∈ zT := zT_mk 612 (by decide +kernel) (by decide +kernel)
theorem l_Pl_65 : Cond.methodLink "SpeedKernel$Planner" 65 M_Pl_hasGroup.1 ∈ zT := zT_mk 577 (by decide +kernel) (by decide +kernel)
theorem l_Pl_69 : Cond.methodLink "SpeedKernel$Planner" 69 M_Ar_fill2.1 ∈ zT := zT_mk 530 (by decide +kernel) (by decide +kernel)
theorem l_Pl_75 : Cond.methodLink "SpeedKernel$Planner" 75 M_Pl_findDensest.1 ∈ zT := zT_mk 531 (by decide +kernel) (by decide +kernel)
theorem l_Pl_78 : Cond.fieldLink "SpeedKernel$Planner" 78 "SpeedKernel$Planner" "bestTime" "I" ∈ zT := zT_mk 306 (by decide +kernel) (by decide +kernel)
theorem l_Pl_81 : Cond.methodLink "SpeedKernel$Planner" 81 M_Pl_takeDensest.1 ∈ zT := zT_mk 544 (by decide +kernel) (by decide +kernel)
theorem l_Pl_84 : Cond.fieldLink "SpeedKernel$Planner" 84 "SpeedKernel$Planner" "bestWork" "I" ∈ zT := zT_mk 305 (by decide +kernel) (by decide +kernel)
theorem l_Pl_98 : Cond.methodLink "SpeedKernel$Planner" 98 M_Pl_tryBetween.1 ∈ zT := zT_mk 535 (by decide +kernel) (by decide +kernel)
theorem l_Pl_102 : Cond.methodLink "SpeedKernel$Planner" 102 M_Jo_isWithin.1 ∈ zT := zT_mk 539 (by decide +kernel) (by decide +kernel)
theorem l_Pl_109 : Cond.fieldLink "SpeedKernel$Planner" 109 "SpeedKernel$Planner" "bestFrom" "I" ∈ zT := zT_mk 303 (by decide +kernel) (by decide +kernel)
theorem l_Pl_112 : Cond.fieldLink "SpeedKernel$Planner" 112 "SpeedKernel$Planner" "bestTo" "I" ∈ zT := zT_mk 304 (by decide +kernel) (by decide +kernel)
theorem l_Pl_115 : Cond.methodLink "SpeedKernel$Planner" 115 M_Fr_setSmall.1 ∈ zT := zT_mk 548 (by decide +kernel) (by decide +kernel)
theorem l_Pl_119 : Cond.methodLink "SpeedKernel$Planner" 119 M_Jo_lastDeadline.1 ∈ zT := zT_mk 559 (by decide +kernel) (by decide +kernel)
theorem l_Pl_123 : Cond.methodLink "SpeedKernel$Planner" 123 ⟨"java/lang/Math", "min", "(II)I"⟩ ∈ zT := zT_mk 563 (by decide +kernel) (by decide +kernel)
theorem l_Pl_129 : Cond.methodLink "SpeedKernel$Planner" 129 M_Jo_firstRelease.1 ∈ zT := zT_mk 566 (by decide +kernel) (by decide +kernel)
theorem l_Pl_132 : Cond.methodLink "SpeedKernel$Planner" 132 ⟨"java/lang/Math", "max", "(II)I"⟩ ∈ zT := zT_mk 574 (by decide +kernel) (by decide +kernel)
theorem l_Pl_135 : Cond.methodLink "SpeedKernel$Planner" 135 M_Pr_append.1 ∈ zT := zT_mk 581 (by decide +kernel) (by decide +kernel)
theorem l_Pl_139 : Cond.methodLink "SpeedKernel$Planner" 139 M_Pl_workOffAt.1 ∈ zT := zT_mk 608 (by decide +kernel) (by decide +kernel)
theorem l_Pr_3 : Cond.methodLink "SpeedKernel$Profile" 3 ⟨"java/lang/Object", "<init>", "()V"⟩ ∈ zT := zT_mk 166 (by decide +kernel) (by decide +kernel)
theorem l_Pr_9 : Cond.fieldLink "SpeedKernel$Profile" 9 "SpeedKernel$Profile" "begin" "[I" ∈ zT := zT_mk 210 (by decide +kernel) (by decide +kernel)
theorem l_Pr_15 : Cond.fieldLink "SpeedKernel$Profile" 15 "SpeedKernel$Profile" "end" "[I" ∈ zT := zT_mk 213 (by decide +kernel) (by decide +kernel)
theorem l_Pr_18 : Cond.classLink "SpeedKernel$Profile" 18 "SpeedKernel$Fraction" ∈ zT := zT_mk 167 (by decide +kernel) (by decide +kernel)
theorem l_Pr_20 : Cond.fieldLink "SpeedKernel$Profile" 20 "SpeedKernel$Profile" "rate" "[LSpeedKernel$Fraction;" ∈ zT := zT_mk 216 (by decide +kernel) (by decide +kernel)
theorem l_Pr_24 : Cond.fieldLink "SpeedKernel$Profile" 24 "SpeedKernel$Profile" "done" "[LSpeedKernel$Fraction;" ∈ zT := zT_mk 219 (by decide +kernel) (by decide +kernel)
theorem l_Pr_27 : Cond.fieldLink "SpeedKernel$Profile" 27 "SpeedKernel$Profile" "worker" "[I" ∈ zT := zT_mk 223 (by decide +kernel) (by decide +kernel)
theorem l_Pr_30 : Cond.methodLink "SpeedKernel$Profile" 30 M_Fr_init.1 ∈ zT := zT_mk 170 (by decide +kernel) (by decide +kernel)
theorem l_Pr_31 : Cond.fieldLink "SpeedKernel$Profile" 31 "SpeedKernel$Profile" "cost" "LSpeedKernel$Fraction;" ∈ zT := zT_mk 227 (by decide +kernel) (by decide +kernel)
theorem l_Pr_35 : Cond.fieldLink "SpeedKernel$Profile" 35 "SpeedKernel$Profile" "ready" "Z" ∈ zT := zT_mk 205 (by decide +kernel) (by decide +kernel)
theorem l_Pr_39 : Cond.fieldLink "SpeedKernel$Profile" 39 "SpeedKernel$Profile" "steps" "I" ∈ zT := zT_mk 207 (by decide +kernel) (by decide +kernel)
theorem l_Pr_43 : Cond.methodLink "SpeedKernel$Profile" 43 M_Ar_fill2.1 ∈ zT := zT_mk 523 (by decide +kernel) (by decide +kernel)
theorem l_Pr_49 : Cond.methodLink "SpeedKernel$Profile" 49 M_Fr_isSame.1 ∈ zT := zT_mk 585 (by decide +kernel) (by decide +kernel)
theorem l_Pr_53 : Cond.methodLink "SpeedKernel$Profile" 53 M_Fr_copyFrom.1 ∈ zT := zT_mk 593 (by decide +kernel) (by decide +kernel)
theorem l_Pr_57 : Cond.methodLink "SpeedKernel$Profile" 57 ⟨"java/lang/Math", "min", "(II)I"⟩ ∈ zT := zT_mk 1188 (by decide +kernel) (by decide +kernel)
theorem l_Pr_63 : Cond.methodLink "SpeedKernel$Profile" 63 ⟨"java/lang/Math", "max", "(II)I"⟩ ∈ zT := zT_mk 1189 (by decide +kernel) (by decide +kernel)
theorem l_Re_3 : Cond.methodLink "SpeedKernel$Reckoner" 3 ⟨"java/lang/Object", "<init>", "()V"⟩ ∈ zT := zT_mk 252 (by decide +kernel) (by decide +kernel)
theorem l_Re_9 : Cond.classLink "SpeedKernel$Reckoner" 9 "SpeedKernel$Natural" ∈ zT := zT_mk 253 (by decide +kernel) (by decide +kernel)
theorem l_Re_12 : Cond.fieldLink "SpeedKernel$Reckoner" 12 "SpeedKernel$Reckoner" "first" "LSpeedKernel$Natural;" ∈ zT := zT_mk 256 (by decide +kernel) (by decide +kernel)
theorem l_Re_18 : Cond.fieldLink "SpeedKernel$Reckoner" 18 "SpeedKernel$Reckoner" "second" "LSpeedKernel$Natural;" ∈ zT := zT_mk 257 (by decide +kernel) (by decide +kernel)
theorem l_Re_21 : Cond.fieldLink "SpeedKernel$Reckoner" 21 "SpeedKernel$Reckoner" "quotient" "LSpeedKernel$Natural;" ∈ zT := zT_mk 258 (by decide +kernel) (by decide +kernel)
theorem l_Re_24 : Cond.fieldLink "SpeedKernel$Reckoner" 24 "SpeedKernel$Reckoner" "shifted" "LSpeedKernel$Natural;" ∈ zT := zT_mk 259 (by decide +kernel) (by decide +kernel)
theorem l_Re_27 : Cond.fieldLink "SpeedKernel$Reckoner" 27 "SpeedKernel$Reckoner" "product" "LSpeedKernel$Natural;" ∈ zT := zT_mk 260 (by decide +kernel) (by decide +kernel)
theorem l_Re_30 : Cond.fieldLink "SpeedKernel$Reckoner" 30 "SpeedKernel$Reckoner" "spare" "LSpeedKernel$Natural;" ∈ zT := zT_mk 261 (by decide +kernel) (by decide +kernel)
theorem l_Re_33 : Cond.fieldLink "SpeedKernel$Reckoner" 33 "SpeedKernel$Reckoner" "sum" "LSpeedKernel$Natural;" ∈ zT := zT_mk 262 (by decide +kernel) (by decide +kernel)
theorem l_Re_36 : Cond.fieldLink "SpeedKernel$Reckoner" 36 "SpeedKernel$Reckoner" "common" "LSpeedKernel$Natural;" ∈ zT := zT_mk 263 (by decide +kernel) (by decide +kernel)
theorem l_Re_39 : Cond.fieldLink "SpeedKernel$Reckoner" 39 "SpeedKernel$Reckoner" "shares" "[LSpeedKernel$Natural;" ∈ zT := zT_mk 264 (by decide +kernel) (by decide +kernel)
theorem l_Re_51 : Cond.methodLink "SpeedKernel$Reckoner" 51 M_Na_setProduct.1 ∈ zT := zT_mk 683 (by decide +kernel) (by decide +kernel)
theorem l_Re_55 : Cond.methodLink "SpeedKernel$Reckoner" 55 M_Na_order.1 ∈ zT := zT_mk 1140 (by decide +kernel) (by decide +kernel)
theorem l_Re_59 : Cond.methodLink "SpeedKernel$Reckoner" 59 M_Re_commonOf.1 ∈ zT := zT_mk 625 (by decide +kernel) (by decide +kernel)
theorem l_Re_63 : Cond.methodLink "SpeedKernel$Reckoner" 63 M_Na_isZero.1 ∈ zT := zT_mk 630 (by decide +kernel) (by decide +kernel)
theorem l_Re_67 : Cond.methodLink "SpeedKernel$Reckoner" 67 M_Na_isOne.1 ∈ zT := zT_mk 1031 (by decide +kernel) (by decide +kernel)
theorem l_Re_70 : Cond.methodLink "SpeedKernel$Reckoner" 70 M_Na_divideBy.1 ∈ zT := zT_mk 643 (by decide +kernel) (by decide +kernel)
theorem l_Re_74 : Cond.methodLink "SpeedKernel$Reckoner" 74 M_Na_copyFrom.1 ∈ zT := zT_mk 629 (by decide +kernel) (by decide +kernel)
theorem l_Re_78 : Cond.methodLink "SpeedKernel$Reckoner" 78 M_Na_fitsLong.1 ∈ zT := zT_mk 634 (by decide +kernel) (by decide +kernel)
theorem l_Re_81 : Cond.methodLink "SpeedKernel$Reckoner" 81 M_Na_asLong.1 ∈ zT := zT_mk 638 (by decide +kernel) (by decide +kernel)
theorem l_Re_88 : Cond.methodLink "SpeedKernel$Reckoner" 88 M_Na_setSmall.1 ∈ zT := zT_mk 624 (by decide +kernel) (by decide +kernel)
theorem l_Re_92 : Cond.methodLink "SpeedKernel$Reckoner" 92 M_Na_times.1 ∈ zT := zT_mk 1018 (by decide +kernel) (by decide +kernel)
theorem l_Re_96 : Cond.methodLink "SpeedKernel$Reckoner" 96 M_Na_add.1 ∈ zT := zT_mk 1022 (by decide +kernel) (by decide +kernel)
theorem l_Re_109 : Cond.methodLink "SpeedKernel$Reckoner" 109 M_Re_shareOut.1 ∈ zT := zT_mk 620 (by decide +kernel) (by decide +kernel)
theorem l_Re_124 : Cond.methodLink "SpeedKernel$Reckoner" 124 M_Re_lower.1 ∈ zT := zT_mk 1027 (by decide +kernel) (by decide +kernel)
theorem l_Re_128 : Cond.methodLink "SpeedKernel$Reckoner" 128 M_Pr_lengthWithin.1 ∈ zT := zT_mk 1184 (by decide +kernel) (by decide +kernel)
theorem l_Re_132 : Cond.methodLink "SpeedKernel$Reckoner" 132 M_Re_orderOfWork.1 ∈ zT := zT_mk 1180 (by decide +kernel) (by decide +kernel)
theorem l_Sp_3 : Cond.methodLink "SpeedKernel$Splitter" 3 ⟨"java/lang/Object", "<init>", "()V"⟩ ∈ zT := zT_mk 377 (by decide +kernel) (by decide +kernel)
theorem l_Sp_9 : Cond.fieldLink "SpeedKernel$Splitter" 9 "SpeedKernel$Splitter" "lesser" "[I" ∈ zT := zT_mk 382 (by decide +kernel) (by decide +kernel)
theorem l_Sp_15 : Cond.fieldLink "SpeedKernel$Splitter" 15 "SpeedKernel$Splitter" "greater" "[I" ∈ zT := zT_mk 384 (by decide +kernel) (by decide +kernel)
theorem l_Sp_18 : Cond.classLink "SpeedKernel$Splitter" 18 "SpeedKernel$Fraction" ∈ zT := zT_mk 378 (by decide +kernel) (by decide +kernel)
theorem l_Sp_20 : Cond.fieldLink "SpeedKernel$Splitter" 20 "SpeedKernel$Splitter" "slowly" "[LSpeedKernel$Fraction;" ∈ zT := zT_mk 386 (by decide +kernel) (by decide +kernel)
theorem l_Sp_24 : Cond.fieldLink "SpeedKernel$Splitter" 24 "SpeedKernel$Splitter" "fast" "[LSpeedKernel$Fraction;" ∈ zT := zT_mk 388 (by decide +kernel) (by decide +kernel)
theorem l_Sp_27 : Cond.methodLink "SpeedKernel$Splitter" 27 M_Fr_init.1 ∈ zT := zT_mk 379 (by decide +kernel) (by decide +kernel)
theorem l_Sp_28 : Cond.fieldLink "SpeedKernel$Splitter" 28 "SpeedKernel$Splitter" "cost" "LSpeedKernel$Fraction;" ∈ zT := zT_mk 390 (by decide +kernel) (by decide +kernel)
theorem l_Sp_32 : Cond.fieldLink "SpeedKernel$Splitter" 32 "SpeedKernel$Splitter" "ready" "Z" ∈ zT := zT_mk 380 (by decide +kernel) (by decide +kernel)
theorem l_Sp_36 : Cond.methodLink "SpeedKernel$Splitter" 36 M_Fr_setSmall.1 ∈ zT := zT_mk 1232 (by decide +kernel) (by decide +kernel)
theorem l_Sp_40 : Cond.methodLink "SpeedKernel$Splitter" 40 M_Pl_hasGroup.1 ∈ zT := zT_mk 1233 (by decide +kernel) (by decide +kernel)
theorem l_Sp_52 : Cond.methodLink "SpeedKernel$Splitter" 52 M_Le_leastFor.1 ∈ zT := zT_mk 1234 (by decide +kernel) (by decide +kernel)
theorem l_Sp_58 : Cond.methodLink "SpeedKernel$Splitter" 58 M_Sp_splitGroup.1 ∈ zT := zT_mk 1238 (by decide +kernel) (by decide +kernel)
theorem l_Sp_62 : Cond.methodLink "SpeedKernel$Splitter" 62 M_Re_lower.1 ∈ zT := zT_mk 1249 (by decide +kernel) (by decide +kernel)
theorem l_Sp_68 : Cond.methodLink "SpeedKernel$Splitter" 68 M_Le_rateOf.1 ∈ zT := zT_mk 1242 (by decide +kernel) (by decide +kernel)
theorem l_Sp_72 : Cond.methodLink "SpeedKernel$Splitter" 72 M_Le_costOf.1 ∈ zT := zT_mk 1243 (by decide +kernel) (by decide +kernel)
theorem l_Sp_75 : Cond.methodLink "SpeedKernel$Splitter" 75 M_Re_add.1 ∈ zT := zT_mk 1244 (by decide +kernel) (by decide +kernel)
theorem l_Sp_85 : Cond.methodLink "SpeedKernel$Splitter" 85 M_Pl_groupOf.1 ∈ zT := zT_mk 1248 (by decide +kernel) (by decide +kernel)
theorem l_Te_3 : Cond.methodLink "SpeedKernel$Text" 3 ⟨"java/lang/Object", "<init>", "()V"⟩ ∈ zT := zT_mk 410 (by decide +kernel) (by decide +kernel)
theorem l_Te_9 : Cond.fieldLink "SpeedKernel$Text" 9 "SpeedKernel$Text" "characters" "[C" ∈ zT := zT_mk 413 (by decide +kernel) (by decide +kernel)
theorem l_Te_15 : Cond.fieldLink "SpeedKernel$Text" 15 "SpeedKernel$Text" "chunks" "[I" ∈ zT := zT_mk 415 (by decide +kernel) (by decide +kernel)
theorem l_Te_19 : Cond.classLink "SpeedKernel$Text" 19 "SpeedKernel$Natural" ∈ zT := zT_mk 411 (by decide +kernel) (by decide +kernel)
theorem l_Te_22 : Cond.fieldLink "SpeedKernel$Text" 22 "SpeedKernel$Text" "rest" "LSpeedKernel$Natural;" ∈ zT := zT_mk 416 (by decide +kernel) (by decide +kernel)
theorem l_Te_26 : Cond.fieldLink "SpeedKernel$Text" 26 "SpeedKernel$Text" "length" "I" ∈ zT := zT_mk 414 (by decide +kernel) (by decide +kernel)
theorem l_Te_35 : Cond.methodLink "SpeedKernel$Text" 35 M_Te_writeNumber.1 ∈ zT := zT_mk 1106 (by decide +kernel) (by decide +kernel)
theorem l_Te_42 : Cond.methodLink "SpeedKernel$Text" 42 M_Na_isOne.1 ∈ zT := zT_mk 1123 (by decide +kernel) (by decide +kernel)
theorem l_Te_46 : Cond.methodLink "SpeedKernel$Text" 46 M_Te_push.1 ∈ zT := zT_mk 1119 (by decide +kernel) (by decide +kernel)
theorem l_Te_50 : Cond.methodLink "SpeedKernel$Text" 50 M_Na_copyFrom.1 ∈ zT := zT_mk 1110 (by decide +kernel) (by decide +kernel)
theorem l_Te_53 : Cond.methodLink "SpeedKernel$Text" 53 M_Na_isZero.1 ∈ zT := zT_mk 1111 (by decide +kernel) (by decide +kernel)
theorem l_Te_56 : Cond.constant "SpeedKernel$Text" 56 (1000000000) ∈ zT := zT_mk 1112 (by decide +kernel) (by decide +kernel)
theorem l_Te_57 : Cond.methodLink "SpeedKernel$Text" 57 M_Na_divideSmall.1 ∈ zT := zT_mk 1113 (by decide +kernel) (by decide +kernel)
theorem l_Te_61 : Cond.methodLink "SpeedKernel$Text" 61 M_Te_writeChunk.1 ∈ zT := zT_mk 1114 (by decide +kernel) (by decide +kernel)
theorem l_Te_65 : Cond.constant "SpeedKernel$Text" 65 (100000000) ∈ zT := zT_mk 1118 (by decide +kernel) (by decide +kernel)
theorem l_La_7 : Cond.methodLink "SpeedKernelLaw" 7 M_Ke_split.1 ∈ zT := zT_mk 1203 (by decide +kernel) (by decide +kernel)
theorem l_La_15 : Cond.methodLink "SpeedKernelLaw" 15 M_Ke_step.1 ∈ zT := zT_mk 1255 (by decide +kernel) (by decide +kernel)
theorem l_La_8 : Cond.classLink "SpeedKernelLaw" 8 "SpeedKernel" ∈ zT := zT_mk 97 (by decide +kernel) (by decide +kernel)
theorem l_La_23 : Cond.methodLink "SpeedKernelLaw" 23 M_Ke_init.1 ∈ zT := zT_mk 99 (by decide +kernel) (by decide +kernel)
theorem l_La_24 : Cond.classLink "SpeedKernelLaw" 24 "SpeedKernelModel" ∈ zT := zT_mk 1279 (by decide +kernel) (by decide +kernel)
theorem l_La_26 : Cond.methodLink "SpeedKernelLaw" 26 M_Mo_init.1 ∈ zT := zT_mk 1281 (by decide +kernel) (by decide +kernel)
theorem l_La_27 : Cond.methodLink "SpeedKernelLaw" 27 M_Ke_job.1 ∈ zT := zT_mk 455 (by decide +kernel) (by decide +kernel)
theorem l_La_30 : Cond.methodLink "SpeedKernelLaw" 30 M_Mo_job.1 ∈ zT := zT_mk 1394 (by decide +kernel) (by decide +kernel)
theorem l_La_31 : Cond.methodLink "SpeedKernelLaw" 31 M_Ke_level.1 ∈ zT := zT_mk 467 (by decide +kernel) (by decide +kernel)
theorem l_La_35 : Cond.methodLink "SpeedKernelLaw" 35 M_Mo_level.1 ∈ zT := zT_mk 1401 (by decide +kernel) (by decide +kernel)
theorem l_La_36 : Cond.methodLink "SpeedKernelLaw" 36 M_Ke_convex.1 ∈ zT := zT_mk 484 (by decide +kernel) (by decide +kernel)
theorem l_La_39 : Cond.methodLink "SpeedKernelLaw" 39 M_Mo_convex.1 ∈ zT := zT_mk 1406 (by decide +kernel) (by decide +kernel)
theorem l_La_40 : Cond.methodLink "SpeedKernelLaw" 40 M_Ke_clear.1 ∈ zT := zT_mk 497 (by decide +kernel) (by decide +kernel)
theorem l_La_43 : Cond.methodLink "SpeedKernelLaw" 43 M_Mo_clear.1 ∈ zT := zT_mk 1410 (by decide +kernel) (by decide +kernel)
theorem l_La_44 : Cond.methodLink "SpeedKernelLaw" 44 M_Ke_about.1 ∈ zT := zT_mk 501 (by decide +kernel) (by decide +kernel)
theorem l_La_47 : Cond.methodLink "SpeedKernelLaw" 47 M_Mo_about.1 ∈ zT := zT_mk 1414 (by decide +kernel) (by decide +kernel)
theorem l_La_48 : Cond.methodLink "SpeedKernelLaw" 48 M_Ke_plan.1 ∈ zT := zT_mk 511 (by decide +kernel) (by decide +kernel)
theorem l_La_51 : Cond.methodLink "SpeedKernelLaw" 51 M_Mo_plan.1 ∈ zT := zT_mk 1418 (by decide +kernel) (by decide +kernel)
theorem l_La_52 : Cond.methodLink "SpeedKernelLaw" 52 M_Ke_ahead.1 ∈ zT := zT_mk 1035 (by decide +kernel) (by decide +kernel)
theorem l_La_55 : Cond.methodLink "SpeedKernelLaw" 55 M_Mo_ahead.1 ∈ zT := zT_mk 1527 (by decide +kernel) (by decide +kernel)
theorem l_La_56 : Cond.methodLink "SpeedKernelLaw" 56 ⟨"SpeedKernelLaw", "split", "(LSpeedKernel;[J)I"⟩ ∈ zT := zT_mk 1199 (by decide +kernel) (by decide +kernel)
theorem l_La_61 : Cond.methodLink "SpeedKernelLaw" 61 M_Mo_split.1 ∈ zT := zT_mk 1555 (by decide +kernel) (by decide +kernel)
theorem l_La_62 : Cond.methodLink "SpeedKernelLaw" 62 M_Mo_thrown.1 ∈ zT := zT_mk 1390 (by decide +kernel) (by decide +kernel)
theorem l_La_65 : Cond.methodLink "SpeedKernelLaw" 65 ⟨"SpeedKernelLaw", "step", "(LSpeedKernel;III[J)I"⟩ ∈ zT := zT_mk 1250 (by decide +kernel) (by decide +kernel)
theorem l_La_68 : Cond.methodLink "SpeedKernelLaw" 68 M_Mo_step.1 ∈ zT := zT_mk 1571 (by decide +kernel) (by decide +kernel)
theorem l_La_69 : Cond.methodLink "SpeedKernelLaw" 69 M_Ke_print.1 ∈ zT := zT_mk 1086 (by decide +kernel) (by decide +kernel)
theorem l_La_72 : Cond.methodLink "SpeedKernelLaw" 72 M_Mo_print.1 ∈ zT := zT_mk 1575 (by decide +kernel) (by decide +kernel)
theorem l_La_73 : Cond.methodLink "SpeedKernelLaw" 73 M_Ke_character.1 ∈ zT := zT_mk 1124 (by decide +kernel) (by decide +kernel)
theorem l_La_77 : Cond.methodLink "SpeedKernelLaw" 77 M_Mo_character.1 ∈ zT := zT_mk 1587 (by decide +kernel) (by decide +kernel)
theorem l_La_78 : Cond.methodLink "SpeedKernelLaw" 78 M_Ke_compare.1 ∈ zT := zT_mk 1132 (by decide +kernel) (by decide +kernel)
theorem l_La_82 : Cond.methodLink "SpeedKernelLaw" 82 M_Mo_compare.1 ∈ zT := zT_mk 1591 (by decide +kernel) (by decide +kernel)
theorem l_La_83 : Cond.methodLink "SpeedKernelLaw" 83 M_Ke_levelOf.1 ∈ zT := zT_mk 1141 (by decide +kernel) (by decide +kernel)
theorem l_La_86 : Cond.methodLink "SpeedKernelLaw" 86 M_Mo_levelOf.1 ∈ zT := zT_mk 1567 (by decide +kernel) (by decide +kernel)
theorem l_La_87 : Cond.methodLink "SpeedKernelLaw" 87 M_Ke_near.1 ∈ zT := zT_mk 1145 (by decide +kernel) (by decide +kernel)
theorem l_La_91 : Cond.methodLink "SpeedKernelLaw" 91 M_Mo_near.1 ∈ zT := zT_mk 1595 (by decide +kernel) (by decide +kernel)
theorem l_La_92 : Cond.constantDouble "SpeedKernelLaw" 92 (4593671619917905920) ∈ zT := zT_mk 1615 (by decide +kernel) (by decide +kernel)
theorem l_La_94 : Cond.methodLink "SpeedKernelLaw" 94 M_Ke_speed.1 ∈ zT := zT_mk 1154 (by decide +kernel) (by decide +kernel)
theorem l_La_98 : Cond.methodLink "SpeedKernelLaw" 98 M_Mo_speed.1 ∈ zT := zT_mk 1603 (by decide +kernel) (by decide +kernel)
theorem l_La_99 : Cond.methodLink "SpeedKernelLaw" 99 M_Ke_working.1 ∈ zT := zT_mk 1158 (by decide +kernel) (by decide +kernel)
theorem l_La_102 : Cond.methodLink "SpeedKernelLaw" 102 M_Mo_working.1 ∈ zT := zT_mk 1607 (by decide +kernel) (by decide +kernel)
theorem l_La_103 : Cond.methodLink "SpeedKernelLaw" 103 M_Ke_check.1 ∈ zT := zT_mk 1162 (by decide +kernel) (by decide +kernel)
theorem l_La_106 : Cond.methodLink "SpeedKernelLaw" 106 M_Mo_check.1 ∈ zT := zT_mk 1611 (by decide +kernel) (by decide +kernel)
theorem l_Ar_13 : Cond.methodLink "java/util/Arrays" 13 M_Ar_rangeCheck.1 ∈ zT := zT_mk 691 (by decide +kernel) (by decide +kernel)
theorem l_Ar_43 : Cond.classLink "java/util/Arrays" 43 "java/lang/IllegalArgumentException" ∈ zT := zT_mk 694 (by decide +kernel) (by decide +kernel)
theorem l_Ar_45 : Cond.classLink "java/util/Arrays" 45 "java/lang/StringBuilder" ∈ zT := zT_mk 736 (by decide +kernel) (by decide +kernel)
theorem l_Ar_47 : Cond.methodLink "java/util/Arrays" 47 ⟨"java/lang/StringBuilder", "<init>", "()V"⟩ ∈ zT := zT_mk 738 (by decide +kernel) (by decide +kernel)
theorem l_Ar_50 : Cond.methodLink "java/util/Arrays" 50 ⟨"java/lang/StringBuilder", "append", "(Ljava/lang/String;)Ljava/lang/StringBuilder;"⟩ ∈ zT := zT_mk 769 (by decide +kernel) (by decide +kernel)
theorem l_Ar_54 : Cond.methodLink "java/util/Arrays" 54 ⟨"java/lang/StringBuilder", "append", "(I)Ljava/lang/StringBuilder;"⟩ ∈ zT := zT_mk 883 (by decide +kernel) (by decide +kernel)
theorem l_Ar_61 : Cond.methodLink "java/util/Arrays" 61 ⟨"java/lang/StringBuilder", "toString", "()Ljava/lang/String;"⟩ ∈ zT := zT_mk 910 (by decide +kernel) (by decide +kernel)
theorem l_Ar_65 : Cond.methodLink "java/util/Arrays" 65 ⟨"java/lang/IllegalArgumentException", "<init>", "(Ljava/lang/String;)V"⟩ ∈ zT := zT_mk 947 (by decide +kernel) (by decide +kernel)
theorem l_Ar_68 : Cond.classLink "java/util/Arrays" 68 "java/lang/ArrayIndexOutOfBoundsException" ∈ zT := zT_mk 996 (by decide +kernel) (by decide +kernel)
theorem l_Ar_70 : Cond.methodLink "java/util/Arrays" 70 ⟨"java/lang/ArrayIndexOutOfBoundsException", "<init>", "(I)V"⟩ ∈ zT := zT_mk 998 (by decide +kernel) (by decide +kernel)
/-- links to private members of nest mates -/
def zNestI : List Nat := [113, 151, 381, 118, 122, 127, 206, 209, 212, 215, 383, 385, 218, 226, 229, 222, 387, 389, 391, 112, 125, 220, 117, 121, 130, 195, 199, 224, 115, 119, 123, 128, 131, 225, 221, 193, 197, 208, 217, 214, 211, 228, 294, 296, 114, 126, 194, 198, 107, 146, 407, 341, 176, 552, 254, 642, 412]
def zNest : List Cond := zNestI.filterMap (fun i => lw_tbl[i]?)
def zNestOk : Cond → Bool
  | .fieldLinkNest .. => true
  | .methodLinkNest .. => true
  | _ => false
theorem zNest_ok : ∀ w ∈ zNest, zNestOk w = true := List.all_eq_true.mp (by decide +kernel)
theorem zNest_in : ∀ w ∈ zNest, w ∈ lw_tbl := by
  intro w hw
  obtain ⟨i, -, hi⟩ := List.mem_filterMap.mp hw
  exact List.mem_of_getElem? hi
theorem l_Ke_68 : Cond.fieldLinkNest "SpeedKernel" 68 "SpeedKernel$Jobs" "count" "I" "SpeedKernel" ∈ zNest := List.mem_of_getElem? (i := 0) (by decide +kernel)
theorem l_Ke_80 : Cond.fieldLinkNest "SpeedKernel" 80 "SpeedKernel$Levels" "count" "I" "SpeedKernel" ∈ zNest := List.mem_of_getElem? (i := 1) (by decide +kernel)
theorem l_Ke_85 : Cond.fieldLinkNest "SpeedKernel" 85 "SpeedKernel$Splitter" "ready" "Z" "SpeedKernel" ∈ zNest := List.mem_of_getElem? (i := 2) (by decide +kernel)
theorem l_Ke_100 : Cond.fieldLinkNest "SpeedKernel" 100 "SpeedKernel$Jobs" "release" "[I" "SpeedKernel" ∈ zNest := List.mem_of_getElem? (i := 3) (by decide +kernel)
theorem l_Ke_104 : Cond.fieldLinkNest "SpeedKernel" 104 "SpeedKernel$Jobs" "deadline" "[I" "SpeedKernel" ∈ zNest := List.mem_of_getElem? (i := 4) (by decide +kernel)
theorem l_Ke_107 : Cond.fieldLinkNest "SpeedKernel" 107 "SpeedKernel$Jobs" "work" "[I" "SpeedKernel" ∈ zNest := List.mem_of_getElem? (i := 5) (by decide +kernel)
theorem l_Ke_122 : Cond.fieldLinkNest "SpeedKernel" 122 "SpeedKernel$Profile" "ready" "Z" "SpeedKernel" ∈ zNest := List.mem_of_getElem? (i := 6) (by decide +kernel)
theorem l_Ke_123 : Cond.fieldLinkNest "SpeedKernel" 123 "SpeedKernel$Profile" "steps" "I" "SpeedKernel" ∈ zNest := List.mem_of_getElem? (i := 7) (by decide +kernel)
theorem l_Ke_144 : Cond.fieldLinkNest "SpeedKernel" 144 "SpeedKernel$Profile" "begin" "[I" "SpeedKernel" ∈ zNest := List.mem_of_getElem? (i := 8) (by decide +kernel)
theorem l_Ke_147 : Cond.fieldLinkNest "SpeedKernel" 147 "SpeedKernel$Profile" "end" "[I" "SpeedKernel" ∈ zNest := List.mem_of_getElem? (i := 9) (by decide +kernel)
theorem l_Ke_165 : Cond.fieldLinkNest "SpeedKernel" 165 "SpeedKernel$Splitter" "lesser" "[I" "SpeedKernel" ∈ zNest := List.mem_of_getElem? (i := 10) (by decide +kernel)
theorem l_Ke_168 : Cond.fieldLinkNest "SpeedKernel" 168 "SpeedKernel$Splitter" "greater" "[I" "SpeedKernel" ∈ zNest := List.mem_of_getElem? (i := 11) (by decide +kernel)
theorem l_Ke_171 : Cond.fieldLinkNest "SpeedKernel" 171 "SpeedKernel$Profile" "rate" "[LSpeedKernel$Fraction;" "SpeedKernel" ∈ zNest := List.mem_of_getElem? (i := 12) (by decide +kernel)
theorem l_Ke_181 : Cond.fieldLinkNest "SpeedKernel" 181 "SpeedKernel$Profile" "worker" "[I" "SpeedKernel" ∈ zNest := List.mem_of_getElem? (i := 13) (by decide +kernel)
theorem l_Ke_198 : Cond.fieldLinkNest "SpeedKernel" 198 "SpeedKernel$Profile" "cost" "LSpeedKernel$Fraction;" "SpeedKernel" ∈ zNest := List.mem_of_getElem? (i := 14) (by decide +kernel)
theorem l_Ke_202 : Cond.fieldLinkNest "SpeedKernel" 202 "SpeedKernel$Profile" "done" "[LSpeedKernel$Fraction;" "SpeedKernel" ∈ zNest := List.mem_of_getElem? (i := 15) (by decide +kernel)
theorem l_Ke_208 : Cond.fieldLinkNest "SpeedKernel" 208 "SpeedKernel$Splitter" "slowly" "[LSpeedKernel$Fraction;" "SpeedKernel" ∈ zNest := List.mem_of_getElem? (i := 16) (by decide +kernel)
theorem l_Ke_211 : Cond.fieldLinkNest "SpeedKernel" 211 "SpeedKernel$Splitter" "fast" "[LSpeedKernel$Fraction;" "SpeedKernel" ∈ zNest := List.mem_of_getElem? (i := 17) (by decide +kernel)
theorem l_Ke_214 : Cond.fieldLinkNest "SpeedKernel" 214 "SpeedKernel$Splitter" "cost" "LSpeedKernel$Fraction;" "SpeedKernel" ∈ zNest := List.mem_of_getElem? (i := 18) (by decide +kernel)
theorem l_Fo_53 : Cond.fieldLinkNest "SpeedKernel$Foresight" 53 "SpeedKernel$Jobs" "count" "I" "SpeedKernel" ∈ zNest := List.mem_of_getElem? (i := 19) (by decide +kernel)
theorem l_Fo_59 : Cond.fieldLinkNest "SpeedKernel$Foresight" 59 "SpeedKernel$Jobs" "work" "[I" "SpeedKernel" ∈ zNest := List.mem_of_getElem? (i := 20) (by decide +kernel)
theorem l_Fo_111 : Cond.fieldLinkNest "SpeedKernel$Foresight" 111 "SpeedKernel$Profile" "done" "[LSpeedKernel$Fraction;" "SpeedKernel" ∈ zNest := List.mem_of_getElem? (i := 21) (by decide +kernel)
theorem l_Fo_119 : Cond.fieldLinkNest "SpeedKernel$Foresight" 119 "SpeedKernel$Jobs" "release" "[I" "SpeedKernel" ∈ zNest := List.mem_of_getElem? (i := 22) (by decide +kernel)
theorem l_Fo_122 : Cond.fieldLinkNest "SpeedKernel$Foresight" 122 "SpeedKernel$Jobs" "deadline" "[I" "SpeedKernel" ∈ zNest := List.mem_of_getElem? (i := 23) (by decide +kernel)
theorem l_Fo_125 : Cond.fieldLinkNest "SpeedKernel$Foresight" 125 "SpeedKernel$Jobs" "byDeadline" "[I" "SpeedKernel" ∈ zNest := List.mem_of_getElem? (i := 24) (by decide +kernel)
theorem l_Fo_146 : Cond.fieldLinkNest "SpeedKernel$Foresight" 146 "SpeedKernel$Fraction" "top" "LSpeedKernel$Natural;" "SpeedKernel" ∈ zNest := List.mem_of_getElem? (i := 25) (by decide +kernel)
theorem l_Fo_149 : Cond.fieldLinkNest "SpeedKernel$Foresight" 149 "SpeedKernel$Fraction" "below" "LSpeedKernel$Natural;" "SpeedKernel" ∈ zNest := List.mem_of_getElem? (i := 26) (by decide +kernel)
theorem l_Fo_152 : Cond.fieldLinkNest "SpeedKernel$Foresight" 152 "SpeedKernel$Profile" "worker" "[I" "SpeedKernel" ∈ zNest := List.mem_of_getElem? (i := 27) (by decide +kernel)
theorem l_Pl_87 : Cond.fieldLinkNest "SpeedKernel$Planner" 87 "SpeedKernel$Jobs" "count" "I" "SpeedKernel" ∈ zNest := List.mem_of_getElem? (i := 28) (by decide +kernel)
theorem l_Pl_92 : Cond.fieldLinkNest "SpeedKernel$Planner" 92 "SpeedKernel$Jobs" "release" "[I" "SpeedKernel" ∈ zNest := List.mem_of_getElem? (i := 29) (by decide +kernel)
theorem l_Pl_95 : Cond.fieldLinkNest "SpeedKernel$Planner" 95 "SpeedKernel$Jobs" "deadline" "[I" "SpeedKernel" ∈ zNest := List.mem_of_getElem? (i := 30) (by decide +kernel)
theorem l_Pl_106 : Cond.fieldLinkNest "SpeedKernel$Planner" 106 "SpeedKernel$Jobs" "work" "[I" "SpeedKernel" ∈ zNest := List.mem_of_getElem? (i := 31) (by decide +kernel)
theorem l_Pl_143 : Cond.fieldLinkNest "SpeedKernel$Planner" 143 "SpeedKernel$Jobs" "byDeadline" "[I" "SpeedKernel" ∈ zNest := List.mem_of_getElem? (i := 32) (by decide +kernel)
theorem l_Pl_146 : Cond.fieldLinkNest "SpeedKernel$Planner" 146 "SpeedKernel$Profile" "worker" "[I" "SpeedKernel" ∈ zNest := List.mem_of_getElem? (i := 33) (by decide +kernel)
theorem l_Pl_149 : Cond.fieldLinkNest "SpeedKernel$Planner" 149 "SpeedKernel$Profile" "done" "[LSpeedKernel$Fraction;" "SpeedKernel" ∈ zNest := List.mem_of_getElem? (i := 34) (by decide +kernel)
theorem l_Re_43 : Cond.fieldLinkNest "SpeedKernel$Reckoner" 43 "SpeedKernel$Fraction" "top" "LSpeedKernel$Natural;" "SpeedKernel" ∈ zNest := List.mem_of_getElem? (i := 35) (by decide +kernel)
theorem l_Re_48 : Cond.fieldLinkNest "SpeedKernel$Reckoner" 48 "SpeedKernel$Fraction" "below" "LSpeedKernel$Natural;" "SpeedKernel" ∈ zNest := List.mem_of_getElem? (i := 36) (by decide +kernel)
theorem l_Re_99 : Cond.fieldLinkNest "SpeedKernel$Reckoner" 99 "SpeedKernel$Profile" "steps" "I" "SpeedKernel" ∈ zNest := List.mem_of_getElem? (i := 37) (by decide +kernel)
theorem l_Re_105 : Cond.fieldLinkNest "SpeedKernel$Reckoner" 105 "SpeedKernel$Profile" "rate" "[LSpeedKernel$Fraction;" "SpeedKernel" ∈ zNest := List.mem_of_getElem? (i := 38) (by decide +kernel)
theorem l_Re_113 : Cond.fieldLinkNest "SpeedKernel$Reckoner" 113 "SpeedKernel$Profile" "end" "[I" "SpeedKernel" ∈ zNest := List.mem_of_getElem? (i := 39) (by decide +kernel)
theorem l_Re_117 : Cond.fieldLinkNest "SpeedKernel$Reckoner" 117 "SpeedKernel$Profile" "begin" "[I" "SpeedKernel" ∈ zNest := List.mem_of_getElem? (i := 40) (by decide +kernel)
theorem l_Re_120 : Cond.fieldLinkNest "SpeedKernel$Reckoner" 120 "SpeedKernel$Profile" "cost" "LSpeedKernel$Fraction;" "SpeedKernel" ∈ zNest := List.mem_of_getElem? (i := 41) (by decide +kernel)
theorem l_Sp_46 : Cond.fieldLinkNest "SpeedKernel$Splitter" 46 "SpeedKernel$Planner" "groupWork" "[I" "SpeedKernel" ∈ zNest := List.mem_of_getElem? (i := 42) (by decide +kernel)
theorem l_Sp_49 : Cond.fieldLinkNest "SpeedKernel$Splitter" 49 "SpeedKernel$Planner" "groupTime" "[I" "SpeedKernel" ∈ zNest := List.mem_of_getElem? (i := 43) (by decide +kernel)
theorem l_Sp_79 : Cond.fieldLinkNest "SpeedKernel$Splitter" 79 "SpeedKernel$Jobs" "count" "I" "SpeedKernel" ∈ zNest := List.mem_of_getElem? (i := 44) (by decide +kernel)
theorem l_Sp_88 : Cond.fieldLinkNest "SpeedKernel$Splitter" 88 "SpeedKernel$Jobs" "work" "[I" "SpeedKernel" ∈ zNest := List.mem_of_getElem? (i := 45) (by decide +kernel)
theorem l_Te_30 : Cond.fieldLinkNest "SpeedKernel$Text" 30 "SpeedKernel$Fraction" "top" "LSpeedKernel$Natural;" "SpeedKernel" ∈ zNest := List.mem_of_getElem? (i := 46) (by decide +kernel)
theorem l_Te_39 : Cond.fieldLinkNest "SpeedKernel$Text" 39 "SpeedKernel$Fraction" "below" "LSpeedKernel$Natural;" "SpeedKernel" ∈ zNest := List.mem_of_getElem? (i := 47) (by decide +kernel)
theorem l_Ke_11 : Cond.methodLinkNest "SpeedKernel" 11 M_Jo_init.1 "SpeedKernel" ∈ zNest := List.mem_of_getElem? (i := 48) (by decide +kernel)
theorem l_Ke_18 : Cond.methodLinkNest "SpeedKernel" 18 M_Le_init.1 "SpeedKernel" ∈ zNest := List.mem_of_getElem? (i := 49) (by decide +kernel)
theorem l_Ke_63 : Cond.methodLinkNest "SpeedKernel" 63 M_Te_init.1 "SpeedKernel" ∈ zNest := List.mem_of_getElem? (i := 50) (by decide +kernel)
theorem l_Fo_17 : Cond.methodLinkNest "SpeedKernel$Foresight" 17 M_Na_init.1 "SpeedKernel" ∈ zNest := List.mem_of_getElem? (i := 51) (by decide +kernel)
theorem l_Fr_9 : Cond.methodLinkNest "SpeedKernel$Fraction" 9 M_Na_init.1 "SpeedKernel" ∈ zNest := List.mem_of_getElem? (i := 52) (by decide +kernel)
theorem l_Fr_23 : Cond.methodLinkNest "SpeedKernel$Fraction" 23 M_Ke_commonOf.1 "SpeedKernel" ∈ zNest := List.mem_of_getElem? (i := 53) (by decide +kernel)
theorem l_Re_11 : Cond.methodLinkNest "SpeedKernel$Reckoner" 11 M_Na_init.1 "SpeedKernel" ∈ zNest := List.mem_of_getElem? (i := 54) (by decide +kernel)
theorem l_Re_85 : Cond.methodLinkNest "SpeedKernel$Reckoner" 85 M_Ke_commonOf.1 "SpeedKernel" ∈ zNest := List.mem_of_getElem? (i := 55) (by decide +kernel)
theorem l_Te_21 : Cond.methodLinkNest "SpeedKernel$Text" 21 M_Na_init.1 "SpeedKernel" ∈ zNest := List.mem_of_getElem? (i := 56) (by decide +kernel)
theorem zi_Ke : Cond.instantiable R_Ke 9 ∈ zT ∧ Cond.initialized R_Ke ∈ zT := ⟨zT_mk 98 (by decide +kernel) (by decide +kernel), zT_mk 67 (by decide +kernel) (by decide +kernel)⟩
theorem zi_Jo : Cond.instantiable R_Jo 5 ∈ zT ∧ Cond.initialized R_Jo ∈ zT := ⟨zT_mk 106 (by decide +kernel) (by decide +kernel), zT_mk 68 (by decide +kernel) (by decide +kernel)⟩
theorem zi_Le : Cond.instantiable R_Le 3 ∈ zT ∧ Cond.initialized R_Le ∈ zT := ⟨zT_mk 145 (by decide +kernel) (by decide +kernel), zT_mk 69 (by decide +kernel) (by decide +kernel)⟩
theorem zi_Na : Cond.instantiable R_Na 2 ∈ zT ∧ Cond.initialized R_Na ∈ zT := ⟨zT_mk 175 (by decide +kernel) (by decide +kernel), zT_mk 72 (by decide +kernel) (by decide +kernel)⟩
theorem zi_Fr : Cond.instantiable R_Fr 2 ∈ zT ∧ Cond.initialized R_Fr ∈ zT := ⟨zT_mk 169 (by decide +kernel) (by decide +kernel), zT_mk 71 (by decide +kernel) (by decide +kernel)⟩
theorem zi_Pr : Cond.instantiable R_Pr 8 ∈ zT ∧ Cond.initialized R_Pr ∈ zT := ⟨zT_mk 162 (by decide +kernel) (by decide +kernel), zT_mk 70 (by decide +kernel) (by decide +kernel)⟩
theorem zi_Re : Cond.instantiable R_Re 9 ∈ zT ∧ Cond.initialized R_Re ∈ zT := ⟨zT_mk 248 (by decide +kernel) (by decide +kernel), zT_mk 73 (by decide +kernel) (by decide +kernel)⟩
theorem zi_Pl : Cond.instantiable R_Pl 13 ∈ zT ∧ Cond.initialized R_Pl ∈ zT := ⟨zT_mk 285 (by decide +kernel) (by decide +kernel), zT_mk 74 (by decide +kernel) (by decide +kernel)⟩
theorem zi_Fo : Cond.instantiable R_Fo 9 ∈ zT ∧ Cond.initialized R_Fo ∈ zT := ⟨zT_mk 335 (by decide +kernel) (by decide +kernel), zT_mk 75 (by decide +kernel) (by decide +kernel)⟩
theorem zi_Sp : Cond.instantiable R_Sp 6 ∈ zT ∧ Cond.initialized R_Sp ∈ zT := ⟨zT_mk 373 (by decide +kernel) (by decide +kernel), zT_mk 76 (by decide +kernel) (by decide +kernel)⟩
theorem zi_Te : Cond.instantiable R_Te 4 ∈ zT ∧ Cond.initialized R_Te ∈ zT := ⟨zT_mk 406 (by decide +kernel) (by decide +kernel), zT_mk 77 (by decide +kernel) (by decide +kernel)⟩
theorem zi_Mo : Cond.instantiable R_Mo 34 ∈ zT ∧ Cond.initialized R_Mo ∈ zT := ⟨zT_mk 1280 (by decide +kernel) (by decide +kernel), zT_mk 78 (by decide +kernel) (by decide +kernel)⟩
theorem za_int : Cond.arrayClass .int ∈ zT := zT_mk 143 (by decide +kernel) (by decide +kernel)
theorem za_long : Cond.arrayClass .long ∈ zT := zT_mk 1389 (by decide +kernel) (by decide +kernel)
theorem za_boolean : Cond.arrayClass .boolean ∈ zT := zT_mk 1388 (by decide +kernel) (by decide +kernel)
theorem za_char : Cond.arrayClass .char ∈ zT := zT_mk 426 (by decide +kernel) (by decide +kernel)
theorem zo_Natural : Cond.arrayOver (.object "SpeedKernel$Natural") ∈ lw_tbl := List.mem_of_getElem? (i := 255) (by decide +kernel)
theorem zo_Fraction : Cond.arrayOver (.object "SpeedKernel$Fraction") ∈ lw_tbl := List.mem_of_getElem? (i := 168) (by decide +kernel)
theorem zx_oi_linkc : Cond.code ⟨"java/lang/Object", "<init>", "()V"⟩ object_method_1_code 1 none ∈ zT := zT_mk 104 (by decide +kernel) (by decide +kernel)
theorem zx_oi_linki : Cond.instanceMethod ⟨"java/lang/Object", "<init>", "()V"⟩ ∈ zT := zT_mk 103 (by decide +kernel) (by decide +kernel)
theorem zx_max_c : Cond.code ⟨"java/lang/Math", "max", "(II)I"⟩ prog_22_method_65_code 2 (some .int) ∈ zT := zT_mk 576 (by decide +kernel) (by decide +kernel)
theorem zx_max_s : Cond.static ⟨"java/lang/Math", "max", "(II)I"⟩ ∈ zT := zT_mk 575 (by decide +kernel) (by decide +kernel)
theorem zx_min_c : Cond.code ⟨"java/lang/Math", "min", "(II)I"⟩ prog_22_method_69_code 2 (some .int) ∈ zT := zT_mk 565 (by decide +kernel) (by decide +kernel)
theorem zx_min_s : Cond.static ⟨"java/lang/Math", "min", "(II)I"⟩ ∈ zT := zT_mk 564 (by decide +kernel) (by decide +kernel)
theorem zx_copy : Cond.native ⟨"java/lang/System", "arraycopy", "(Ljava/lang/Object;ILjava/lang/Object;II)V"⟩ ∈ lw_tbl ∧ Cond.static ⟨"java/lang/System", "arraycopy", "(Ljava/lang/Object;ILjava/lang/Object;II)V"⟩ ∈ zT ∧ Cond.initialized "java/lang/System" ∈ zT ∧ Cond.initialized "java/lang/Math" ∈ zT := ⟨List.mem_of_getElem? (i := 603) (by decide +kernel), zT_mk 602 (by decide +kernel) (by decide +kernel), zT_mk 81 (by decide +kernel) (by decide +kernel), zT_mk 80 (by decide +kernel) (by decide +kernel)⟩
end
section
/-! the abstract machine: values, cells and locals as whole numbers; what the heap is; the judgement Zg; contracts AT -/
abbrev GG : Type := Nat × Nat × Nat × (Nat → Int32) × va_G × (Nat → ClassId)
abbrev gB (g : GG) : Nat := g.1
abbrev gb (g : GG) : Nat := g.2.1
abbrev gL (g : GG) : Nat := g.2.2.1
abbrev gx (g : GG) : Nat → Int32 := g.2.2.2.1
abbrev gD (g : GG) : va_G := g.2.2.2.2.1
abbrev gA (g : GG) : Nat → ClassId := g.2.2.2.2.2
abbrev VV : Type := Nat × Int
abbrev DD : Type := Nat → Int → Int
abbrev EE : Type := (Nat → Nat → Bool) × Nat × Prop
abbrev vI (x : Int) : VV := (0, x)
abbrev vL (x : Int) : VV := (1, x)
abbrev vD (x : Int) : VV := (2, x)
abbrev vR (a : Nat) : VV := (3, (a : Int))
abbrev vN : VV := (4, 0)
abbrev vU : VV := (5, 0)
abbrev vS : VV := (6, 0)
abbrev R32 (x : Int) : Prop := -2147483648 ≤ x ∧ x ≤ 2147483647
abbrev R64 (x : Int) : Prop := -9223372036854775808 ≤ x ∧ x ≤ 9223372036854775807
def val (g : GG) (v : VV) : Value := match v.1 with
  | 0 => .int (Int32.ofInt v.2)
  | 1 => .long (Int64.ofInt v.2)
  | 2 => .double (UInt64.ofNat v.2.toNat)
  | 3 => .ref (gB g + v.2.toNat)
  | 6 => .ref (gb g)
  | _ => .null
def okv (v : VV) : Prop := match v.1 with
  | 0 => R32 v.2
  | 1 => R64 v.2
  | 2 => 0 ≤ v.2 ∧ v.2 < 18446744073709551616
  | _ => True
theorem val_I (g : GG) (x : Int) : val g (vI x) = .int (Int32.ofInt x) := rfl
theorem val_L (g : GG) (x : Int) : val g (vL x) = .long (Int64.ofInt x) := rfl
theorem val_D (g : GG) (x : Int) : val g (vD x) = .double (UInt64.ofNat x.toNat) := rfl
theorem val_R (g : GG) (a : Nat) : val g (vR a) = .ref (gB g + a) := rfl
theorem val_N (g : GG) : val g vN = .null := rfl
theorem val_S (g : GG) : val g vS = .ref (gb g) := rfl
/-- kinds of cells, of fields -/
def zk (a : Nat) : Nat × Nat × Nat := zKT.getD a (9, 0, 0)
def zft (ci k : Nat) : Nat × Nat := (zFT.getD ci []).getD k (9, 0)
def znf (ci : Nat) : Nat := (zFT.getD ci []).length
def zra (t : Nat) : Nat × Nat × Nat := zRA.getD t (0, 0, 0)
def fval (g : GG) (E : EE) (ci i : Nat) (row : Int → Int) (k : Nat) : Value := match zft ci k with
  | (2, off) => if E.1 i k then .ref (gB g + (i + off)) else .null
  | _ => .int (Int32.ofInt (row k))
def cellE (g : GG) (E : EE) (i : Nat) (row : Int → Int) : va_E := match zk i with
  | (0, ci, _) => .inr (ci, (List.range (znf ci)).map (fun k => fval g E ci i row k))
  | (1, n, _) => .inl (gA g 1, n, .inl (fun j => Int32.ofInt (row j)))
  | (2, n, _) => .inl (gA g 2, n, .inr (.inl (fun j => Int64.ofInt (row j))))
  | (3, n, _) => .inl (gA g 3, n, .inl (fun j => Int32.ofInt (row j)))
  | (4, n, _) => .inl (gA g 4, n, .inl (fun j => Int32.ofInt (row j)))
  | (5, n, t) => .inl (gA g (zra t).1, n, .inr (.inr (.inr (.inr (fun j => if E.1 i j then some (gB g + (i + (zra t).2.1 + (zra t).2.2 * j)) else none)))))
  | _ => .inl (0, 0, .inl (fun _ => 0))
def wld (g : GG) (E : EE) (D : DD) : va_W := (List.range E.2.1).map (fun i => (gB g + i, cellE g E i (D i)))
def ztys (g : GG) : List (ClassId × FieldType) := [(gA g 1, .int), (gA g 2, .long), (gA g 3, .boolean), (gA g 4, .char), (gA g 5, .object "SpeedKernel$Natural"), (gA g 6, .object "SpeedKernel$Fraction")]
abbrev zfr (g : GG) : Nat → Prop := fun q => gB g ≤ q
def okD (E : EE) (D : DD) : Prop := ∀ a, a < E.2.1 → ∀ j : Int, match (zk a).1 with
  | 2 => R64 (D a j)
  | _ => R32 (D a j)
def Hp (g : GG) (E : EE) (D : DD) (H : Heap) : Prop := va_P (gD g) zcl (wld g E D) H ∧ gB g + E.2.1 ≤ H.size ∧ (E.2.2 → H.size = gB g + E.2.1) ∧ okD E D
def zw (D : DD) (a : Nat) (i v : Int) : DD := fun b j => if b = a ∧ j = i then v else D b j
theorem zw_eq (D : DD) (a : Nat) (i v : Int) : zw D a i v a i = v := by simp [zw]
theorem zw_ne {D : DD} {a b : Nat} {i j v : Int} (h : b ≠ a ∨ j ≠ i) : zw D a i v b j = D b j := by
  unfold zw
  rw [if_neg]
  rintro ⟨rfl, rfl⟩
  rcases h with h | h <;> exact h rfl
/-- locals -/
def lrel (g : GG) (nL : Nat) (L : List VV) (ls : Array Slot) : Prop := ls.size = nL ∧ lv_wf ls ∧ ∀ (i : Nat) (v : VV), L[i]? = some v → v.1 ≠ 5 → ls[i]? = some (.val (val g v))
def lkill (L : List VV) (i : Nat) : List VV := match i with
  | 0 => L
  | j + 1 => match L[j]? with
    | some (1, _) => L.set j vU
    | some (2, _) => L.set j vU
    | _ => L
def lst1 (L : List VV) (i : Nat) (v : VV) : List VV := (lkill L i).set i v
def lst2 (L : List VV) (i : Nat) (v : VV) : List VV := ((lkill L i).set i v).set (i + 1) vU
def zcat (v : VV) : Nat := match v.1 with
  | 1 => 2
  | 2 => 2
  | _ => 1
def zcats : List VV → Nat
  | [] => 0
  | v :: l => zcat v + zcats l
theorem zcat_val (g : GG) (v : VV) : (val g v).category = zcat v := by
  obtain ⟨t, x⟩ := v
  match t with
  | 0 => rfl
  | 1 => rfl
  | 2 => rfl
  | 3 => rfl
  | 4 => rfl
  | 5 => rfl
  | 6 => rfl
  | n + 7 => rfl
theorem zcats_sum (g : GG) (l : List VV) : ((l.map (val g)).map fun v => v.category).sum = zcats l := by
  induction l with
  | nil => rfl
  | cons v l ih => simp only [List.map_cons, List.sum_cons, ih, zcats, zcat_val]
/-- method records -/
abbrev mY (M : MI) : MethodName := M.1
abbrev mC (M : MI) : ByteArray := M.2.1
abbrev mL (M : MI) : Nat := M.2.2.1
abbrev mR (M : MI) : Option FieldType := M.2.2.2.1
abbrev mdp (M : MI) : Nat := M.2.2.2.2
def zrm (M : MI) (mc ms : Nat) : Room := { frames := mdp M, cells := mc, slots := ms, locals := 48 * mdp M }
def zws (M : MI) : List Cond := Cond.code (mY M) (mC M) (mL M) (mR M) :: zT
def Kn (g : GG) (U : State) : Prop := va_K (gD g) zcl (ztys g) U ∧ (∀ w ∈ zNest, va_Nw w U) ∧ (∀ C, C = "SpeedKernel$Natural" ∨ C = "SpeedKernel$Fraction" → va_AO C U) ∧ va_X (gb g) (gL g) (gx g) U U.heap ∧ gb g < gB g ∧ gB g ≤ U.heap.size
def Cx (g : GG) (M : MI) (p : Program) (s : State) (m : MethodId) (args : Array Value) (meth : Method) (c : Code) : Prop :=
  p.tables.exec = Jvm.exec ∧ c.code = mC M ∧ c.maxLocals = mL M ∧ meth.sig.returnType = mR M ∧ s.vm.findClass (mY M).cls = some m.cls ∧ (∀ w ∈ zT, w.before args s = true) ∧ meth.locks = false ∧ ((mY M).name = "<init>" → meth.name = "<init>") ∧ Kn g s
def Qp (g : GG) (Q : Option VV → EE → DD → Prop) : Array Value → State → Outcome → State → Prop := fun _ st o t =>
  (∃ (r : Option VV) (E' : EE) (D' : DD), o = .returned (r.map (val g)) ∧ (∀ v, r = some v → okv v) ∧ Hp g E' D' t.heap ∧ Q r E' D') ∧ va_F (zfr g) st t
def zPc (g : GG) (as : List VV) (E : EE) (D : DD) : Array Value → State → Prop := fun v U => v = (as.map (val g)).toArray ∧ (∀ v ∈ as, okv v) ∧ Hp g E D U.heap ∧ Kn g U
/-- the contract: from these numbers, method M returns, with Q; at most mc cells of ms slots are new -/
def AT (g : GG) (M : MI) (mc ms : Nat) (as : List VV) (E : EE) (D : DD) (Q : Option VV → EE → DD → Prop) : Prop :=
  ∀ l, Met l (mY M) (zws M) (zrm M mc ms) (zPc g as E D) (Qp g Q) mc ms (zfr g)
/-- the judgement: from pc, with these locals, this stack, these cells, method M returns with Q -/
def Zg (g : GG) (M : MI) (mc ms : Nat) (Q : Option VV → EE → DD → Prop) (pc : Nat) (L st : List VV) (E : EE) (D : DD) (ca sa : Nat) : Prop :=
  ∀ (p : Program) (l : Launch) (e : Env) (R : Room) (s : State) (m : MethodId) (args : Array Value) (below : List Frame) (meth : Method) (c : Code), Cx g M p s m args meth c →
    (mdp M ≤ R.frames ∧ 48 * mdp M ≤ R.locals ∧ mc ≤ R.cells ∧ ms ≤ R.slots) →
    ∀ (H : Heap) (locs : List Loc) (ls : Array Slot), Hp g E D H → va_S (zfr g) s.heap H locs → lrel g (mL M) L ls → (∀ v ∈ L, okv v) → (∀ v ∈ st, okv v) →
      W p l e R s m args below meth c H locs ca sa (MQ below (Qp g Q) args s mc ms (zfr g)) (F0 m pc ls (st.map (val g)))
/-! rules of the kind that moves only the operands -/
section RPURE
variable {g : GG} {M : MI} {mc ms : Nat} {Q : Option VV → EE → DD → Prop} {pc pc' : Nat} {L st st' : List VV} {E : EE} {D : DD} {ca sa : Nat}
theorem zg_pure (h : ∀ {p : Program} {l : Launch} {e : Env} {R : Room} {s : State} {m : MethodId} {args : Array Value} {below : List Frame} {meth : Method} {c : Code} {H : Heap} {locs : List Loc} {cells slots : Nat} {Q : State → Prop} {ls : Array Slot},
      p.tables.exec = Jvm.exec → c.code = mC M → W p l e R s m args below meth c H locs cells slots Q (F0 m pc' ls (st'.map (val g))) → W p l e R s m args below meth c H locs cells slots Q (F0 m pc ls (st.map (val g))))
    (hok : (∀ v ∈ st, okv v) → ∀ v ∈ st', okv v) (k : Zg g M mc ms Q pc' L st' E D ca sa) : Zg g M mc ms Q pc L st E D ca sa := by
  intro p l e R s m args below meth c C hR H locs ls hH hS hl hL hs
  exact h C.1 C.2.1 (k p l e R s m args below meth c C hR H locs ls hH hS hl hL (hok hs))
theorem zg_ok (k : (∀ v ∈ L, okv v) → (∀ v ∈ st, okv v) → okD E D → Zg g M mc ms Q pc L st E D ca sa) : Zg g M mc ms Q pc L st E D ca sa := by
  intro p l e R s m args below meth c C hR H locs ls hH hS hl hL hs
  exact k hL hs hH.2.2.2 p l e R s m args below meth c C hR H locs ls hH hS hl hL hs
theorem ok1 {v : VV} {st : List VV} (h : ∀ w ∈ v :: st, okv w) : okv v ∧ ∀ w ∈ st, okv w := List.forall_mem_cons.mp h
theorem ok2 {v w : VV} {st : List VV} (h : ∀ x ∈ v :: w :: st, okv x) : okv v ∧ okv w ∧ ∀ x ∈ st, okv x := ⟨(ok1 h).1, ok1 (ok1 h).2⟩
theorem okc {v : VV} {st : List VV} (a : okv v) (h : ∀ w ∈ st, okv w) : ∀ w ∈ v :: st, okv w := List.forall_mem_cons.mpr ⟨a, h⟩
theorem okI {x : Int} {st : List VV} (a : R32 x) (h : ∀ w ∈ st, okv w) : ∀ w ∈ vI x :: st, okv w := okc (v := vI x) a h
theorem okL {x : Int} {st : List VV} (a : R64 x) (h : ∀ w ∈ st, okv w) : ∀ w ∈ vL x :: st, okv w := okc (v := vL x) a h
theorem q_iconst {n : Int} (d : decode (mC M) pc = .ok (.iconst n, 1)) (o : R32 n) (k : Zg g M mc ms Q (pc + 1) L (vI n :: st) E D ca sa) : Zg g M mc ms Q pc L st E D ca sa :=
  zg_pure (fun hx hb kk => lv_iconst hx hb d rfl kk) (fun h => okI o h) k
theorem q_bipush {n : Int} (d : decode (mC M) pc = .ok (.bipush n, 2)) (o : (Int8.ofInt n).toInt32 = Int32.ofInt n ∧ R32 n) (k : Zg g M mc ms Q (pc + 2) L (vI n :: st) E D ca sa) : Zg g M mc ms Q pc L st E D ca sa :=
  zg_pure (fun hx hb kk => lv_bipush hx hb d o.1 kk) (fun h => okI o.2 h) k
theorem q_sipush {n : Int} (d : decode (mC M) pc = .ok (.sipush n, 3)) (o : (Int16.ofInt n).toInt32 = Int32.ofInt n ∧ R32 n) (k : Zg g M mc ms Q (pc + 3) L (vI n :: st) E D ca sa) : Zg g M mc ms Q pc L st E D ca sa :=
  zg_pure (fun hx hb kk => lv_sipush hx hb d o.1 kk) (fun h => okI o.2 h) k
theorem q_lconst {n : Fin 2} {x : Int} (d : decode (mC M) pc = .ok (.lconst n, 1)) (o : Int64.ofNat (n : Nat) = Int64.ofInt x ∧ R64 x) (k : Zg g M mc ms Q (pc + 1) L (vL x :: st) E D ca sa) : Zg g M mc ms Q pc L st E D ca sa :=
  zg_pure (fun hx hb kk => lv_lconst hx hb d o.1 kk) (fun h => okL o.2 h) k
theorem q_iadd {x y : Int} (d : decode (mC M) pc = .ok (.iadd, 1)) (o : R32 (x + y)) (k : Zg g M mc ms Q (pc + 1) L (vI (x + y) :: st) E D ca sa) : Zg g M mc ms Q pc L (vI y :: vI x :: st) E D ca sa :=
  zg_pure (fun hx hb kk => lv_iadd hx hb d (by rw [← Int32.ofInt_add]; exact kk)) (fun h => okI o (ok2 h).2.2) k
theorem q_isub {x y : Int} (d : decode (mC M) pc = .ok (.isub, 1)) (o : R32 (x - y)) (k : Zg g M mc ms Q (pc + 1) L (vI (x - y) :: st) E D ca sa) : Zg g M mc ms Q pc L (vI y :: vI x :: st) E D ca sa :=
  zg_pure (fun hx hb kk => lv_isub hx hb d (by rw [← Int32.ofInt_sub]; exact kk)) (fun h => okI o (ok2 h).2.2) k
theorem q_imul {x y : Int} (d : decode (mC M) pc = .ok (.imul, 1)) (o : R32 (x * y)) (k : Zg g M mc ms Q (pc + 1) L (vI (x * y) :: st) E D ca sa) : Zg g M mc ms Q pc L (vI y :: vI x :: st) E D ca sa :=
  zg_pure (fun hx hb kk => lv_imul hx hb d (by rw [← Int32.ofInt_mul]; exact kk)) (fun h => okI o (ok2 h).2.2) k
theorem q_ladd {x y : Int} (d : decode (mC M) pc = .ok (.ladd, 1)) (o : R64 (x + y)) (k : Zg g M mc ms Q (pc + 1) L (vL (x + y) :: st) E D ca sa) : Zg g M mc ms Q pc L (vL y :: vL x :: st) E D ca sa :=
  zg_pure (fun hx hb kk => lv_ladd hx hb d (by rw [← Int64.ofInt_add]; exact kk)) (fun h => okL o (ok2 h).2.2) k
theorem q_lsub {x y : Int} (d : decode (mC M) pc = .ok (.lsub, 1)) (o : R64 (x - y)) (k : Zg g M mc ms Q (pc + 1) L (vL (x - y) :: st) E D ca sa) : Zg g M mc ms Q pc L (vL y :: vL x :: st) E D ca sa :=
  zg_pure (fun hx hb kk => lv_lsub hx hb d (by rw [← Int64.ofInt_sub]; exact kk)) (fun h => okL o (ok2 h).2.2) k
theorem q_lmul {x y : Int} (d : decode (mC M) pc = .ok (.lmul, 1)) (o : R64 (x * y)) (k : Zg g M mc ms Q (pc + 1) L (vL (x * y) :: st) E D ca sa) : Zg g M mc ms Q pc L (vL y :: vL x :: st) E D ca sa :=
  zg_pure (fun hx hb kk => lv_lmul hx hb d (by rw [← Int64.ofInt_mul]; exact kk)) (fun h => okL o (ok2 h).2.2) k
theorem i32_ti {x : Int} (h : R32 x) : (Int32.ofInt x).toInt = x := Int32.toInt_ofInt_of_le (by omega) (by omega)
theorem i64_ti {x : Int} (h : R64 x) : (Int64.ofInt x).toInt = x := Int64.toInt_ofInt_of_le (by omega) (by omega)
theorem i32_eq {x y : Int} (hx : R32 x) (hy : R32 y) : Int32.ofInt x = Int32.ofInt y ↔ x = y := by rw [← Int32.toInt_inj, i32_ti hx, i32_ti hy]
theorem i64_eq {x y : Int} (hx : R64 x) (hy : R64 y) : Int64.ofInt x = Int64.ofInt y ↔ x = y := by rw [← Int64.toInt_inj, i64_ti hx, i64_ti hy]
theorem i32_le {x y : Int} (hx : R32 x) (hy : R32 y) : Int32.ofInt x ≤ Int32.ofInt y ↔ x ≤ y := by rw [Int32.le_iff_toInt_le, i32_ti hx, i32_ti hy]
theorem i32_lt {x y : Int} (hx : R32 x) (hy : R32 y) : Int32.ofInt x < Int32.ofInt y ↔ x < y := by rw [Int32.lt_iff_toInt_lt, i32_ti hx, i32_ti hy]
theorem i64_lt {x y : Int} (hx : R64 x) (hy : R64 y) : Int64.ofInt x < Int64.ofInt y ↔ x < y := by rw [Int64.lt_iff_toInt_lt, i64_ti hx, i64_ti hy]
theorem i32_0 : (0 : Int32) = Int32.ofInt 0 := rfl
theorem i64_0 : (0 : Int64) = Int64.ofInt 0 := rfl
theorem i32_div {x y : Int} (hx : 0 ≤ x ∧ x ≤ 2147483647) (hy : 0 < y ∧ y ≤ 2147483647) : Int32.ofInt x / Int32.ofInt y = Int32.ofInt (x / y) := by
  have h1 := i32_ti (x := x) (by omega)
  have h2 := i32_ti (x := y) (by omega)
  have h4 : 0 ≤ x / y := Int.ediv_nonneg hx.1 (by omega)
  have h5 : x / y ≤ x := Int.ediv_le_self _ hx.1
  have h3 := i32_ti (x := x / y) (by omega)
  rw [← Int32.toInt_inj, Int32.toInt_div, h1, h2, h3, Int.tdiv_eq_ediv_of_nonneg hx.1]
  exact Int.bmod_eq_of_le (by omega) (by omega)
theorem i64_div {x y : Int} (hx : 0 ≤ x ∧ x ≤ 9223372036854775807) (hy : 0 < y ∧ y ≤ 9223372036854775807) : Int64.ofInt x / Int64.ofInt y = Int64.ofInt (x / y) := by
  have h1 := i64_ti (x := x) (by omega)
  have h2 := i64_ti (x := y) (by omega)
  have h4 : 0 ≤ x / y := Int.ediv_nonneg hx.1 (by omega)
  have h5 : x / y ≤ x := Int.ediv_le_self _ hx.1
  have h3 := i64_ti (x := x / y) (by omega)
  rw [← Int64.toInt_inj, Int64.toInt_div, h1, h2, h3, Int.tdiv_eq_ediv_of_nonneg hx.1]
  exact Int.bmod_eq_of_le (by omega) (by omega)
theorem q_idiv {x y : Int} (d : decode (mC M) pc = .ok (.idiv, 1)) (o : 0 ≤ x ∧ 0 < y) (k : Zg g M mc ms Q (pc + 1) L (vI (x / y) :: st) E D ca sa) : Zg g M mc ms Q pc L (vI y :: vI x :: st) E D ca sa :=
  zg_ok fun _ h _ => by
    have hx : R32 x := (ok2 h).2.1
    have hy : R32 y := (ok2 h).1
    have h4 : 0 ≤ x / y := Int.ediv_nonneg o.1 (by omega)
    have h5 : x / y ≤ x := Int.ediv_le_self _ o.1
    exact zg_pure (fun hx1 hb kk => lv_idiv hx1 hb d (by rw [i32_0, i32_eq hy (by omega)]; omega) (by rw [i32_div (x := x) (y := y) (by omega) (by omega)]; exact kk)) (fun h => okI (by omega) (ok2 h).2.2) k
theorem q_irem {x y : Int} (d : decode (mC M) pc = .ok (.irem, 1)) (o : 0 ≤ x ∧ 0 < y) (k : Zg g M mc ms Q (pc + 1) L (vI (x % y) :: st) E D ca sa) : Zg g M mc ms Q pc L (vI y :: vI x :: st) E D ca sa :=
  zg_ok fun _ h _ => by
    have hx : R32 x := (ok2 h).2.1
    have hy : R32 y := (ok2 h).1
    have h4 : 0 ≤ x % y := Int.emod_nonneg _ (by omega)
    have h5 : x % y < y := Int.emod_lt_of_pos _ o.2
    have e : x % y = x - x / y * y := by have := Int.mul_ediv_add_emod x y; rw [Int.mul_comm] at this; omega
    exact zg_pure (fun hx1 hb kk => lv_irem hx1 hb d (by rw [i32_0, i32_eq hy (by omega)]; omega) (by rw [i32_div (x := x) (y := y) (by omega) (by omega), ← Int32.ofInt_mul, ← Int32.ofInt_sub, ← e]; exact kk)) (fun h => okI (by omega) (ok2 h).2.2) k
theorem q_ldiv {x y : Int} (d : decode (mC M) pc = .ok (.ldiv, 1)) (o : 0 ≤ x ∧ 0 < y) (k : Zg g M mc ms Q (pc + 1) L (vL (x / y) :: st) E D ca sa) : Zg g M mc ms Q pc L (vL y :: vL x :: st) E D ca sa :=
  zg_ok fun _ h _ => by
    have hx : R64 x := (ok2 h).2.1
    have hy : R64 y := (ok2 h).1
    have h4 : 0 ≤ x / y := Int.ediv_nonneg o.1 (by omega)
    have h5 : x / y ≤ x := Int.ediv_le_self _ o.1
    exact zg_pure (fun hx1 hb kk => lv_ldiv hx1 hb d (by rw [i64_0, i64_eq hy (by omega)]; omega) (by rw [i64_div (x := x) (y := y) (by omega) (by omega)]; exact kk)) (fun h => okL (by omega) (ok2 h).2.2) k
theorem q_lrem {x y : Int} (d : decode (mC M) pc = .ok (.lrem, 1)) (o : 0 ≤ x ∧ 0 < y) (k : Zg g M mc ms Q (pc + 1) L (vL (x % y) :: st) E D ca sa) : Zg g M mc ms Q pc L (vL y :: vL x :: st) E D ca sa :=
  zg_ok fun _ h _ => by
    have hx : R64 x := (ok2 h).2.1
    have hy : R64 y := (ok2 h).1
    have h4 : 0 ≤ x % y := Int.emod_nonneg _ (by omega)
    have h5 : x % y < y := Int.emod_lt_of_pos _ o.2
    have e : x % y = x - x / y * y := by have := Int.mul_ediv_add_emod x y; rw [Int.mul_comm] at this; omega
    exact zg_pure (fun hx1 hb kk => lv_lrem hx1 hb d (by rw [i64_0, i64_eq hy (by omega)]; omega) (by rw [i64_div (x := x) (y := y) (by omega) (by omega), ← Int64.ofInt_mul, ← Int64.ofInt_sub, ← e]; exact kk)) (fun h => okL (by omega) (ok2 h).2.2) k
end RPURE
end
