section
-- ===== PART A: goes FIRST, ahead of the names: the tables' words, and 'selects' of the private methods out of them =====
/-- a private method of a class that the tables say can be made, by its rows of tables_1 -/
def lw_okq (q : MethodName × Nat) : Prop := (q.1.cls ≠ "java/lang/invoke/MethodHandle" ∧ q.1.cls ≠ "java/lang/invoke/VarHandle") ∧ Cond.instantiable q.1.cls q.2 ∈ tables_1 ∧ Cond.privateMethod q.1 ∈ tables_1 ∧ Cond.instanceMethod q.1 ∈ tables_1
theorem lw_p0 : lw_okq (⟨"SpeedKernel", "forgetPlans", "()V"⟩, 9) := ⟨⟨by decide +kernel, by decide +kernel⟩, List.mem_of_getElem? (i := 32) (by decide +kernel), List.mem_of_getElem? (i := 394) (by decide +kernel), List.mem_of_getElem? (i := 395) (by decide +kernel)⟩
theorem lw_p1 : lw_okq (⟨"SpeedKernel$Planner", "findGroups", "(LSpeedKernel$Jobs;)V"⟩, 13) := ⟨⟨by decide +kernel, by decide +kernel⟩, List.mem_of_getElem? (i := 219) (by decide +kernel), List.mem_of_getElem? (i := 461) (by decide +kernel), List.mem_of_getElem? (i := 462) (by decide +kernel)⟩
theorem lw_p2 : lw_okq (⟨"SpeedKernel$Planner", "findDensest", "(LSpeedKernel$Jobs;)V"⟩, 13) := ⟨⟨by decide +kernel, by decide +kernel⟩, List.mem_of_getElem? (i := 219) (by decide +kernel), List.mem_of_getElem? (i := 466) (by decide +kernel), List.mem_of_getElem? (i := 467) (by decide +kernel)⟩
theorem lw_p3 : lw_okq (⟨"SpeedKernel$Planner", "tryBetween", "(LSpeedKernel$Jobs;II)V"⟩, 13) := ⟨⟨by decide +kernel, by decide +kernel⟩, List.mem_of_getElem? (i := 219) (by decide +kernel), List.mem_of_getElem? (i := 470) (by decide +kernel), List.mem_of_getElem? (i := 471) (by decide +kernel)⟩
theorem lw_p4 : lw_okq (⟨"SpeedKernel$Planner", "takeDensest", "(LSpeedKernel$Jobs;)V"⟩, 13) := ⟨⟨by decide +kernel, by decide +kernel⟩, List.mem_of_getElem? (i := 219) (by decide +kernel), List.mem_of_getElem? (i := 479) (by decide +kernel), List.mem_of_getElem? (i := 480) (by decide +kernel)⟩
theorem lw_p5 : lw_okq (⟨"SpeedKernel$Planner", "layOutSteps", "(LSpeedKernel$Jobs;LSpeedKernel$Profile;)V"⟩, 13) := ⟨⟨by decide +kernel, by decide +kernel⟩, List.mem_of_getElem? (i := 219) (by decide +kernel), List.mem_of_getElem? (i := 490) (by decide +kernel), List.mem_of_getElem? (i := 491) (by decide +kernel)⟩
theorem lw_p6 : lw_okq (⟨"SpeedKernel$Planner", "workOff", "(LSpeedKernel$Jobs;LSpeedKernel$Profile;)V"⟩, 13) := ⟨⟨by decide +kernel, by decide +kernel⟩, List.mem_of_getElem? (i := 219) (by decide +kernel), List.mem_of_getElem? (i := 539) (by decide +kernel), List.mem_of_getElem? (i := 540) (by decide +kernel)⟩
theorem lw_p7 : lw_okq (⟨"SpeedKernel$Planner", "workOffAt", "(LSpeedKernel$Jobs;LSpeedKernel$Profile;II)V"⟩, 13) := ⟨⟨by decide +kernel, by decide +kernel⟩, List.mem_of_getElem? (i := 219) (by decide +kernel), List.mem_of_getElem? (i := 543) (by decide +kernel), List.mem_of_getElem? (i := 544) (by decide +kernel)⟩
theorem lw_p8 : lw_okq (⟨"SpeedKernel$Reckoner", "commonOf", "(LSpeedKernel$Natural;LSpeedKernel$Natural;)LSpeedKernel$Natural;"⟩, 9) := ⟨⟨by decide +kernel, by decide +kernel⟩, List.mem_of_getElem? (i := 182) (by decide +kernel), List.mem_of_getElem? (i := 560) (by decide +kernel), List.mem_of_getElem? (i := 561) (by decide +kernel)⟩
theorem lw_p9 : lw_okq (⟨"SpeedKernel$Natural", "trim", "()V"⟩, 2) := ⟨⟨by decide +kernel, by decide +kernel⟩, List.mem_of_getElem? (i := 109) (by decide +kernel), List.mem_of_getElem? (i := 588) (by decide +kernel), List.mem_of_getElem? (i := 589) (by decide +kernel)⟩
theorem lw_p10 : lw_okq (⟨"SpeedKernel$Natural", "freeBits", "()I"⟩, 2) := ⟨⟨by decide +kernel, by decide +kernel⟩, List.mem_of_getElem? (i := 109) (by decide +kernel), List.mem_of_getElem? (i := 593) (by decide +kernel), List.mem_of_getElem? (i := 594) (by decide +kernel)⟩
theorem lw_p11 : lw_okq (⟨"SpeedKernel$Natural", "shiftUp", "(I)V"⟩, 2) := ⟨⟨by decide +kernel, by decide +kernel⟩, List.mem_of_getElem? (i := 109) (by decide +kernel), List.mem_of_getElem? (i := 598) (by decide +kernel), List.mem_of_getElem? (i := 599) (by decide +kernel)⟩
theorem lw_p12 : lw_okq (⟨"SpeedKernel$Natural", "push", "(J)V"⟩, 2) := ⟨⟨by decide +kernel, by decide +kernel⟩, List.mem_of_getElem? (i := 109) (by decide +kernel), List.mem_of_getElem? (i := 602) (by decide +kernel), List.mem_of_getElem? (i := 603) (by decide +kernel)⟩
theorem lw_p13 : lw_okq (⟨"SpeedKernel$Natural", "takeMultiple", "(LSpeedKernel$Natural;I)J"⟩, 2) := ⟨⟨by decide +kernel, by decide +kernel⟩, List.mem_of_getElem? (i := 109) (by decide +kernel), List.mem_of_getElem? (i := 606) (by decide +kernel), List.mem_of_getElem? (i := 607) (by decide +kernel)⟩
theorem lw_p14 : lw_okq (⟨"SpeedKernel$Natural", "guessMultiple", "(LSpeedKernel$Natural;I)J"⟩, 2) := ⟨⟨by decide +kernel, by decide +kernel⟩, List.mem_of_getElem? (i := 109) (by decide +kernel), List.mem_of_getElem? (i := 610) (by decide +kernel), List.mem_of_getElem? (i := 611) (by decide +kernel)⟩
theorem lw_p15 : lw_okq (⟨"SpeedKernel$Natural", "shiftDown", "(I)V"⟩, 2) := ⟨⟨by decide +kernel, by decide +kernel⟩, List.mem_of_getElem? (i := 109) (by decide +kernel), List.mem_of_getElem? (i := 614) (by decide +kernel), List.mem_of_getElem? (i := 615) (by decide +kernel)⟩
def lw_privs_1 : List (MethodName × Nat) := [(⟨"SpeedKernel", "forgetPlans", "()V"⟩, 9), (⟨"SpeedKernel$Planner", "findGroups", "(LSpeedKernel$Jobs;)V"⟩, 13), (⟨"SpeedKernel$Planner", "findDensest", "(LSpeedKernel$Jobs;)V"⟩, 13), (⟨"SpeedKernel$Planner", "tryBetween", "(LSpeedKernel$Jobs;II)V"⟩, 13), (⟨"SpeedKernel$Planner", "takeDensest", "(LSpeedKernel$Jobs;)V"⟩, 13), (⟨"SpeedKernel$Planner", "layOutSteps", "(LSpeedKernel$Jobs;LSpeedKernel$Profile;)V"⟩, 13), (⟨"SpeedKernel$Planner", "workOff", "(LSpeedKernel$Jobs;LSpeedKernel$Profile;)V"⟩, 13), (⟨"SpeedKernel$Planner", "workOffAt", "(LSpeedKernel$Jobs;LSpeedKernel$Profile;II)V"⟩, 13), (⟨"SpeedKernel$Reckoner", "commonOf", "(LSpeedKernel$Natural;LSpeedKernel$Natural;)LSpeedKernel$Natural;"⟩, 9), (⟨"SpeedKernel$Natural", "trim", "()V"⟩, 2), (⟨"SpeedKernel$Natural", "freeBits", "()I"⟩, 2), (⟨"SpeedKernel$Natural", "shiftUp", "(I)V"⟩, 2), (⟨"SpeedKernel$Natural", "push", "(J)V"⟩, 2), (⟨"SpeedKernel$Natural", "takeMultiple", "(LSpeedKernel$Natural;I)J"⟩, 2), (⟨"SpeedKernel$Natural", "guessMultiple", "(LSpeedKernel$Natural;I)J"⟩, 2), (⟨"SpeedKernel$Natural", "shiftDown", "(I)V"⟩, 2)]
theorem lw_r1 : ∀ q ∈ lw_privs_1, lw_okq q := List.forall_mem_cons.mpr ⟨lw_p0, List.forall_mem_cons.mpr ⟨lw_p1, List.forall_mem_cons.mpr ⟨lw_p2, List.forall_mem_cons.mpr ⟨lw_p3, List.forall_mem_cons.mpr ⟨lw_p4, List.forall_mem_cons.mpr ⟨lw_p5, List.forall_mem_cons.mpr ⟨lw_p6, List.forall_mem_cons.mpr ⟨lw_p7, List.forall_mem_cons.mpr ⟨lw_p8, List.forall_mem_cons.mpr ⟨lw_p9, List.forall_mem_cons.mpr ⟨lw_p10, List.forall_mem_cons.mpr ⟨lw_p11, List.forall_mem_cons.mpr ⟨lw_p12, List.forall_mem_cons.mpr ⟨lw_p13, List.forall_mem_cons.mpr ⟨lw_p14, List.forall_mem_cons.mpr ⟨lw_p15, fun _ h => absurd h List.not_mem_nil⟩⟩⟩⟩⟩⟩⟩⟩⟩⟩⟩⟩⟩⟩⟩⟩
theorem lw_p16 : lw_okq (⟨"java/lang/Throwable", "fillInStackTrace", "(I)Ljava/lang/Throwable;"⟩, 6) := ⟨⟨by decide +kernel, by decide +kernel⟩, List.mem_of_getElem? (i := 668) (by decide +kernel), List.mem_of_getElem? (i := 666) (by decide +kernel), List.mem_of_getElem? (i := 667) (by decide +kernel)⟩
theorem lw_p17 : lw_okq (⟨"SpeedKernel$Foresight", "findDensest", "(LSpeedKernel$Jobs;I)V"⟩, 9) := ⟨⟨by decide +kernel, by decide +kernel⟩, List.mem_of_getElem? (i := 269) (by decide +kernel), List.mem_of_getElem? (i := 984) (by decide +kernel), List.mem_of_getElem? (i := 985) (by decide +kernel)⟩
theorem lw_p18 : lw_okq (⟨"SpeedKernel$Foresight", "isOpen", "(LSpeedKernel$Jobs;II)Z"⟩, 9) := ⟨⟨by decide +kernel, by decide +kernel⟩, List.mem_of_getElem? (i := 269) (by decide +kernel), List.mem_of_getElem? (i := 988) (by decide +kernel), List.mem_of_getElem? (i := 989) (by decide +kernel)⟩
theorem lw_p19 : lw_okq (⟨"SpeedKernel$Foresight", "setRate", "(I)V"⟩, 9) := ⟨⟨by decide +kernel, by decide +kernel⟩, List.mem_of_getElem? (i := 269) (by decide +kernel), List.mem_of_getElem? (i := 999) (by decide +kernel), List.mem_of_getElem? (i := 1000) (by decide +kernel)⟩
theorem lw_p20 : lw_okq (⟨"SpeedKernel$Foresight", "workOff", "(LSpeedKernel$Jobs;LSpeedKernel$Profile;II)V"⟩, 9) := ⟨⟨by decide +kernel, by decide +kernel⟩, List.mem_of_getElem? (i := 269) (by decide +kernel), List.mem_of_getElem? (i := 1005) (by decide +kernel), List.mem_of_getElem? (i := 1006) (by decide +kernel)⟩
theorem lw_p21 : lw_okq (⟨"SpeedKernel$Foresight", "setEnd", "(LSpeedKernel$Profile;II)V"⟩, 9) := ⟨⟨by decide +kernel, by decide +kernel⟩, List.mem_of_getElem? (i := 269) (by decide +kernel), List.mem_of_getElem? (i := 1013) (by decide +kernel), List.mem_of_getElem? (i := 1014) (by decide +kernel)⟩
theorem lw_p22 : lw_okq (⟨"SpeedKernel$Foresight", "rescale", "(LSpeedKernel$Jobs;II)V"⟩, 9) := ⟨⟨by decide +kernel, by decide +kernel⟩, List.mem_of_getElem? (i := 269) (by decide +kernel), List.mem_of_getElem? (i := 1017) (by decide +kernel), List.mem_of_getElem? (i := 1018) (by decide +kernel)⟩
theorem lw_p23 : lw_okq (⟨"SpeedKernel", "fractionOf", "(II)LSpeedKernel$Fraction;"⟩, 9) := ⟨⟨by decide +kernel, by decide +kernel⟩, List.mem_of_getElem? (i := 32) (by decide +kernel), List.mem_of_getElem? (i := 1025) (by decide +kernel), List.mem_of_getElem? (i := 1026) (by decide +kernel)⟩
theorem lw_p24 : lw_okq (⟨"SpeedKernel$Text", "writeNumber", "(LSpeedKernel$Natural;)V"⟩, 4) := ⟨⟨by decide +kernel, by decide +kernel⟩, List.mem_of_getElem? (i := 340) (by decide +kernel), List.mem_of_getElem? (i := 1041) (by decide +kernel), List.mem_of_getElem? (i := 1042) (by decide +kernel)⟩
theorem lw_p25 : lw_okq (⟨"SpeedKernel$Text", "writeChunk", "(IZ)V"⟩, 4) := ⟨⟨by decide +kernel, by decide +kernel⟩, List.mem_of_getElem? (i := 340) (by decide +kernel), List.mem_of_getElem? (i := 1049) (by decide +kernel), List.mem_of_getElem? (i := 1050) (by decide +kernel)⟩
theorem lw_p26 : lw_okq (⟨"SpeedKernel$Text", "push", "(C)V"⟩, 4) := ⟨⟨by decide +kernel, by decide +kernel⟩, List.mem_of_getElem? (i := 340) (by decide +kernel), List.mem_of_getElem? (i := 1054) (by decide +kernel), List.mem_of_getElem? (i := 1055) (by decide +kernel)⟩
theorem lw_p27 : lw_okq (⟨"SpeedKernel", "leavesRoom", "()Z"⟩, 9) := ⟨⟨by decide +kernel, by decide +kernel⟩, List.mem_of_getElem? (i := 32) (by decide +kernel), List.mem_of_getElem? (i := 1102) (by decide +kernel), List.mem_of_getElem? (i := 1103) (by decide +kernel)⟩
theorem lw_p28 : lw_okq (⟨"SpeedKernel$Reckoner", "orderOfWork", "(LSpeedKernel$Profile;III)I"⟩, 9) := ⟨⟨by decide +kernel, by decide +kernel⟩, List.mem_of_getElem? (i := 182) (by decide +kernel), List.mem_of_getElem? (i := 1115) (by decide +kernel), List.mem_of_getElem? (i := 1116) (by decide +kernel)⟩
theorem lw_p29 : lw_okq (⟨"SpeedKernel$Splitter", "splitGroup", "(LSpeedKernel$Planner;ILSpeedKernel$Jobs;LSpeedKernel$Levels;ILSpeedKernel$Reckoner;)V"⟩, 6) := ⟨⟨by decide +kernel, by decide +kernel⟩, List.mem_of_getElem? (i := 307) (by decide +kernel), List.mem_of_getElem? (i := 1173) (by decide +kernel), List.mem_of_getElem? (i := 1174) (by decide +kernel)⟩
theorem lw_p30 : lw_okq (⟨"SpeedKernelModel", "fixBest", "()Z"⟩, 34) := ⟨⟨by decide +kernel, by decide +kernel⟩, List.mem_of_getElem? (i := 1214) (by decide +kernel), List.mem_of_getElem? (i := 1357) (by decide +kernel), List.mem_of_getElem? (i := 1358) (by decide +kernel)⟩
theorem lw_p31 : lw_okq (⟨"SpeedKernelModel", "open", "(II)I"⟩, 34) := ⟨⟨by decide +kernel, by decide +kernel⟩, List.mem_of_getElem? (i := 1214) (by decide +kernel), List.mem_of_getElem? (i := 1361) (by decide +kernel), List.mem_of_getElem? (i := 1362) (by decide +kernel)⟩
def lw_privs_2 : List (MethodName × Nat) := [(⟨"java/lang/Throwable", "fillInStackTrace", "(I)Ljava/lang/Throwable;"⟩, 6), (⟨"SpeedKernel$Foresight", "findDensest", "(LSpeedKernel$Jobs;I)V"⟩, 9), (⟨"SpeedKernel$Foresight", "isOpen", "(LSpeedKernel$Jobs;II)Z"⟩, 9), (⟨"SpeedKernel$Foresight", "setRate", "(I)V"⟩, 9), (⟨"SpeedKernel$Foresight", "workOff", "(LSpeedKernel$Jobs;LSpeedKernel$Profile;II)V"⟩, 9), (⟨"SpeedKernel$Foresight", "setEnd", "(LSpeedKernel$Profile;II)V"⟩, 9), (⟨"SpeedKernel$Foresight", "rescale", "(LSpeedKernel$Jobs;II)V"⟩, 9), (⟨"SpeedKernel", "fractionOf", "(II)LSpeedKernel$Fraction;"⟩, 9), (⟨"SpeedKernel$Text", "writeNumber", "(LSpeedKernel$Natural;)V"⟩, 4), (⟨"SpeedKernel$Text", "writeChunk", "(IZ)V"⟩, 4), (⟨"SpeedKernel$Text", "push", "(C)V"⟩, 4), (⟨"SpeedKernel", "leavesRoom", "()Z"⟩, 9), (⟨"SpeedKernel$Reckoner", "orderOfWork", "(LSpeedKernel$Profile;III)I"⟩, 9), (⟨"SpeedKernel$Splitter", "splitGroup", "(LSpeedKernel$Planner;ILSpeedKernel$Jobs;LSpeedKernel$Levels;ILSpeedKernel$Reckoner;)V"⟩, 6), (⟨"SpeedKernelModel", "fixBest", "()Z"⟩, 34), (⟨"SpeedKernelModel", "open", "(II)I"⟩, 34)]
theorem lw_r2 : ∀ q ∈ lw_privs_2, lw_okq q := List.forall_mem_cons.mpr ⟨lw_p16, List.forall_mem_cons.mpr ⟨lw_p17, List.forall_mem_cons.mpr ⟨lw_p18, List.forall_mem_cons.mpr ⟨lw_p19, List.forall_mem_cons.mpr ⟨lw_p20, List.forall_mem_cons.mpr ⟨lw_p21, List.forall_mem_cons.mpr ⟨lw_p22, List.forall_mem_cons.mpr ⟨lw_p23, List.forall_mem_cons.mpr ⟨lw_p24, List.forall_mem_cons.mpr ⟨lw_p25, List.forall_mem_cons.mpr ⟨lw_p26, List.forall_mem_cons.mpr ⟨lw_p27, List.forall_mem_cons.mpr ⟨lw_p28, List.forall_mem_cons.mpr ⟨lw_p29, List.forall_mem_cons.mpr ⟨lw_p30, List.forall_mem_cons.mpr ⟨lw_p31, fun _ h => absurd h List.not_mem_nil⟩⟩⟩⟩⟩⟩⟩⟩⟩⟩⟩⟩⟩⟩⟩⟩
theorem lw_p32 : lw_okq (⟨"SpeedKernelModel", "isWithin", "(III)Z"⟩, 34) := ⟨⟨by decide +kernel, by decide +kernel⟩, List.mem_of_getElem? (i := 1214) (by decide +kernel), List.mem_of_getElem? (i := 1365) (by decide +kernel), List.mem_of_getElem? (i := 1366) (by decide +kernel)⟩
theorem lw_p33 : lw_okq (⟨"SpeedKernelModel", "firstRelease", "()I"⟩, 34) := ⟨⟨by decide +kernel, by decide +kernel⟩, List.mem_of_getElem? (i := 1214) (by decide +kernel), List.mem_of_getElem? (i := 1372) (by decide +kernel), List.mem_of_getElem? (i := 1373) (by decide +kernel)⟩
theorem lw_p34 : lw_okq (⟨"SpeedKernelModel", "lastDeadline", "()I"⟩, 34) := ⟨⟨by decide +kernel, by decide +kernel⟩, List.mem_of_getElem? (i := 1214) (by decide +kernel), List.mem_of_getElem? (i := 1376) (by decide +kernel), List.mem_of_getElem? (i := 1377) (by decide +kernel)⟩
theorem lw_p35 : lw_okq (⟨"SpeedKernelModel", "workPlan", "(II)V"⟩, 34) := ⟨⟨by decide +kernel, by decide +kernel⟩, List.mem_of_getElem? (i := 1214) (by decide +kernel), List.mem_of_getElem? (i := 1380) (by decide +kernel), List.mem_of_getElem? (i := 1381) (by decide +kernel)⟩
theorem lw_p36 : lw_okq (⟨"SpeedKernelModel", "nextJob", "(I)I"⟩, 34) := ⟨⟨by decide +kernel, by decide +kernel⟩, List.mem_of_getElem? (i := 1214) (by decide +kernel), List.mem_of_getElem? (i := 1384) (by decide +kernel), List.mem_of_getElem? (i := 1385) (by decide +kernel)⟩
theorem lw_p37 : lw_okq (⟨"SpeedKernelModel", "tell", "(IJJ)V"⟩, 34) := ⟨⟨by decide +kernel, by decide +kernel⟩, List.mem_of_getElem? (i := 1214) (by decide +kernel), List.mem_of_getElem? (i := 1388) (by decide +kernel), List.mem_of_getElem? (i := 1389) (by decide +kernel)⟩
theorem lw_p38 : lw_okq (⟨"SpeedKernelModel", "set", "(IJ)V"⟩, 34) := ⟨⟨by decide +kernel, by decide +kernel⟩, List.mem_of_getElem? (i := 1214) (by decide +kernel), List.mem_of_getElem? (i := 1392) (by decide +kernel), List.mem_of_getElem? (i := 1393) (by decide +kernel)⟩
theorem lw_p39 : lw_okq (⟨"SpeedKernelModel", "reduce", "(I)V"⟩, 34) := ⟨⟨by decide +kernel, by decide +kernel⟩, List.mem_of_getElem? (i := 1214) (by decide +kernel), List.mem_of_getElem? (i := 1397) (by decide +kernel), List.mem_of_getElem? (i := 1398) (by decide +kernel)⟩
theorem lw_p40 : lw_okq (⟨"SpeedKernelModel", "common", "(II)V"⟩, 34) := ⟨⟨by decide +kernel, by decide +kernel⟩, List.mem_of_getElem? (i := 1214) (by decide +kernel), List.mem_of_getElem? (i := 1401) (by decide +kernel), List.mem_of_getElem? (i := 1402) (by decide +kernel)⟩
theorem lw_p41 : lw_okq (⟨"SpeedKernelModel", "copy", "(II)V"⟩, 34) := ⟨⟨by decide +kernel, by decide +kernel⟩, List.mem_of_getElem? (i := 1214) (by decide +kernel), List.mem_of_getElem? (i := 1405) (by decide +kernel), List.mem_of_getElem? (i := 1406) (by decide +kernel)⟩
theorem lw_p42 : lw_okq (⟨"SpeedKernelModel", "isEven", "(I)Z"⟩, 34) := ⟨⟨by decide +kernel, by decide +kernel⟩, List.mem_of_getElem? (i := 1214) (by decide +kernel), List.mem_of_getElem? (i := 1409) (by decide +kernel), List.mem_of_getElem? (i := 1410) (by decide +kernel)⟩
theorem lw_p43 : lw_okq (⟨"SpeedKernelModel", "divideBy", "(II)I"⟩, 34) := ⟨⟨by decide +kernel, by decide +kernel⟩, List.mem_of_getElem? (i := 1214) (by decide +kernel), List.mem_of_getElem? (i := 1413) (by decide +kernel), List.mem_of_getElem? (i := 1414) (by decide +kernel)⟩
theorem lw_p44 : lw_okq (⟨"SpeedKernelModel", "trim", "(I)V"⟩, 34) := ⟨⟨by decide +kernel, by decide +kernel⟩, List.mem_of_getElem? (i := 1214) (by decide +kernel), List.mem_of_getElem? (i := 1417) (by decide +kernel), List.mem_of_getElem? (i := 1418) (by decide +kernel)⟩
theorem lw_p45 : lw_okq (⟨"SpeedKernelModel", "order", "(II)I"⟩, 34) := ⟨⟨by decide +kernel, by decide +kernel⟩, List.mem_of_getElem? (i := 1214) (by decide +kernel), List.mem_of_getElem? (i := 1421) (by decide +kernel), List.mem_of_getElem? (i := 1422) (by decide +kernel)⟩
theorem lw_p46 : lw_okq (⟨"SpeedKernelModel", "subtract", "(III)V"⟩, 34) := ⟨⟨by decide +kernel, by decide +kernel⟩, List.mem_of_getElem? (i := 1214) (by decide +kernel), List.mem_of_getElem? (i := 1425) (by decide +kernel), List.mem_of_getElem? (i := 1426) (by decide +kernel)⟩
theorem lw_p47 : lw_okq (⟨"SpeedKernelModel", "part", "(II)I"⟩, 34) := ⟨⟨by decide +kernel, by decide +kernel⟩, List.mem_of_getElem? (i := 1214) (by decide +kernel), List.mem_of_getElem? (i := 1429) (by decide +kernel), List.mem_of_getElem? (i := 1430) (by decide +kernel)⟩
def lw_privs_3 : List (MethodName × Nat) := [(⟨"SpeedKernelModel", "isWithin", "(III)Z"⟩, 34), (⟨"SpeedKernelModel", "firstRelease", "()I"⟩, 34), (⟨"SpeedKernelModel", "lastDeadline", "()I"⟩, 34), (⟨"SpeedKernelModel", "workPlan", "(II)V"⟩, 34), (⟨"SpeedKernelModel", "nextJob", "(I)I"⟩, 34), (⟨"SpeedKernelModel", "tell", "(IJJ)V"⟩, 34), (⟨"SpeedKernelModel", "set", "(IJ)V"⟩, 34), (⟨"SpeedKernelModel", "reduce", "(I)V"⟩, 34), (⟨"SpeedKernelModel", "common", "(II)V"⟩, 34), (⟨"SpeedKernelModel", "copy", "(II)V"⟩, 34), (⟨"SpeedKernelModel", "isEven", "(I)Z"⟩, 34), (⟨"SpeedKernelModel", "divideBy", "(II)I"⟩, 34), (⟨"SpeedKernelModel", "trim", "(I)V"⟩, 34), (⟨"SpeedKernelModel", "order", "(II)I"⟩, 34), (⟨"SpeedKernelModel", "subtract", "(III)V"⟩, 34), (⟨"SpeedKernelModel", "part", "(II)I"⟩, 34)]
theorem lw_r3 : ∀ q ∈ lw_privs_3, lw_okq q := List.forall_mem_cons.mpr ⟨lw_p32, List.forall_mem_cons.mpr ⟨lw_p33, List.forall_mem_cons.mpr ⟨lw_p34, List.forall_mem_cons.mpr ⟨lw_p35, List.forall_mem_cons.mpr ⟨lw_p36, List.forall_mem_cons.mpr ⟨lw_p37, List.forall_mem_cons.mpr ⟨lw_p38, List.forall_mem_cons.mpr ⟨lw_p39, List.forall_mem_cons.mpr ⟨lw_p40, List.forall_mem_cons.mpr ⟨lw_p41, List.forall_mem_cons.mpr ⟨lw_p42, List.forall_mem_cons.mpr ⟨lw_p43, List.forall_mem_cons.mpr ⟨lw_p44, List.forall_mem_cons.mpr ⟨lw_p45, List.forall_mem_cons.mpr ⟨lw_p46, List.forall_mem_cons.mpr ⟨lw_p47, fun _ h => absurd h List.not_mem_nil⟩⟩⟩⟩⟩⟩⟩⟩⟩⟩⟩⟩⟩⟩⟩⟩
theorem lw_p48 : lw_okq (⟨"SpeedKernelModel", "multiplyBy", "(II)V"⟩, 34) := ⟨⟨by decide +kernel, by decide +kernel⟩, List.mem_of_getElem? (i := 1214) (by decide +kernel), List.mem_of_getElem? (i := 1434) (by decide +kernel), List.mem_of_getElem? (i := 1435) (by decide +kernel)⟩
theorem lw_p49 : lw_okq (⟨"SpeedKernelModel", "divide", "(I)V"⟩, 34) := ⟨⟨by decide +kernel, by decide +kernel⟩, List.mem_of_getElem? (i := 1214) (by decide +kernel), List.mem_of_getElem? (i := 1438) (by decide +kernel), List.mem_of_getElem? (i := 1439) (by decide +kernel)⟩
theorem lw_p50 : lw_okq (⟨"SpeedKernelModel", "sumCube", "(II)V"⟩, 34) := ⟨⟨by decide +kernel, by decide +kernel⟩, List.mem_of_getElem? (i := 1214) (by decide +kernel), List.mem_of_getElem? (i := 1442) (by decide +kernel), List.mem_of_getElem? (i := 1443) (by decide +kernel)⟩
theorem lw_p51 : lw_okq (⟨"SpeedKernelModel", "multiply", "(III)V"⟩, 34) := ⟨⟨by decide +kernel, by decide +kernel⟩, List.mem_of_getElem? (i := 1214) (by decide +kernel), List.mem_of_getElem? (i := 1446) (by decide +kernel), List.mem_of_getElem? (i := 1447) (by decide +kernel)⟩
theorem lw_p52 : lw_okq (⟨"SpeedKernelModel", "sumUp", "()V"⟩, 34) := ⟨⟨by decide +kernel, by decide +kernel⟩, List.mem_of_getElem? (i := 1214) (by decide +kernel), List.mem_of_getElem? (i := 1450) (by decide +kernel), List.mem_of_getElem? (i := 1451) (by decide +kernel)⟩
theorem lw_p53 : lw_okq (⟨"SpeedKernelModel", "add", "(III)V"⟩, 34) := ⟨⟨by decide +kernel, by decide +kernel⟩, List.mem_of_getElem? (i := 1214) (by decide +kernel), List.mem_of_getElem? (i := 1454) (by decide +kernel), List.mem_of_getElem? (i := 1455) (by decide +kernel)⟩
theorem lw_p54 : lw_okq (⟨"SpeedKernelModel", "keep", "(II)V"⟩, 34) := ⟨⟨by decide +kernel, by decide +kernel⟩, List.mem_of_getElem? (i := 1214) (by decide +kernel), List.mem_of_getElem? (i := 1458) (by decide +kernel), List.mem_of_getElem? (i := 1459) (by decide +kernel)⟩
theorem lw_p55 : lw_okq (⟨"SpeedKernelModel", "nextEvent", "(I)I"⟩, 34) := ⟨⟨by decide +kernel, by decide +kernel⟩, List.mem_of_getElem? (i := 1214) (by decide +kernel), List.mem_of_getElem? (i := 1466) (by decide +kernel), List.mem_of_getElem? (i := 1467) (by decide +kernel)⟩
theorem lw_p56 : lw_okq (⟨"SpeedKernelModel", "findBest", "(I)I"⟩, 34) := ⟨⟨by decide +kernel, by decide +kernel⟩, List.mem_of_getElem? (i := 1214) (by decide +kernel), List.mem_of_getElem? (i := 1470) (by decide +kernel), List.mem_of_getElem? (i := 1471) (by decide +kernel)⟩
theorem lw_p57 : lw_okq (⟨"SpeedKernelModel", "workAhead", "(III)V"⟩, 34) := ⟨⟨by decide +kernel, by decide +kernel⟩, List.mem_of_getElem? (i := 1214) (by decide +kernel), List.mem_of_getElem? (i := 1474) (by decide +kernel), List.mem_of_getElem? (i := 1475) (by decide +kernel)⟩
theorem lw_p58 : lw_okq (⟨"SpeedKernelModel", "whoAt", "(II)I"⟩, 34) := ⟨⟨by decide +kernel, by decide +kernel⟩, List.mem_of_getElem? (i := 1214) (by decide +kernel), List.mem_of_getElem? (i := 1478) (by decide +kernel), List.mem_of_getElem? (i := 1479) (by decide +kernel)⟩
theorem lw_p59 : lw_okq (⟨"SpeedKernelModel", "inOrder", "(II)I"⟩, 34) := ⟨⟨by decide +kernel, by decide +kernel⟩, List.mem_of_getElem? (i := 1214) (by decide +kernel), List.mem_of_getElem? (i := 1482) (by decide +kernel), List.mem_of_getElem? (i := 1483) (by decide +kernel)⟩
theorem lw_p60 : lw_okq (⟨"SpeedKernelModel", "isSame", "(II)Z"⟩, 34) := ⟨⟨by decide +kernel, by decide +kernel⟩, List.mem_of_getElem? (i := 1214) (by decide +kernel), List.mem_of_getElem? (i := 1486) (by decide +kernel), List.mem_of_getElem? (i := 1487) (by decide +kernel)⟩
theorem lw_p61 : lw_okq (⟨"SpeedKernelModel", "splitOne", "(I)V"⟩, 34) := ⟨⟨by decide +kernel, by decide +kernel⟩, List.mem_of_getElem? (i := 1214) (by decide +kernel), List.mem_of_getElem? (i := 1494) (by decide +kernel), List.mem_of_getElem? (i := 1495) (by decide +kernel)⟩
theorem lw_p62 : lw_okq (⟨"SpeedKernelModel", "pay", "(II)V"⟩, 34) := ⟨⟨by decide +kernel, by decide +kernel⟩, List.mem_of_getElem? (i := 1214) (by decide +kernel), List.mem_of_getElem? (i := 1498) (by decide +kernel), List.mem_of_getElem? (i := 1499) (by decide +kernel)⟩
theorem lw_p63 : lw_okq (⟨"SpeedKernelModel", "fraction", "(II)I"⟩, 34) := ⟨⟨by decide +kernel, by decide +kernel⟩, List.mem_of_getElem? (i := 1214) (by decide +kernel), List.mem_of_getElem? (i := 1514) (by decide +kernel), List.mem_of_getElem? (i := 1515) (by decide +kernel)⟩
def lw_privs_4 : List (MethodName × Nat) := [(⟨"SpeedKernelModel", "multiplyBy", "(II)V"⟩, 34), (⟨"SpeedKernelModel", "divide", "(I)V"⟩, 34), (⟨"SpeedKernelModel", "sumCube", "(II)V"⟩, 34), (⟨"SpeedKernelModel", "multiply", "(III)V"⟩, 34), (⟨"SpeedKernelModel", "sumUp", "()V"⟩, 34), (⟨"SpeedKernelModel", "add", "(III)V"⟩, 34), (⟨"SpeedKernelModel", "keep", "(II)V"⟩, 34), (⟨"SpeedKernelModel", "nextEvent", "(I)I"⟩, 34), (⟨"SpeedKernelModel", "findBest", "(I)I"⟩, 34), (⟨"SpeedKernelModel", "workAhead", "(III)V"⟩, 34), (⟨"SpeedKernelModel", "whoAt", "(II)I"⟩, 34), (⟨"SpeedKernelModel", "inOrder", "(II)I"⟩, 34), (⟨"SpeedKernelModel", "isSame", "(II)Z"⟩, 34), (⟨"SpeedKernelModel", "splitOne", "(I)V"⟩, 34), (⟨"SpeedKernelModel", "pay", "(II)V"⟩, 34), (⟨"SpeedKernelModel", "fraction", "(II)I"⟩, 34)]
theorem lw_r4 : ∀ q ∈ lw_privs_4, lw_okq q := List.forall_mem_cons.mpr ⟨lw_p48, List.forall_mem_cons.mpr ⟨lw_p49, List.forall_mem_cons.mpr ⟨lw_p50, List.forall_mem_cons.mpr ⟨lw_p51, List.forall_mem_cons.mpr ⟨lw_p52, List.forall_mem_cons.mpr ⟨lw_p53, List.forall_mem_cons.mpr ⟨lw_p54, List.forall_mem_cons.mpr ⟨lw_p55, List.forall_mem_cons.mpr ⟨lw_p56, List.forall_mem_cons.mpr ⟨lw_p57, List.forall_mem_cons.mpr ⟨lw_p58, List.forall_mem_cons.mpr ⟨lw_p59, List.forall_mem_cons.mpr ⟨lw_p60, List.forall_mem_cons.mpr ⟨lw_p61, List.forall_mem_cons.mpr ⟨lw_p62, List.forall_mem_cons.mpr ⟨lw_p63, fun _ h => absurd h List.not_mem_nil⟩⟩⟩⟩⟩⟩⟩⟩⟩⟩⟩⟩⟩⟩⟩⟩
theorem lw_p64 : lw_okq (⟨"SpeedKernelModel", "printNumber", "(I)V"⟩, 34) := ⟨⟨by decide +kernel, by decide +kernel⟩, List.mem_of_getElem? (i := 1214) (by decide +kernel), List.mem_of_getElem? (i := 1518) (by decide +kernel), List.mem_of_getElem? (i := 1519) (by decide +kernel)⟩
theorem lw_p65 : lw_okq (⟨"SpeedKernelModel", "speedOf", "(I)D"⟩, 34) := ⟨⟨by decide +kernel, by decide +kernel⟩, List.mem_of_getElem? (i := 1214) (by decide +kernel), List.mem_of_getElem? (i := 1534) (by decide +kernel), List.mem_of_getElem? (i := 1535) (by decide +kernel)⟩
def lw_privs_5 : List (MethodName × Nat) := [(⟨"SpeedKernelModel", "printNumber", "(I)V"⟩, 34), (⟨"SpeedKernelModel", "speedOf", "(I)D"⟩, 34)]
theorem lw_r5 : ∀ q ∈ lw_privs_5, lw_okq q := List.forall_mem_cons.mpr ⟨lw_p64, List.forall_mem_cons.mpr ⟨lw_p65, fun _ h => absurd h List.not_mem_nil⟩⟩
def lw_privs : List (MethodName × Nat) := lw_privs_1 ++ (lw_privs_2 ++ (lw_privs_3 ++ (lw_privs_4 ++ (lw_privs_5))))
def lw_tbl : List Cond := k2_sels lw_privs ++ tables_1
theorem lw_privs_ok : ∀ q ∈ lw_privs, lw_okq q := by
  show ∀ q ∈ lw_privs_1 ++ (lw_privs_2 ++ (lw_privs_3 ++ (lw_privs_4 ++ (lw_privs_5)))), lw_okq q
  exact List.forall_mem_append.mpr ⟨lw_r1, List.forall_mem_append.mpr ⟨lw_r2, List.forall_mem_append.mpr ⟨lw_r3, List.forall_mem_append.mpr ⟨lw_r4, lw_r5⟩⟩⟩⟩
-- ===== end of PART A; then your names; then what follows =====
end
section
/-! names: printed by wip/whole/tools/names.py out of the tables: classes, fields, the cells, methods, words, links -/
def zT : List Cond := lw_tbl.filter goodWord
theorem zT_in {w : Cond} (h : w ∈ zT) : w ∈ lw_tbl := (List.mem_filter.mp h).1
theorem zT_mk {w : Cond} (i : Nat) (h : lw_tbl[i]? = some w) (h2 : goodWord w = true) : w ∈ zT := List.mem_filter.mpr ⟨List.mem_of_getElem? h, h2⟩
theorem zT_list {ws : List Cond} (ps : List Nat) (h : ws = ps.filterMap (fun i => lw_tbl[i]?)) (h2 : ws.all goodWord = true) : ∀ w ∈ ws, w ∈ zT := by
  intro w hw
  refine List.mem_filter.mpr ⟨?_, List.all_eq_true.mp h2 w hw⟩
  rw [h] at hw
  obtain ⟨i, -, hi⟩ := List.mem_filterMap.mp hw
  exact List.mem_of_getElem? hi
def R_Ke : String := "SpeedKernel"
def F_Ke : u_T := fun k => match k with
  | 0 => ("SpeedKernel", "jobs", "LSpeedKernel$Jobs;", true)
  | 1 => ("SpeedKernel", "levels", "LSpeedKernel$Levels;", true)
  | 2 => ("SpeedKernel", "planned", "LSpeedKernel$Profile;", true)
  | 3 => ("SpeedKernel", "foreseen", "LSpeedKernel$Profile;", true)
  | 4 => ("SpeedKernel", "reckoner", "LSpeedKernel$Reckoner;", true)
  | 5 => ("SpeedKernel", "planner", "LSpeedKernel$Planner;", true)
  | 6 => ("SpeedKernel", "foresight", "LSpeedKernel$Foresight;", true)
  | 7 => ("SpeedKernel", "splitter", "LSpeedKernel$Splitter;", true)
  | _ => ("SpeedKernel", "text", "LSpeedKernel$Text;", true)
def t_Ke : Nat → FieldType := fun k => match k with
  | 0 => .object "SpeedKernel$Jobs"
  | 1 => .object "SpeedKernel$Levels"
  | 2 => .object "SpeedKernel$Profile"
  | 3 => .object "SpeedKernel$Profile"
  | 4 => .object "SpeedKernel$Reckoner"
  | 5 => .object "SpeedKernel$Planner"
  | 6 => .object "SpeedKernel$Foresight"
  | 7 => .object "SpeedKernel$Splitter"
  | _ => .object "SpeedKernel$Text"
theorem n_Ke : ∀ a, a < 9 → ∀ b, b < 9 → a ≠ b → (F_Ke a).2.1 ≠ (F_Ke b).2.1 := by decide +kernel
theorem t_Ke_ok : ∀ k, k < 9 → parseFieldDescriptor (F_Ke k).2.2.1 = some (t_Ke k) := by decide +kernel
theorem i_Ke : ∀ w ∈ u_ws R_Ke F_Ke 9, w ∈ zT := by
  exact zT_list [436, 438, 440, 442, 444, 446, 448, 450, 452] (by decide +kernel) (by decide +kernel)
def R_Jo : String := "SpeedKernel$Jobs"
def F_Jo : u_T := fun k => match k with
  | 0 => ("SpeedKernel$Jobs", "count", "I", false)
  | 1 => ("SpeedKernel$Jobs", "release", "[I", true)
  | 2 => ("SpeedKernel$Jobs", "deadline", "[I", true)
  | 3 => ("SpeedKernel$Jobs", "work", "[I", true)
  | _ => ("SpeedKernel$Jobs", "byDeadline", "[I", true)
def t_Jo : Nat → FieldType := fun k => match k with
  | 0 => .int
  | 1 => .array (.int)
  | 2 => .array (.int)
  | 3 => .array (.int)
  | _ => .array (.int)
theorem n_Jo : ∀ a, a < 5 → ∀ b, b < 5 → a ≠ b → (F_Jo a).2.1 ≠ (F_Jo b).2.1 := by decide +kernel
theorem t_Jo_ok : ∀ k, k < 5 → parseFieldDescriptor (F_Jo k).2.2.1 = some (t_Jo k) := by decide +kernel
theorem i_Jo : ∀ w ∈ u_ws R_Jo F_Jo 5, w ∈ zT := by
  exact zT_list [132, 134, 136, 138, 140] (by decide +kernel) (by decide +kernel)
def R_Le : String := "SpeedKernel$Levels"
def F_Le : u_T := fun k => match k with
  | 0 => ("SpeedKernel$Levels", "count", "I", false)
  | 1 => ("SpeedKernel$Levels", "rates", "[I", true)
  | _ => ("SpeedKernel$Levels", "costs", "[I", true)
def t_Le : Nat → FieldType := fun k => match k with
  | 0 => .int
  | 1 => .array (.int)
  | _ => .array (.int)
theorem n_Le : ∀ a, a < 3 → ∀ b, b < 3 → a ≠ b → (F_Le a).2.1 ≠ (F_Le b).2.1 := by decide +kernel
theorem t_Le_ok : ∀ k, k < 3 → parseFieldDescriptor (F_Le k).2.2.1 = some (t_Le k) := by decide +kernel
theorem i_Le : ∀ w ∈ u_ws R_Le F_Le 3, w ∈ zT := by
  exact zT_list [154, 156, 158] (by decide +kernel) (by decide +kernel)
def R_Na : String := "SpeedKernel$Natural"
def F_Na : u_T := fun k => match k with
  | 0 => ("SpeedKernel$Natural", "digits", "[I", true)
  | _ => ("SpeedKernel$Natural", "size", "I", false)
def t_Na : Nat → FieldType := fun k => match k with
  | 0 => .array (.int)
  | _ => .int
theorem n_Na : ∀ a, a < 2 → ∀ b, b < 2 → a ≠ b → (F_Na a).2.1 ≠ (F_Na b).2.1 := by decide +kernel
theorem t_Na_ok : ∀ k, k < 2 → parseFieldDescriptor (F_Na k).2.2.1 = some (t_Na k) := by decide +kernel
theorem i_Na : ∀ w ∈ u_ws R_Na F_Na 2, w ∈ zT := by
  exact zT_list [182, 184] (by decide +kernel) (by decide +kernel)
def R_Fr : String := "SpeedKernel$Fraction"
def F_Fr : u_T := fun k => match k with
  | 0 => ("SpeedKernel$Fraction", "top", "LSpeedKernel$Natural;", true)
  | _ => ("SpeedKernel$Fraction", "below", "LSpeedKernel$Natural;", true)
def t_Fr : Nat → FieldType := fun k => match k with
  | 0 => .object "SpeedKernel$Natural"
  | _ => .object "SpeedKernel$Natural"
theorem n_Fr : ∀ a, a < 2 → ∀ b, b < 2 → a ≠ b → (F_Fr a).2.1 ≠ (F_Fr b).2.1 := by decide +kernel
theorem t_Fr_ok : ∀ k, k < 2 → parseFieldDescriptor (F_Fr k).2.2.1 = some (t_Fr k) := by decide +kernel
theorem i_Fr : ∀ w ∈ u_ws R_Fr F_Fr 2, w ∈ zT := by
  exact zT_list [200, 202] (by decide +kernel) (by decide +kernel)
def R_Pr : String := "SpeedKernel$Profile"
def F_Pr : u_T := fun k => match k with
  | 0 => ("SpeedKernel$Profile", "ready", "Z", false)
  | 1 => ("SpeedKernel$Profile", "steps", "I", false)
  | 2 => ("SpeedKernel$Profile", "begin", "[I", true)
  | 3 => ("SpeedKernel$Profile", "end", "[I", true)
  | 4 => ("SpeedKernel$Profile", "rate", "[LSpeedKernel$Fraction;", true)
  | 5 => ("SpeedKernel$Profile", "done", "[LSpeedKernel$Fraction;", true)
  | 6 => ("SpeedKernel$Profile", "worker", "[I", true)
  | _ => ("SpeedKernel$Profile", "cost", "LSpeedKernel$Fraction;", true)
def t_Pr : Nat → FieldType := fun k => match k with
  | 0 => .boolean
  | 1 => .int
  | 2 => .array (.int)
  | 3 => .array (.int)
  | 4 => .array (.object "SpeedKernel$Fraction")
  | 5 => .array (.object "SpeedKernel$Fraction")
  | 6 => .array (.int)
  | _ => .object "SpeedKernel$Fraction"
theorem n_Pr : ∀ a, a < 8 → ∀ b, b < 8 → a ≠ b → (F_Pr a).2.1 ≠ (F_Pr b).2.1 := by decide +kernel
theorem t_Pr_ok : ∀ k, k < 8 → parseFieldDescriptor (F_Pr k).2.2.1 = some (t_Pr k) := by decide +kernel
theorem i_Pr : ∀ w ∈ u_ws R_Pr F_Pr 8, w ∈ zT := by
  exact zT_list [230, 232, 234, 236, 238, 240, 242, 244] (by decide +kernel) (by decide +kernel)
def R_Re : String := "SpeedKernel$Reckoner"
def F_Re : u_T := fun k => match k with
  | 0 => ("SpeedKernel$Reckoner", "first", "LSpeedKernel$Natural;", true)
  | 1 => ("SpeedKernel$Reckoner", "second", "LSpeedKernel$Natural;", true)
  | 2 => ("SpeedKernel$Reckoner", "quotient", "LSpeedKernel$Natural;", true)
  | 3 => ("SpeedKernel$Reckoner", "shifted", "LSpeedKernel$Natural;", true)
  | 4 => ("SpeedKernel$Reckoner", "product", "LSpeedKernel$Natural;", true)
  | 5 => ("SpeedKernel$Reckoner", "spare", "LSpeedKernel$Natural;", true)
  | 6 => ("SpeedKernel$Reckoner", "sum", "LSpeedKernel$Natural;", true)
  | 7 => ("SpeedKernel$Reckoner", "common", "LSpeedKernel$Natural;", true)
  | _ => ("SpeedKernel$Reckoner", "shares", "[LSpeedKernel$Natural;", true)
def t_Re : Nat → FieldType := fun k => match k with
  | 0 => .object "SpeedKernel$Natural"
  | 1 => .object "SpeedKernel$Natural"
  | 2 => .object "SpeedKernel$Natural"
  | 3 => .object "SpeedKernel$Natural"
  | 4 => .object "SpeedKernel$Natural"
  | 5 => .object "SpeedKernel$Natural"
  | 6 => .object "SpeedKernel$Natural"
  | 7 => .object "SpeedKernel$Natural"
  | _ => .array (.object "SpeedKernel$Natural")
theorem n_Re : ∀ a, a < 9 → ∀ b, b < 9 → a ≠ b → (F_Re a).2.1 ≠ (F_Re b).2.1 := by decide +kernel
theorem t_Re_ok : ∀ k, k < 9 → parseFieldDescriptor (F_Re k).2.2.1 = some (t_Re k) := by decide +kernel
theorem i_Re : ∀ w ∈ u_ws R_Re F_Re 9, w ∈ zT := by
  exact zT_list [265, 267, 269, 271, 273, 275, 277, 279, 281] (by decide +kernel) (by decide +kernel)
def R_Pl : String := "SpeedKernel$Planner"
def F_Pl : u_T := fun k => match k with
  | 0 => ("SpeedKernel$Planner", "groups", "I", false)
  | 1 => ("SpeedKernel$Planner", "groupWork", "[I", true)
  | 2 => ("SpeedKernel$Planner", "groupTime", "[I", true)
  | 3 => ("SpeedKernel$Planner", "groupRate", "[LSpeedKernel$Fraction;", true)
  | 4 => ("SpeedKernel$Planner", "groupOfJob", "[I", true)
  | 5 => ("SpeedKernel$Planner", "groupAt", "[I", true)
  | 6 => ("SpeedKernel$Planner", "freeBefore", "[I", true)
  | 7 => ("SpeedKernel$Planner", "left", "[I", true)
  | 8 => ("SpeedKernel$Planner", "idle", "LSpeedKernel$Fraction;", true)
  | 9 => ("SpeedKernel$Planner", "bestFrom", "I", false)
  | 10 => ("SpeedKernel$Planner", "bestTo", "I", false)
  | 11 => ("SpeedKernel$Planner", "bestWork", "I", false)
  | _ => ("SpeedKernel$Planner", "bestTime", "I", false)
def t_Pl : Nat → FieldType := fun k => match k with
  | 0 => .int
  | 1 => .array (.int)
  | 2 => .array (.int)
  | 3 => .array (.object "SpeedKernel$Fraction")
  | 4 => .array (.int)
  | 5 => .array (.int)
  | 6 => .array (.int)
  | 7 => .array (.int)
  | 8 => .object "SpeedKernel$Fraction"
  | 9 => .int
  | 10 => .int
  | 11 => .int
  | _ => .int
theorem n_Pl : ∀ a, a < 13 → ∀ b, b < 13 → a ≠ b → (F_Pl a).2.1 ≠ (F_Pl b).2.1 := by decide +kernel
theorem t_Pl_ok : ∀ k, k < 13 → parseFieldDescriptor (F_Pl k).2.2.1 = some (t_Pl k) := by decide +kernel
theorem i_Pl : ∀ w ∈ u_ws R_Pl F_Pl 13, w ∈ zT := by
  exact zT_list [307, 309, 311, 313, 315, 317, 319, 321, 323, 325, 327, 329, 331] (by decide +kernel) (by decide +kernel)
def R_Fo : String := "SpeedKernel$Foresight"
def F_Fo : u_T := fun k => match k with
  | 0 => ("SpeedKernel$Foresight", "left", "[LSpeedKernel$Natural;", true)
  | 1 => ("SpeedKernel$Foresight", "scale", "LSpeedKernel$Natural;", true)
  | 2 => ("SpeedKernel$Foresight", "dense", "LSpeedKernel$Natural;", true)
  | 3 => ("SpeedKernel$Foresight", "denseDeadline", "I", false)
  | 4 => ("SpeedKernel$Foresight", "sum", "LSpeedKernel$Natural;", true)
  | 5 => ("SpeedKernel$Foresight", "mark", "LSpeedKernel$Natural;", true)
  | 6 => ("SpeedKernel$Foresight", "room", "LSpeedKernel$Natural;", true)
  | 7 => ("SpeedKernel$Foresight", "spare", "LSpeedKernel$Natural;", true)
  | _ => ("SpeedKernel$Foresight", "rate", "LSpeedKernel$Fraction;", true)
def t_Fo : Nat → FieldType := fun k => match k with
  | 0 => .array (.object "SpeedKernel$Natural")
  | 1 => .object "SpeedKernel$Natural"
  | 2 => .object "SpeedKernel$Natural"
  | 3 => .int
  | 4 => .object "SpeedKernel$Natural"
  | 5 => .object "SpeedKernel$Natural"
  | 6 => .object "SpeedKernel$Natural"
  | 7 => .object "SpeedKernel$Natural"
  | _ => .object "SpeedKernel$Fraction"
theorem n_Fo : ∀ a, a < 9 → ∀ b, b < 9 → a ≠ b → (F_Fo a).2.1 ≠ (F_Fo b).2.1 := by decide +kernel
theorem t_Fo_ok : ∀ k, k < 9 → parseFieldDescriptor (F_Fo k).2.2.1 = some (t_Fo k) := by decide +kernel
theorem i_Fo : ∀ w ∈ u_ws R_Fo F_Fo 9, w ∈ zT := by
  exact zT_list [353, 355, 357, 359, 361, 363, 365, 367, 369] (by decide +kernel) (by decide +kernel)
def R_Sp : String := "SpeedKernel$Splitter"
def F_Sp : u_T := fun k => match k with
  | 0 => ("SpeedKernel$Splitter", "ready", "Z", false)
  | 1 => ("SpeedKernel$Splitter", "lesser", "[I", true)
  | 2 => ("SpeedKernel$Splitter", "greater", "[I", true)
  | 3 => ("SpeedKernel$Splitter", "slowly", "[LSpeedKernel$Fraction;", true)
  | 4 => ("SpeedKernel$Splitter", "fast", "[LSpeedKernel$Fraction;", true)
  | _ => ("SpeedKernel$Splitter", "cost", "LSpeedKernel$Fraction;", true)
def t_Sp : Nat → FieldType := fun k => match k with
  | 0 => .boolean
  | 1 => .array (.int)
  | 2 => .array (.int)
  | 3 => .array (.object "SpeedKernel$Fraction")
  | 4 => .array (.object "SpeedKernel$Fraction")
  | _ => .object "SpeedKernel$Fraction"
theorem n_Sp : ∀ a, a < 6 → ∀ b, b < 6 → a ≠ b → (F_Sp a).2.1 ≠ (F_Sp b).2.1 := by decide +kernel
theorem t_Sp_ok : ∀ k, k < 6 → parseFieldDescriptor (F_Sp k).2.2.1 = some (t_Sp k) := by decide +kernel
theorem i_Sp : ∀ w ∈ u_ws R_Sp F_Sp 6, w ∈ zT := by
  exact zT_list [392, 394, 396, 398, 400, 402] (by decide +kernel) (by decide +kernel)
def R_Te : String := "SpeedKernel$Text"
def F_Te : u_T := fun k => match k with
  | 0 => ("SpeedKernel$Text", "characters", "[C", true)
  | 1 => ("SpeedKernel$Text", "length", "I", false)
  | 2 => ("SpeedKernel$Text", "chunks", "[I", true)
  | _ => ("SpeedKernel$Text", "rest", "LSpeedKernel$Natural;", true)
def t_Te : Nat → FieldType := fun k => match k with
  | 0 => .array (.char)
  | 1 => .int
  | 2 => .array (.int)
  | _ => .object "SpeedKernel$Natural"
theorem n_Te : ∀ a, a < 4 → ∀ b, b < 4 → a ≠ b → (F_Te a).2.1 ≠ (F_Te b).2.1 := by decide +kernel
theorem t_Te_ok : ∀ k, k < 4 → parseFieldDescriptor (F_Te k).2.2.1 = some (t_Te k) := by decide +kernel
theorem i_Te : ∀ w ∈ u_ws R_Te F_Te 4, w ∈ zT := by
  exact zT_list [417, 419, 421, 423] (by decide +kernel) (by decide +kernel)
def R_Mo : String := "SpeedKernelModel"
def F_Mo : u_T := fun k => match k with
  | 0 => ("SpeedKernelModel", "thrown", "I", false)
  | 1 => ("SpeedKernelModel", "cells", "[I", true)
  | 2 => ("SpeedKernelModel", "sizes", "[I", true)
  | 3 => ("SpeedKernelModel", "jobs", "I", false)
  | 4 => ("SpeedKernelModel", "releases", "[I", true)
  | 5 => ("SpeedKernelModel", "deadlines", "[I", true)
  | 6 => ("SpeedKernelModel", "works", "[I", true)
  | 7 => ("SpeedKernelModel", "levels", "I", false)
  | 8 => ("SpeedKernelModel", "rates", "[I", true)
  | 9 => ("SpeedKernelModel", "costs", "[I", true)
  | 10 => ("SpeedKernelModel", "planned", "Z", false)
  | 11 => ("SpeedKernelModel", "gone", "Z", false)
  | 12 => ("SpeedKernelModel", "isSplit", "Z", false)
  | 13 => ("SpeedKernelModel", "fixed", "[Z", true)
  | 14 => ("SpeedKernelModel", "above", "[J", true)
  | 15 => ("SpeedKernelModel", "below", "[J", true)
  | 16 => ("SpeedKernelModel", "done", "[Z", true)
  | 17 => ("SpeedKernelModel", "jobAbove", "[J", true)
  | 18 => ("SpeedKernelModel", "jobBelow", "[J", true)
  | 19 => ("SpeedKernelModel", "left", "[J", true)
  | 20 => ("SpeedKernelModel", "planSteps", "I", false)
  | 21 => ("SpeedKernelModel", "planBegins", "[I", true)
  | 22 => ("SpeedKernelModel", "planEnds", "[I", true)
  | 23 => ("SpeedKernelModel", "stepAbove", "[J", true)
  | 24 => ("SpeedKernelModel", "stepBelow", "[J", true)
  | 25 => ("SpeedKernelModel", "planWorks", "[I", true)
  | 26 => ("SpeedKernelModel", "aheadSteps", "I", false)
  | 27 => ("SpeedKernelModel", "aheadBegins", "[I", true)
  | 28 => ("SpeedKernelModel", "aheadEnds", "[I", true)
  | 29 => ("SpeedKernelModel", "aheadWorks", "[I", true)
  | 30 => ("SpeedKernelModel", "lesser", "[I", true)
  | 31 => ("SpeedKernelModel", "greater", "[I", true)
  | 32 => ("SpeedKernelModel", "printed", "[I", true)
  | _ => ("SpeedKernelModel", "printedMany", "I", false)
def t_Mo : Nat → FieldType := fun k => match k with
  | 0 => .int
  | 1 => .array (.int)
  | 2 => .array (.int)
  | 3 => .int
  | 4 => .array (.int)
  | 5 => .array (.int)
  | 6 => .array (.int)
  | 7 => .int
  | 8 => .array (.int)
  | 9 => .array (.int)
  | 10 => .boolean
  | 11 => .boolean
  | 12 => .boolean
  | 13 => .array (.boolean)
  | 14 => .array (.long)
  | 15 => .array (.long)
  | 16 => .array (.boolean)
  | 17 => .array (.long)
  | 18 => .array (.long)
  | 19 => .array (.long)
  | 20 => .int
  | 21 => .array (.int)
  | 22 => .array (.int)
  | 23 => .array (.long)
  | 24 => .array (.long)
  | 25 => .array (.int)
  | 26 => .int
  | 27 => .array (.int)
  | 28 => .array (.int)
  | 29 => .array (.int)
  | 30 => .array (.int)
  | 31 => .array (.int)
  | 32 => .array (.int)
  | _ => .int
theorem n_Mo : ∀ a, a < 34 → ∀ b, b < 34 → a ≠ b → (F_Mo a).2.1 ≠ (F_Mo b).2.1 := by decide +kernel
theorem t_Mo_ok : ∀ k, k < 34 → parseFieldDescriptor (F_Mo k).2.2.1 = some (t_Mo k) := by decide +kernel
theorem i_Mo : ∀ w ∈ u_ws R_Mo F_Mo 34, w ∈ zT := by
  exact zT_list [1319, 1321, 1323, 1325, 1327, 1329, 1331, 1333, 1335, 1337, 1339, 1341, 1343, 1345, 1347, 1349, 1351, 1353, 1355, 1357, 1359, 1361, 1363, 1365, 1367, 1369, 1371, 1373, 1375, 1377, 1379, 1381, 1383, 1385] (by decide +kernel) (by decide +kernel)
abbrev zcl : List vw_C := [(R_Ke, F_Ke, 9), (R_Jo, F_Jo, 5), (R_Le, F_Le, 3), (R_Na, F_Na, 2), (R_Fr, F_Fr, 2), (R_Pr, F_Pr, 8), (R_Re, F_Re, 9), (R_Pl, F_Pl, 13), (R_Fo, F_Fo, 9), (R_Sp, F_Sp, 6), (R_Te, F_Te, 4), (R_Mo, F_Mo, 34)]
/-- a class, a field: 0 an int, 1 a boolean, 2 a reference: how far behind the object the cell lies -/
def zFT : List (List (Nat × Nat)) := [[(2, 1), (2, 6), (2, 9), (2, 200), (2, 391), (2, 457), (2, 530), (2, 573), (2, 703)], [(0, 0), (2, 1), (2, 2), (2, 3), (2, 4)], [(0, 0), (2, 1), (2, 2)], [(2, 1), (0, 0)], [(2, 1), (2, 3)], [(1, 0), (0, 0), (2, 1), (2, 2), (2, 3), (2, 4), (2, 5), (2, 6)], [(2, 1), (2, 3), (2, 5), (2, 7), (2, 9), (2, 11), (2, 13), (2, 15), (2, 17)], [(0, 0), (2, 1), (2, 2), (2, 3), (2, 4), (2, 5), (2, 6), (2, 7), (2, 8), (0, 0), (0, 0), (0, 0), (0, 0)], [(2, 1), (2, 2), (2, 4), (0, 0), (2, 6), (2, 8), (2, 10), (2, 12), (2, 14)], [(1, 0), (2, 1), (2, 2), (2, 3), (2, 4), (2, 5)], [(2, 1), (0, 0), (2, 2), (2, 3)], [(0, 0), (2, 1), (2, 2), (0, 0), (2, 3), (2, 4), (2, 5), (0, 0), (2, 6), (2, 7), (1, 0), (1, 0), (1, 0), (2, 8), (2, 9), (2, 10), (2, 11), (2, 12), (2, 13), (2, 14), (0, 0), (2, 15), (2, 16), (2, 17), (2, 18), (2, 19), (0, 0), (2, 20), (2, 21), (2, 22), (2, 23), (2, 24), (2, 25), (0, 0)]]
/-- the cells in the order in which they are made: (0, class, 0) an object; (1, n, 0) ints, (2, n, 0) longs, (3, n, 0) booleans, (4, n, 0) chars; (5, n, t) references of kind t -/
def zKT_0 : List (Nat × Nat × Nat) := [(0, 0, 0), (0, 1, 0), (1, 12, 0), (1, 12, 0), (1, 12, 0), (1, 12, 0), (0, 2, 0), (1, 8, 0), (1, 8, 0), (0, 5, 0), (1, 24, 0), (1, 24, 0), (5, 24, 0), (5, 12, 1), (1, 200, 0), (0, 4, 0), (0, 3, 0), (1, 32, 0), (0, 3, 0), (1, 32, 0), (0, 4, 0), (0, 3, 0), (1, 32, 0), (0, 3, 0), (1, 32, 0), (0, 4, 0), (0, 3, 0), (1, 32, 0), (0, 3, 0), (1, 32, 0), (0, 4, 0), (0, 3, 0), (1, 32, 0), (0, 3, 0), (1, 32, 0), (0, 4, 0), (0, 3, 0), (1, 32, 0), (0, 3, 0), (1, 32, 0), (0, 4, 0), (0, 3, 0), (1, 32, 0), (0, 3, 0), (1, 32, 0), (0, 4, 0), (0, 3, 0), (1, 32, 0), (0, 3, 0), (1, 32, 0), (0, 4, 0), (0, 3, 0), (1, 32, 0), (0, 3, 0), (1, 32, 0), (0, 4, 0), (0, 3, 0), (1, 32, 0), (0, 3, 0), (1, 32, 0), (0, 4, 0), (0, 3, 0), (1, 32, 0), (0, 3, 0), (1, 32, 0), (0, 4, 0), (0, 3, 0), (1, 32, 0), (0, 3, 0), (1, 32, 0), (0, 4, 0), (0, 3, 0), (1, 32, 0), (0, 3, 0), (1, 32, 0), (0, 4, 0), (0, 3, 0), (1, 32, 0), (0, 3, 0), (1, 32, 0), (0, 4, 0), (0, 3, 0), (1, 32, 0), (0, 3, 0), (1, 32, 0), (0, 4, 0), (0, 3, 0), (1, 32, 0), (0, 3, 0), (1, 32, 0), (0, 4, 0), (0, 3, 0), (1, 32, 0), (0, 3, 0), (1, 32, 0), (0, 4, 0), (0, 3, 0), (1, 32, 0), (0, 3, 0), (1, 32, 0), (0, 4, 0), (0, 3, 0), (1, 32, 0), (0, 3, 0), (1, 32, 0)]
def zKT_1 : List (Nat × Nat × Nat) := [(0, 4, 0), (0, 3, 0), (1, 32, 0), (0, 3, 0), (1, 32, 0), (0, 4, 0), (0, 3, 0), (1, 32, 0), (0, 3, 0), (1, 32, 0), (0, 4, 0), (0, 3, 0), (1, 32, 0), (0, 3, 0), (1, 32, 0), (0, 4, 0), (0, 3, 0), (1, 32, 0), (0, 3, 0), (1, 32, 0), (0, 4, 0), (0, 3, 0), (1, 32, 0), (0, 3, 0), (1, 32, 0), (0, 4, 0), (0, 3, 0), (1, 32, 0), (0, 3, 0), (1, 32, 0), (0, 4, 0), (0, 3, 0), (1, 32, 0), (0, 3, 0), (1, 32, 0), (0, 4, 0), (0, 3, 0), (1, 32, 0), (0, 3, 0), (1, 32, 0), (0, 4, 0), (0, 3, 0), (1, 32, 0), (0, 3, 0), (1, 32, 0), (0, 4, 0), (0, 3, 0), (1, 32, 0), (0, 3, 0), (1, 32, 0), (0, 4, 0), (0, 3, 0), (1, 32, 0), (0, 3, 0), (1, 32, 0), (0, 4, 0), (0, 3, 0), (1, 32, 0), (0, 3, 0), (1, 32, 0), (0, 4, 0), (0, 3, 0), (1, 32, 0), (0, 3, 0), (1, 32, 0), (0, 4, 0), (0, 3, 0), (1, 32, 0), (0, 3, 0), (1, 32, 0), (0, 4, 0), (0, 3, 0), (1, 32, 0), (0, 3, 0), (1, 32, 0), (0, 4, 0), (0, 3, 0), (1, 32, 0), (0, 3, 0), (1, 32, 0), (0, 4, 0), (0, 3, 0), (1, 32, 0), (0, 3, 0), (1, 32, 0), (0, 4, 0), (0, 3, 0), (1, 32, 0), (0, 3, 0), (1, 32, 0), (0, 4, 0), (0, 3, 0), (1, 32, 0), (0, 3, 0), (1, 32, 0), (0, 5, 0), (1, 24, 0), (1, 24, 0), (5, 24, 0), (5, 12, 1), (1, 200, 0), (0, 4, 0), (0, 3, 0), (1, 32, 0), (0, 3, 0)]
def zKT_2 : List (Nat × Nat × Nat) := [(1, 32, 0), (0, 4, 0), (0, 3, 0), (1, 32, 0), (0, 3, 0), (1, 32, 0), (0, 4, 0), (0, 3, 0), (1, 32, 0), (0, 3, 0), (1, 32, 0), (0, 4, 0), (0, 3, 0), (1, 32, 0), (0, 3, 0), (1, 32, 0), (0, 4, 0), (0, 3, 0), (1, 32, 0), (0, 3, 0), (1, 32, 0), (0, 4, 0), (0, 3, 0), (1, 32, 0), (0, 3, 0), (1, 32, 0), (0, 4, 0), (0, 3, 0), (1, 32, 0), (0, 3, 0), (1, 32, 0), (0, 4, 0), (0, 3, 0), (1, 32, 0), (0, 3, 0), (1, 32, 0), (0, 4, 0), (0, 3, 0), (1, 32, 0), (0, 3, 0), (1, 32, 0), (0, 4, 0), (0, 3, 0), (1, 32, 0), (0, 3, 0), (1, 32, 0), (0, 4, 0), (0, 3, 0), (1, 32, 0), (0, 3, 0), (1, 32, 0), (0, 4, 0), (0, 3, 0), (1, 32, 0), (0, 3, 0), (1, 32, 0), (0, 4, 0), (0, 3, 0), (1, 32, 0), (0, 3, 0), (1, 32, 0), (0, 4, 0), (0, 3, 0), (1, 32, 0), (0, 3, 0), (1, 32, 0), (0, 4, 0), (0, 3, 0), (1, 32, 0), (0, 3, 0), (1, 32, 0), (0, 4, 0), (0, 3, 0), (1, 32, 0), (0, 3, 0), (1, 32, 0), (0, 4, 0), (0, 3, 0), (1, 32, 0), (0, 3, 0), (1, 32, 0), (0, 4, 0), (0, 3, 0), (1, 32, 0), (0, 3, 0), (1, 32, 0), (0, 4, 0), (0, 3, 0), (1, 32, 0), (0, 3, 0), (1, 32, 0), (0, 4, 0), (0, 3, 0), (1, 32, 0), (0, 3, 0), (1, 32, 0), (0, 4, 0), (0, 3, 0), (1, 32, 0), (0, 3, 0), (1, 32, 0), (0, 4, 0), (0, 3, 0), (1, 32, 0), (0, 3, 0)]
def zKT_3 : List (Nat × Nat × Nat) := [(1, 32, 0), (0, 4, 0), (0, 3, 0), (1, 32, 0), (0, 3, 0), (1, 32, 0), (0, 4, 0), (0, 3, 0), (1, 32, 0), (0, 3, 0), (1, 32, 0), (0, 4, 0), (0, 3, 0), (1, 32, 0), (0, 3, 0), (1, 32, 0), (0, 4, 0), (0, 3, 0), (1, 32, 0), (0, 3, 0), (1, 32, 0), (0, 4, 0), (0, 3, 0), (1, 32, 0), (0, 3, 0), (1, 32, 0), (0, 4, 0), (0, 3, 0), (1, 32, 0), (0, 3, 0), (1, 32, 0), (0, 4, 0), (0, 3, 0), (1, 32, 0), (0, 3, 0), (1, 32, 0), (0, 4, 0), (0, 3, 0), (1, 32, 0), (0, 3, 0), (1, 32, 0), (0, 4, 0), (0, 3, 0), (1, 32, 0), (0, 3, 0), (1, 32, 0), (0, 4, 0), (0, 3, 0), (1, 32, 0), (0, 3, 0), (1, 32, 0), (0, 4, 0), (0, 3, 0), (1, 32, 0), (0, 3, 0), (1, 32, 0), (0, 4, 0), (0, 3, 0), (1, 32, 0), (0, 3, 0), (1, 32, 0), (0, 4, 0), (0, 3, 0), (1, 32, 0), (0, 3, 0), (1, 32, 0), (0, 4, 0), (0, 3, 0), (1, 32, 0), (0, 3, 0), (1, 32, 0), (0, 4, 0), (0, 3, 0), (1, 32, 0), (0, 3, 0), (1, 32, 0), (0, 6, 0), (0, 3, 0), (1, 32, 0), (0, 3, 0), (1, 32, 0), (0, 3, 0), (1, 32, 0), (0, 3, 0), (1, 32, 0), (0, 3, 0), (1, 32, 0), (0, 3, 0), (1, 32, 0), (0, 3, 0), (1, 32, 0), (0, 3, 0), (1, 32, 0), (5, 24, 2), (0, 3, 0), (1, 32, 0), (0, 3, 0), (1, 32, 0), (0, 3, 0), (1, 32, 0), (0, 3, 0), (1, 32, 0), (0, 3, 0), (1, 32, 0), (0, 3, 0)]
def zKT_4 : List (Nat × Nat × Nat) := [(1, 32, 0), (0, 3, 0), (1, 32, 0), (0, 3, 0), (1, 32, 0), (0, 3, 0), (1, 32, 0), (0, 3, 0), (1, 32, 0), (0, 3, 0), (1, 32, 0), (0, 3, 0), (1, 32, 0), (0, 3, 0), (1, 32, 0), (0, 3, 0), (1, 32, 0), (0, 3, 0), (1, 32, 0), (0, 3, 0), (1, 32, 0), (0, 3, 0), (1, 32, 0), (0, 3, 0), (1, 32, 0), (0, 3, 0), (1, 32, 0), (0, 3, 0), (1, 32, 0), (0, 3, 0), (1, 32, 0), (0, 3, 0), (1, 32, 0), (0, 3, 0), (1, 32, 0), (0, 3, 0), (1, 32, 0), (0, 7, 0), (1, 12, 0), (1, 12, 0), (5, 12, 3), (1, 12, 0), (1, 200, 0), (1, 201, 0), (1, 12, 0), (0, 4, 0), (0, 3, 0), (1, 32, 0), (0, 3, 0), (1, 32, 0), (0, 4, 0), (0, 3, 0), (1, 32, 0), (0, 3, 0), (1, 32, 0), (0, 4, 0), (0, 3, 0), (1, 32, 0), (0, 3, 0), (1, 32, 0), (0, 4, 0), (0, 3, 0), (1, 32, 0), (0, 3, 0), (1, 32, 0), (0, 4, 0), (0, 3, 0), (1, 32, 0), (0, 3, 0), (1, 32, 0), (0, 4, 0), (0, 3, 0), (1, 32, 0), (0, 3, 0), (1, 32, 0), (0, 4, 0), (0, 3, 0), (1, 32, 0), (0, 3, 0), (1, 32, 0), (0, 4, 0), (0, 3, 0), (1, 32, 0), (0, 3, 0), (1, 32, 0), (0, 4, 0), (0, 3, 0), (1, 32, 0), (0, 3, 0), (1, 32, 0), (0, 4, 0), (0, 3, 0), (1, 32, 0), (0, 3, 0), (1, 32, 0), (0, 4, 0), (0, 3, 0), (1, 32, 0), (0, 3, 0), (1, 32, 0), (0, 4, 0), (0, 3, 0), (1, 32, 0), (0, 3, 0), (1, 32, 0)]
def zKT_5 : List (Nat × Nat × Nat) := [(0, 4, 0), (0, 3, 0), (1, 32, 0), (0, 3, 0), (1, 32, 0), (0, 8, 0), (5, 12, 4), (0, 3, 0), (1, 32, 0), (0, 3, 0), (1, 32, 0), (0, 3, 0), (1, 32, 0), (0, 3, 0), (1, 32, 0), (0, 3, 0), (1, 32, 0), (0, 3, 0), (1, 32, 0), (0, 4, 0), (0, 3, 0), (1, 32, 0), (0, 3, 0), (1, 32, 0), (0, 3, 0), (1, 32, 0), (0, 3, 0), (1, 32, 0), (0, 3, 0), (1, 32, 0), (0, 3, 0), (1, 32, 0), (0, 3, 0), (1, 32, 0), (0, 3, 0), (1, 32, 0), (0, 3, 0), (1, 32, 0), (0, 3, 0), (1, 32, 0), (0, 3, 0), (1, 32, 0), (0, 3, 0), (1, 32, 0), (0, 3, 0), (1, 32, 0), (0, 3, 0), (1, 32, 0), (0, 9, 0), (1, 12, 0), (1, 12, 0), (5, 12, 5), (5, 12, 6), (0, 4, 0), (0, 3, 0), (1, 32, 0), (0, 3, 0), (1, 32, 0), (0, 4, 0), (0, 3, 0), (1, 32, 0), (0, 3, 0), (1, 32, 0), (0, 4, 0), (0, 3, 0), (1, 32, 0), (0, 3, 0), (1, 32, 0), (0, 4, 0), (0, 3, 0), (1, 32, 0), (0, 3, 0), (1, 32, 0), (0, 4, 0), (0, 3, 0), (1, 32, 0), (0, 3, 0), (1, 32, 0), (0, 4, 0), (0, 3, 0), (1, 32, 0), (0, 3, 0), (1, 32, 0), (0, 4, 0), (0, 3, 0), (1, 32, 0), (0, 3, 0), (1, 32, 0), (0, 4, 0), (0, 3, 0), (1, 32, 0), (0, 3, 0), (1, 32, 0), (0, 4, 0), (0, 3, 0), (1, 32, 0), (0, 3, 0), (1, 32, 0), (0, 4, 0), (0, 3, 0), (1, 32, 0), (0, 3, 0), (1, 32, 0), (0, 4, 0), (0, 3, 0)]
def zKT_6 : List (Nat × Nat × Nat) := [(1, 32, 0), (0, 3, 0), (1, 32, 0), (0, 4, 0), (0, 3, 0), (1, 32, 0), (0, 3, 0), (1, 32, 0), (0, 4, 0), (0, 3, 0), (1, 32, 0), (0, 3, 0), (1, 32, 0), (0, 4, 0), (0, 3, 0), (1, 32, 0), (0, 3, 0), (1, 32, 0), (0, 4, 0), (0, 3, 0), (1, 32, 0), (0, 3, 0), (1, 32, 0), (0, 4, 0), (0, 3, 0), (1, 32, 0), (0, 3, 0), (1, 32, 0), (0, 4, 0), (0, 3, 0), (1, 32, 0), (0, 3, 0), (1, 32, 0), (0, 4, 0), (0, 3, 0), (1, 32, 0), (0, 3, 0), (1, 32, 0), (0, 4, 0), (0, 3, 0), (1, 32, 0), (0, 3, 0), (1, 32, 0), (0, 4, 0), (0, 3, 0), (1, 32, 0), (0, 3, 0), (1, 32, 0), (0, 4, 0), (0, 3, 0), (1, 32, 0), (0, 3, 0), (1, 32, 0), (0, 4, 0), (0, 3, 0), (1, 32, 0), (0, 3, 0), (1, 32, 0), (0, 4, 0), (0, 3, 0), (1, 32, 0), (0, 3, 0), (1, 32, 0), (0, 4, 0), (0, 3, 0), (1, 32, 0), (0, 3, 0), (1, 32, 0), (0, 4, 0), (0, 3, 0), (1, 32, 0), (0, 3, 0), (1, 32, 0), (0, 10, 0), (4, 721, 0), (1, 40, 0), (0, 3, 0), (1, 32, 0), (0, 11, 0), (1, 26000, 0), (1, 260, 0), (1, 12, 0), (1, 12, 0), (1, 12, 0), (1, 8, 0), (1, 8, 0), (3, 200, 0), (2, 200, 0), (2, 200, 0), (3, 12, 0), (2, 12, 0), (2, 12, 0), (2, 12, 0), (1, 24, 0), (1, 24, 0), (2, 24, 0), (2, 24, 0), (1, 200, 0), (1, 24, 0), (1, 24, 0), (1, 200, 0), (1, 12, 0), (1, 12, 0), (1, 2000, 0), (2, 1, 0)]
def zKT : List (Nat × Nat × Nat) := zKT_0 ++ (zKT_1 ++ (zKT_2 ++ (zKT_3 ++ (zKT_4 ++ (zKT_5 ++ (zKT_6))))))
def zN : Nat := 735
/-- kinds of arrays of references: the class of the array, where its elements lie, how far apart -/
def zRA : List (Nat × Nat × Nat) := [(6, 8, 5), (6, 127, 5), (5, 1, 2), (6, 10, 5), (5, 18, 2), (6, 7, 10), (6, 11, 10)]
/-! methods: name, code, locals, what it returns, how deep its calls go -/
abbrev MI : Type := MethodName × ByteArray × Nat × Option FieldType × Nat
abbrev MOK (M : MI) (n : Nat) : Prop := Cond.code M.1 M.2.1 M.2.2.1 M.2.2.2.1 ∈ zT ∧ Cond.initialized M.1.cls ∈ zT ∧ (plainName M.1.cls = true ∧ M.1.cls ≠ "java/lang/invoke/MethodHandle" ∧ M.1.cls ≠ "java/lang/invoke/VarHandle" ∧ (parseMethodDescriptor M.1.desc).map (fun d => d.parameters.length) = some n)
abbrev MVV (M : MI) : Prop := Cond.instanceMethod M.1 ∈ zT ∧ Cond.selects M.1.cls M.1 M.1 ∈ zT
abbrev MSS (M : MI) : Prop := Cond.static M.1 ∈ zT
abbrev MII (M : MI) : Prop := Cond.instanceMethod M.1 ∈ zT ∧ M.1.name = "<init>"
def M_Ke_init : MI := (⟨"SpeedKernel", "<init>", "()V"⟩, prog_1_method_1_code, 1, none, 4)
theorem mc_Ke_init : MOK M_Ke_init 0 := ⟨zT_mk 101 (by decide +kernel) (by decide +kernel), zT_mk 67 (by decide +kernel) (by decide +kernel), by decide +kernel⟩
theorem mi_Ke_init : MII M_Ke_init := ⟨zT_mk 100 (by decide +kernel) (by decide +kernel), rfl⟩
def M_Ke_job : MI := (⟨"SpeedKernel", "job", "(III)I"⟩, prog_1_method_2_code, 4, (some .int), 1)
theorem mc_Ke_job : MOK M_Ke_job 3 := ⟨zT_mk 458 (by decide +kernel) (by decide +kernel), zT_mk 67 (by decide +kernel) (by decide +kernel), by decide +kernel⟩
theorem mv_Ke_job : MVV M_Ke_job := ⟨zT_mk 456 (by decide +kernel) (by decide +kernel), zT_mk 457 (by decide +kernel) (by decide +kernel)⟩
def M_Ke_level : MI := (⟨"SpeedKernel", "level", "(II)I"⟩, prog_1_method_3_code, 3, (some .int), 2)
theorem mc_Ke_level : MOK M_Ke_level 2 := ⟨zT_mk 470 (by decide +kernel) (by decide +kernel), zT_mk 67 (by decide +kernel) (by decide +kernel), by decide +kernel⟩
theorem mv_Ke_level : MVV M_Ke_level := ⟨zT_mk 468 (by decide +kernel) (by decide +kernel), zT_mk 469 (by decide +kernel) (by decide +kernel)⟩
def M_Ke_convex : MI := (⟨"SpeedKernel", "convex", "()I"⟩, prog_1_method_4_code, 1, (some .int), 3)
theorem mc_Ke_convex : MOK M_Ke_convex 0 := ⟨zT_mk 487 (by decide +kernel) (by decide +kernel), zT_mk 67 (by decide +kernel) (by decide +kernel), by decide +kernel⟩
theorem mv_Ke_convex : MVV M_Ke_convex := ⟨zT_mk 485 (by decide +kernel) (by decide +kernel), zT_mk 486 (by decide +kernel) (by decide +kernel)⟩
def M_Ke_clear : MI := (⟨"SpeedKernel", "clear", "()I"⟩, prog_1_method_5_code, 2, (some .int), 1)
theorem mc_Ke_clear : MOK M_Ke_clear 0 := ⟨zT_mk 500 (by decide +kernel) (by decide +kernel), zT_mk 67 (by decide +kernel) (by decide +kernel), by decide +kernel⟩
theorem mv_Ke_clear : MVV M_Ke_clear := ⟨zT_mk 498 (by decide +kernel) (by decide +kernel), zT_mk 499 (by decide +kernel) (by decide +kernel)⟩
def M_Ke_about : MI := (⟨"SpeedKernel", "about", "(II)I"⟩, prog_1_method_6_code, 3, (some .int), 2)
theorem mc_Ke_about : MOK M_Ke_about 2 := ⟨zT_mk 504 (by decide +kernel) (by decide +kernel), zT_mk 67 (by decide +kernel) (by decide +kernel), by decide +kernel⟩
theorem mv_Ke_about : MVV M_Ke_about := ⟨zT_mk 502 (by decide +kernel) (by decide +kernel), zT_mk 503 (by decide +kernel) (by decide +kernel)⟩
def M_Ke_plan : MI := (⟨"SpeedKernel", "plan", "()I"⟩, prog_1_method_7_code, 1, (some .int), 6)
theorem mc_Ke_plan : MOK M_Ke_plan 0 := ⟨zT_mk 514 (by decide +kernel) (by decide +kernel), zT_mk 67 (by decide +kernel) (by decide +kernel), by decide +kernel⟩
theorem mv_Ke_plan : MVV M_Ke_plan := ⟨zT_mk 512 (by decide +kernel) (by decide +kernel), zT_mk 513 (by decide +kernel) (by decide +kernel)⟩
def M_Ke_ahead : MI := (⟨"SpeedKernel", "ahead", "()I"⟩, prog_1_method_8_code, 1, (some .int), 6)
theorem mc_Ke_ahead : MOK M_Ke_ahead 0 := ⟨zT_mk 1038 (by decide +kernel) (by decide +kernel), zT_mk 67 (by decide +kernel) (by decide +kernel), by decide +kernel⟩
theorem mv_Ke_ahead : MVV M_Ke_ahead := ⟨zT_mk 1036 (by decide +kernel) (by decide +kernel), zT_mk 1037 (by decide +kernel) (by decide +kernel)⟩
def M_Ke_split : MI := (⟨"SpeedKernel", "split", "()I"⟩, prog_1_method_9_code, 1, (some .int), 12)
theorem mc_Ke_split : MOK M_Ke_split 0 := ⟨zT_mk 1206 (by decide +kernel) (by decide +kernel), zT_mk 67 (by decide +kernel) (by decide +kernel), by decide +kernel⟩
theorem mv_Ke_split : MVV M_Ke_split := ⟨zT_mk 1204 (by decide +kernel) (by decide +kernel), zT_mk 1205 (by decide +kernel) (by decide +kernel)⟩
def M_Ke_step : MI := (⟨"SpeedKernel", "step", "(III)I"⟩, prog_1_method_10_code, 5, (some .int), 12)
theorem mc_Ke_step : MOK M_Ke_step 3 := ⟨zT_mk 1258 (by decide +kernel) (by decide +kernel), zT_mk 67 (by decide +kernel) (by decide +kernel), by decide +kernel⟩
theorem mv_Ke_step : MVV M_Ke_step := ⟨zT_mk 1256 (by decide +kernel) (by decide +kernel), zT_mk 1257 (by decide +kernel) (by decide +kernel)⟩
def M_Ke_print : MI := (⟨"SpeedKernel", "print", "(II)I"⟩, prog_1_method_11_code, 4, (some .int), 4)
theorem mc_Ke_print : MOK M_Ke_print 2 := ⟨zT_mk 1089 (by decide +kernel) (by decide +kernel), zT_mk 67 (by decide +kernel) (by decide +kernel), by decide +kernel⟩
theorem mv_Ke_print : MVV M_Ke_print := ⟨zT_mk 1087 (by decide +kernel) (by decide +kernel), zT_mk 1088 (by decide +kernel) (by decide +kernel)⟩
def M_Ke_character : MI := (⟨"SpeedKernel", "character", "(I)I"⟩, prog_1_method_12_code, 2, (some .int), 1)
theorem mc_Ke_character : MOK M_Ke_character 1 := ⟨zT_mk 1127 (by decide +kernel) (by decide +kernel), zT_mk 67 (by decide +kernel) (by decide +kernel), by decide +kernel⟩
theorem mv_Ke_character : MVV M_Ke_character := ⟨zT_mk 1125 (by decide +kernel) (by decide +kernel), zT_mk 1126 (by decide +kernel) (by decide +kernel)⟩
def M_Ke_compare : MI := (⟨"SpeedKernel", "compare", "(IIII)I"⟩, prog_1_method_13_code, 7, (some .int), 4)
theorem mc_Ke_compare : MOK M_Ke_compare 4 := ⟨zT_mk 1135 (by decide +kernel) (by decide +kernel), zT_mk 67 (by decide +kernel) (by decide +kernel), by decide +kernel⟩
theorem mv_Ke_compare : MVV M_Ke_compare := ⟨zT_mk 1133 (by decide +kernel) (by decide +kernel), zT_mk 1134 (by decide +kernel) (by decide +kernel)⟩
def M_Ke_levelOf : MI := (⟨"SpeedKernel", "levelOf", "(II)I"⟩, prog_1_method_14_code, 3, (some .int), 1)
theorem mc_Ke_levelOf : MOK M_Ke_levelOf 2 := ⟨zT_mk 1144 (by decide +kernel) (by decide +kernel), zT_mk 67 (by decide +kernel) (by decide +kernel), by decide +kernel⟩
theorem mv_Ke_levelOf : MVV M_Ke_levelOf := ⟨zT_mk 1142 (by decide +kernel) (by decide +kernel), zT_mk 1143 (by decide +kernel) (by decide +kernel)⟩
def M_Ke_near : MI := (⟨"SpeedKernel", "near", "()D"⟩, prog_1_method_15_code, 6, (some .double), 2)
theorem mc_Ke_near : MOK M_Ke_near 0 := ⟨zT_mk 1148 (by decide +kernel) (by decide +kernel), zT_mk 67 (by decide +kernel) (by decide +kernel), by decide +kernel⟩
theorem mv_Ke_near : MVV M_Ke_near := ⟨zT_mk 1146 (by decide +kernel) (by decide +kernel), zT_mk 1147 (by decide +kernel) (by decide +kernel)⟩
def M_Ke_speed : MI := (⟨"SpeedKernel", "speed", "(D)D"⟩, prog_1_method_16_code, 4, (some .double), 2)
theorem mc_Ke_speed : MOK M_Ke_speed 1 := ⟨zT_mk 1157 (by decide +kernel) (by decide +kernel), zT_mk 67 (by decide +kernel) (by decide +kernel), by decide +kernel⟩
theorem mv_Ke_speed : MVV M_Ke_speed := ⟨zT_mk 1155 (by decide +kernel) (by decide +kernel), zT_mk 1156 (by decide +kernel) (by decide +kernel)⟩
def M_Ke_working : MI := (⟨"SpeedKernel", "working", "(II)I"⟩, prog_1_method_17_code, 4, (some .int), 0)
theorem mc_Ke_working : MOK M_Ke_working 2 := ⟨zT_mk 1161 (by decide +kernel) (by decide +kernel), zT_mk 67 (by decide +kernel) (by decide +kernel), by decide +kernel⟩
theorem mv_Ke_working : MVV M_Ke_working := ⟨zT_mk 1159 (by decide +kernel) (by decide +kernel), zT_mk 1160 (by decide +kernel) (by decide +kernel)⟩
def M_Ke_check : MI := (⟨"SpeedKernel", "check", "()I"⟩, prog_1_method_18_code, 1, (some .int), 5)
theorem mc_Ke_check : MOK M_Ke_check 0 := ⟨zT_mk 1165 (by decide +kernel) (by decide +kernel), zT_mk 67 (by decide +kernel) (by decide +kernel), by decide +kernel⟩
theorem mv_Ke_check : MVV M_Ke_check := ⟨zT_mk 1163 (by decide +kernel) (by decide +kernel), zT_mk 1164 (by decide +kernel) (by decide +kernel)⟩
def M_Ke_forgetPlans : MI := (⟨"SpeedKernel", "forgetPlans", "()V"⟩, prog_1_method_19_code, 1, none, 0)
theorem mc_Ke_forgetPlans : MOK M_Ke_forgetPlans 0 := ⟨zT_mk 462 (by decide +kernel) (by decide +kernel), zT_mk 67 (by decide +kernel) (by decide +kernel), by decide +kernel⟩
theorem mv_Ke_forgetPlans : MVV M_Ke_forgetPlans := ⟨zT_mk 461 (by decide +kernel) (by decide +kernel), zT_mk 0 (by decide +kernel) (by decide +kernel)⟩
def M_Ke_fractionOf : MI := (⟨"SpeedKernel", "fractionOf", "(II)LSpeedKernel$Fraction;"⟩, prog_1_method_20_code, 3, (some (.object "SpeedKernel$Fraction")), 2)
theorem mc_Ke_fractionOf : MOK M_Ke_fractionOf 2 := ⟨zT_mk 1093 (by decide +kernel) (by decide +kernel), zT_mk 67 (by decide +kernel) (by decide +kernel), by decide +kernel⟩
theorem mv_Ke_fractionOf : MVV M_Ke_fractionOf := ⟨zT_mk 1092 (by decide +kernel) (by decide +kernel), zT_mk 23 (by decide +kernel) (by decide +kernel)⟩
def M_Ke_leavesRoom : MI := (⟨"SpeedKernel", "leavesRoom", "()Z"⟩, prog_1_method_21_code, 5, (some .boolean), 4)
theorem mc_Ke_leavesRoom : MOK M_Ke_leavesRoom 0 := ⟨zT_mk 1170 (by decide +kernel) (by decide +kernel), zT_mk 67 (by decide +kernel) (by decide +kernel), by decide +kernel⟩
theorem mv_Ke_leavesRoom : MVV M_Ke_leavesRoom := ⟨zT_mk 1169 (by decide +kernel) (by decide +kernel), zT_mk 27 (by decide +kernel) (by decide +kernel)⟩
def M_Ke_commonOf : MI := (⟨"SpeedKernel", "commonOf", "(JJ)J"⟩, prog_1_method_22_code, 11, (some .long), 0)
theorem mc_Ke_commonOf : MOK M_Ke_commonOf 2 := ⟨zT_mk 554 (by decide +kernel) (by decide +kernel), zT_mk 67 (by decide +kernel) (by decide +kernel), by decide +kernel⟩
theorem ms_Ke_commonOf : MSS M_Ke_commonOf := zT_mk 553 (by decide +kernel) (by decide +kernel)
def M_Mo_init : MI := (⟨"SpeedKernelModel", "<init>", "()V"⟩, prog_13_method_1_code, 1, none, 1)
theorem mc_Mo_init : MOK M_Mo_init 0 := ⟨zT_mk 1283 (by decide +kernel) (by decide +kernel), zT_mk 78 (by decide +kernel) (by decide +kernel), by decide +kernel⟩
theorem mi_Mo_init : MII M_Mo_init := ⟨zT_mk 1282 (by decide +kernel) (by decide +kernel), rfl⟩
def M_Mo_thrown : MI := (⟨"SpeedKernelModel", "thrown", "()I"⟩, prog_13_method_2_code, 1, (some .int), 0)
theorem mc_Mo_thrown : MOK M_Mo_thrown 0 := ⟨zT_mk 1393 (by decide +kernel) (by decide +kernel), zT_mk 78 (by decide +kernel) (by decide +kernel), by decide +kernel⟩
theorem mv_Mo_thrown : MVV M_Mo_thrown := ⟨zT_mk 1391 (by decide +kernel) (by decide +kernel), zT_mk 1392 (by decide +kernel) (by decide +kernel)⟩
def M_Mo_set : MI := (⟨"SpeedKernelModel", "set", "(IJ)V"⟩, prog_13_method_3_code, 6, none, 0)
theorem mc_Mo_set : MOK M_Mo_set 2 := ⟨zT_mk 1460 (by decide +kernel) (by decide +kernel), zT_mk 78 (by decide +kernel) (by decide +kernel), by decide +kernel⟩
theorem mv_Mo_set : MVV M_Mo_set := ⟨zT_mk 1459 (by decide +kernel) (by decide +kernel), zT_mk 38 (by decide +kernel) (by decide +kernel)⟩
def M_Mo_copy : MI := (⟨"SpeedKernelModel", "copy", "(II)V"⟩, prog_13_method_4_code, 4, none, 0)
theorem mc_Mo_copy : MOK M_Mo_copy 2 := ⟨zT_mk 1473 (by decide +kernel) (by decide +kernel), zT_mk 78 (by decide +kernel) (by decide +kernel), by decide +kernel⟩
theorem mv_Mo_copy : MVV M_Mo_copy := ⟨zT_mk 1472 (by decide +kernel) (by decide +kernel), zT_mk 41 (by decide +kernel) (by decide +kernel)⟩
def M_Mo_part : MI := (⟨"SpeedKernelModel", "part", "(II)I"⟩, prog_13_method_5_code, 3, (some .int), 0)
theorem mc_Mo_part : MOK M_Mo_part 2 := ⟨zT_mk 1497 (by decide +kernel) (by decide +kernel), zT_mk 78 (by decide +kernel) (by decide +kernel), by decide +kernel⟩
theorem mv_Mo_part : MVV M_Mo_part := ⟨zT_mk 1496 (by decide +kernel) (by decide +kernel), zT_mk 47 (by decide +kernel) (by decide +kernel)⟩
def M_Mo_trim : MI := (⟨"SpeedKernelModel", "trim", "(I)V"⟩, prog_13_method_6_code, 2, none, 0)
theorem mc_Mo_trim : MOK M_Mo_trim 1 := ⟨zT_mk 1485 (by decide +kernel) (by decide +kernel), zT_mk 78 (by decide +kernel) (by decide +kernel), by decide +kernel⟩
theorem mv_Mo_trim : MVV M_Mo_trim := ⟨zT_mk 1484 (by decide +kernel) (by decide +kernel), zT_mk 44 (by decide +kernel) (by decide +kernel)⟩
def M_Mo_order : MI := (⟨"SpeedKernelModel", "order", "(II)I"⟩, prog_13_method_7_code, 6, (some .int), 0)
theorem mc_Mo_order : MOK M_Mo_order 2 := ⟨zT_mk 1489 (by decide +kernel) (by decide +kernel), zT_mk 78 (by decide +kernel) (by decide +kernel), by decide +kernel⟩
theorem mv_Mo_order : MVV M_Mo_order := ⟨zT_mk 1488 (by decide +kernel) (by decide +kernel), zT_mk 45 (by decide +kernel) (by decide +kernel)⟩
def M_Mo_add : MI := (⟨"SpeedKernelModel", "add", "(III)V"⟩, prog_13_method_8_code, 8, none, 1)
theorem mc_Mo_add : MOK M_Mo_add 3 := ⟨zT_mk 1522 (by decide +kernel) (by decide +kernel), zT_mk 78 (by decide +kernel) (by decide +kernel), by decide +kernel⟩
theorem mv_Mo_add : MVV M_Mo_add := ⟨zT_mk 1521 (by decide +kernel) (by decide +kernel), zT_mk 53 (by decide +kernel) (by decide +kernel)⟩
def M_Mo_subtract : MI := (⟨"SpeedKernelModel", "subtract", "(III)V"⟩, prog_13_method_9_code, 8, none, 1)
theorem mc_Mo_subtract : MOK M_Mo_subtract 3 := ⟨zT_mk 1493 (by decide +kernel) (by decide +kernel), zT_mk 78 (by decide +kernel) (by decide +kernel), by decide +kernel⟩
theorem mv_Mo_subtract : MVV M_Mo_subtract := ⟨zT_mk 1492 (by decide +kernel) (by decide +kernel), zT_mk 46 (by decide +kernel) (by decide +kernel)⟩
def M_Mo_multiply : MI := (⟨"SpeedKernelModel", "multiply", "(III)V"⟩, prog_13_method_10_code, 13, none, 1)
theorem mc_Mo_multiply : MOK M_Mo_multiply 3 := ⟨zT_mk 1514 (by decide +kernel) (by decide +kernel), zT_mk 78 (by decide +kernel) (by decide +kernel), by decide +kernel⟩
theorem mv_Mo_multiply : MVV M_Mo_multiply := ⟨zT_mk 1513 (by decide +kernel) (by decide +kernel), zT_mk 51 (by decide +kernel) (by decide +kernel)⟩
def M_Mo_multiplyBy : MI := (⟨"SpeedKernelModel", "multiplyBy", "(II)V"⟩, prog_13_method_11_code, 8, none, 1)
theorem mc_Mo_multiplyBy : MOK M_Mo_multiplyBy 2 := ⟨zT_mk 1502 (by decide +kernel) (by decide +kernel), zT_mk 78 (by decide +kernel) (by decide +kernel), by decide +kernel⟩
theorem mv_Mo_multiplyBy : MVV M_Mo_multiplyBy := ⟨zT_mk 1501 (by decide +kernel) (by decide +kernel), zT_mk 48 (by decide +kernel) (by decide +kernel)⟩
def M_Mo_divideBy : MI := (⟨"SpeedKernelModel", "divideBy", "(II)I"⟩, prog_13_method_12_code, 8, (some .int), 1)
theorem mc_Mo_divideBy : MOK M_Mo_divideBy 2 := ⟨zT_mk 1481 (by decide +kernel) (by decide +kernel), zT_mk 78 (by decide +kernel) (by decide +kernel), by decide +kernel⟩
theorem mv_Mo_divideBy : MVV M_Mo_divideBy := ⟨zT_mk 1480 (by decide +kernel) (by decide +kernel), zT_mk 43 (by decide +kernel) (by decide +kernel)⟩
def M_Mo_isEven : MI := (⟨"SpeedKernelModel", "isEven", "(I)Z"⟩, prog_13_method_13_code, 2, (some .boolean), 0)
theorem mc_Mo_isEven : MOK M_Mo_isEven 1 := ⟨zT_mk 1477 (by decide +kernel) (by decide +kernel), zT_mk 78 (by decide +kernel) (by decide +kernel), by decide +kernel⟩
theorem mv_Mo_isEven : MVV M_Mo_isEven := ⟨zT_mk 1476 (by decide +kernel) (by decide +kernel), zT_mk 42 (by decide +kernel) (by decide +kernel)⟩
def M_Mo_common : MI := (⟨"SpeedKernelModel", "common", "(II)V"⟩, prog_13_method_14_code, 5, none, 2)
theorem mc_Mo_common : MOK M_Mo_common 2 := ⟨zT_mk 1469 (by decide +kernel) (by decide +kernel), zT_mk 78 (by decide +kernel) (by decide +kernel), by decide +kernel⟩
theorem mv_Mo_common : MVV M_Mo_common := ⟨zT_mk 1468 (by decide +kernel) (by decide +kernel), zT_mk 40 (by decide +kernel) (by decide +kernel)⟩
def M_Mo_divide : MI := (⟨"SpeedKernelModel", "divide", "(I)V"⟩, prog_13_method_15_code, 5, none, 2)
theorem mc_Mo_divide : MOK M_Mo_divide 1 := ⟨zT_mk 1506 (by decide +kernel) (by decide +kernel), zT_mk 78 (by decide +kernel) (by decide +kernel), by decide +kernel⟩
theorem mv_Mo_divide : MVV M_Mo_divide := ⟨zT_mk 1505 (by decide +kernel) (by decide +kernel), zT_mk 49 (by decide +kernel) (by decide +kernel)⟩
def M_Mo_reduce : MI := (⟨"SpeedKernelModel", "reduce", "(I)V"⟩, prog_13_method_16_code, 2, none, 3)
theorem mc_Mo_reduce : MOK M_Mo_reduce 1 := ⟨zT_mk 1465 (by decide +kernel) (by decide +kernel), zT_mk 78 (by decide +kernel) (by decide +kernel), by decide +kernel⟩
theorem mv_Mo_reduce : MVV M_Mo_reduce := ⟨zT_mk 1464 (by decide +kernel) (by decide +kernel), zT_mk 39 (by decide +kernel) (by decide +kernel)⟩
def M_Mo_tell : MI := (⟨"SpeedKernelModel", "tell", "(IJJ)V"⟩, prog_13_method_17_code, 6, none, 4)
theorem mc_Mo_tell : MOK M_Mo_tell 3 := ⟨zT_mk 1456 (by decide +kernel) (by decide +kernel), zT_mk 78 (by decide +kernel) (by decide +kernel), by decide +kernel⟩
theorem mv_Mo_tell : MVV M_Mo_tell := ⟨zT_mk 1455 (by decide +kernel) (by decide +kernel), zT_mk 37 (by decide +kernel) (by decide +kernel)⟩
def M_Mo_sumUp : MI := (⟨"SpeedKernelModel", "sumUp", "()V"⟩, prog_13_method_18_code, 1, none, 4)
theorem mc_Mo_sumUp : MOK M_Mo_sumUp 0 := ⟨zT_mk 1518 (by decide +kernel) (by decide +kernel), zT_mk 78 (by decide +kernel) (by decide +kernel), by decide +kernel⟩
theorem mv_Mo_sumUp : MVV M_Mo_sumUp := ⟨zT_mk 1517 (by decide +kernel) (by decide +kernel), zT_mk 52 (by decide +kernel) (by decide +kernel)⟩
def M_Mo_sumCube : MI := (⟨"SpeedKernelModel", "sumCube", "(II)V"⟩, prog_13_method_19_code, 3, none, 5)
theorem mc_Mo_sumCube : MOK M_Mo_sumCube 2 := ⟨zT_mk 1510 (by decide +kernel) (by decide +kernel), zT_mk 78 (by decide +kernel) (by decide +kernel), by decide +kernel⟩
theorem mv_Mo_sumCube : MVV M_Mo_sumCube := ⟨zT_mk 1509 (by decide +kernel) (by decide +kernel), zT_mk 50 (by decide +kernel) (by decide +kernel)⟩
def M_Mo_keep : MI := (⟨"SpeedKernelModel", "keep", "(II)V"⟩, prog_13_method_20_code, 3, none, 1)
theorem mc_Mo_keep : MOK M_Mo_keep 2 := ⟨zT_mk 1526 (by decide +kernel) (by decide +kernel), zT_mk 78 (by decide +kernel) (by decide +kernel), by decide +kernel⟩
theorem mv_Mo_keep : MVV M_Mo_keep := ⟨zT_mk 1525 (by decide +kernel) (by decide +kernel), zT_mk 54 (by decide +kernel) (by decide +kernel)⟩
def M_Mo_isSame : MI := (⟨"SpeedKernelModel", "isSame", "(II)Z"⟩, prog_13_method_21_code, 3, (some .boolean), 1)
theorem mc_Mo_isSame : MOK M_Mo_isSame 2 := ⟨zT_mk 1554 (by decide +kernel) (by decide +kernel), zT_mk 78 (by decide +kernel) (by decide +kernel), by decide +kernel⟩
theorem mv_Mo_isSame : MVV M_Mo_isSame := ⟨zT_mk 1553 (by decide +kernel) (by decide +kernel), zT_mk 60 (by decide +kernel) (by decide +kernel)⟩
def M_Mo_in : MI := (⟨"SpeedKernelModel", "in", "(III)Z"⟩, prog_13_method_22_code, 3, (some .boolean), 0)
theorem mc_Mo_in : MOK M_Mo_in 3 := ⟨zT_mk 1400 (by decide +kernel) (by decide +kernel), zT_mk 78 (by decide +kernel) (by decide +kernel), by decide +kernel⟩
theorem ms_Mo_in : MSS M_Mo_in := zT_mk 1399 (by decide +kernel) (by decide +kernel)
def M_Mo_job : MI := (⟨"SpeedKernelModel", "job", "(III)I"⟩, prog_13_method_23_code, 4, (some .int), 1)
theorem mc_Mo_job : MOK M_Mo_job 3 := ⟨zT_mk 1397 (by decide +kernel) (by decide +kernel), zT_mk 78 (by decide +kernel) (by decide +kernel), by decide +kernel⟩
theorem mv_Mo_job : MVV M_Mo_job := ⟨zT_mk 1395 (by decide +kernel) (by decide +kernel), zT_mk 1396 (by decide +kernel) (by decide +kernel)⟩
def M_Mo_level : MI := (⟨"SpeedKernelModel", "level", "(II)I"⟩, prog_13_method_24_code, 3, (some .int), 1)
theorem mc_Mo_level : MOK M_Mo_level 2 := ⟨zT_mk 1404 (by decide +kernel) (by decide +kernel), zT_mk 78 (by decide +kernel) (by decide +kernel), by decide +kernel⟩
theorem mv_Mo_level : MVV M_Mo_level := ⟨zT_mk 1402 (by decide +kernel) (by decide +kernel), zT_mk 1403 (by decide +kernel) (by decide +kernel)⟩
def M_Mo_convex : MI := (⟨"SpeedKernelModel", "convex", "()I"⟩, prog_13_method_25_code, 9, (some .int), 0)
theorem mc_Mo_convex : MOK M_Mo_convex 0 := ⟨zT_mk 1409 (by decide +kernel) (by decide +kernel), zT_mk 78 (by decide +kernel) (by decide +kernel), by decide +kernel⟩
theorem mv_Mo_convex : MVV M_Mo_convex := ⟨zT_mk 1407 (by decide +kernel) (by decide +kernel), zT_mk 1408 (by decide +kernel) (by decide +kernel)⟩
def M_Mo_clear : MI := (⟨"SpeedKernelModel", "clear", "()I"⟩, prog_13_method_26_code, 2, (some .int), 0)
theorem mc_Mo_clear : MOK M_Mo_clear 0 := ⟨zT_mk 1413 (by decide +kernel) (by decide +kernel), zT_mk 78 (by decide +kernel) (by decide +kernel), by decide +kernel⟩
theorem mv_Mo_clear : MVV M_Mo_clear := ⟨zT_mk 1411 (by decide +kernel) (by decide +kernel), zT_mk 1412 (by decide +kernel) (by decide +kernel)⟩
def M_Mo_about : MI := (⟨"SpeedKernelModel", "about", "(II)I"⟩, prog_13_method_27_code, 3, (some .int), 1)
theorem mc_Mo_about : MOK M_Mo_about 2 := ⟨zT_mk 1417 (by decide +kernel) (by decide +kernel), zT_mk 78 (by decide +kernel) (by decide +kernel), by decide +kernel⟩
theorem mv_Mo_about : MVV M_Mo_about := ⟨zT_mk 1415 (by decide +kernel) (by decide +kernel), zT_mk 1416 (by decide +kernel) (by decide +kernel)⟩
def M_Mo_firstRelease : MI := (⟨"SpeedKernelModel", "firstRelease", "()I"⟩, prog_13_method_28_code, 3, (some .int), 0)
theorem mc_Mo_firstRelease : MOK M_Mo_firstRelease 0 := ⟨zT_mk 1440 (by decide +kernel) (by decide +kernel), zT_mk 78 (by decide +kernel) (by decide +kernel), by decide +kernel⟩
theorem mv_Mo_firstRelease : MVV M_Mo_firstRelease := ⟨zT_mk 1439 (by decide +kernel) (by decide +kernel), zT_mk 33 (by decide +kernel) (by decide +kernel)⟩
def M_Mo_lastDeadline : MI := (⟨"SpeedKernelModel", "lastDeadline", "()I"⟩, prog_13_method_29_code, 3, (some .int), 0)
theorem mc_Mo_lastDeadline : MOK M_Mo_lastDeadline 0 := ⟨zT_mk 1444 (by decide +kernel) (by decide +kernel), zT_mk 78 (by decide +kernel) (by decide +kernel), by decide +kernel⟩
theorem mv_Mo_lastDeadline : MVV M_Mo_lastDeadline := ⟨zT_mk 1443 (by decide +kernel) (by decide +kernel), zT_mk 34 (by decide +kernel) (by decide +kernel)⟩
def M_Mo_open : MI := (⟨"SpeedKernelModel", "open", "(II)I"⟩, prog_13_method_30_code, 5, (some .int), 0)
theorem mc_Mo_open : MOK M_Mo_open 2 := ⟨zT_mk 1429 (by decide +kernel) (by decide +kernel), zT_mk 78 (by decide +kernel) (by decide +kernel), by decide +kernel⟩
theorem mv_Mo_open : MVV M_Mo_open := ⟨zT_mk 1428 (by decide +kernel) (by decide +kernel), zT_mk 31 (by decide +kernel) (by decide +kernel)⟩
def M_Mo_isWithin : MI := (⟨"SpeedKernelModel", "isWithin", "(III)Z"⟩, prog_13_method_31_code, 7, (some .boolean), 1)
theorem mc_Mo_isWithin : MOK M_Mo_isWithin 3 := ⟨zT_mk 1433 (by decide +kernel) (by decide +kernel), zT_mk 78 (by decide +kernel) (by decide +kernel), by decide +kernel⟩
theorem mv_Mo_isWithin : MVV M_Mo_isWithin := ⟨zT_mk 1432 (by decide +kernel) (by decide +kernel), zT_mk 32 (by decide +kernel) (by decide +kernel)⟩
def M_Mo_commonOf : MI := (⟨"SpeedKernelModel", "commonOf", "(JJ)J"⟩, prog_13_method_32_code, 10, (some .long), 0)
theorem mc_Mo_commonOf : MOK M_Mo_commonOf 2 := ⟨zT_mk 1436 (by decide +kernel) (by decide +kernel), zT_mk 78 (by decide +kernel) (by decide +kernel), by decide +kernel⟩
theorem ms_Mo_commonOf : MSS M_Mo_commonOf := zT_mk 1435 (by decide +kernel) (by decide +kernel)
def M_Mo_fixBest : MI := (⟨"SpeedKernelModel", "fixBest", "()Z"⟩, prog_13_method_33_code, 15, (some .boolean), 2)
theorem mc_Mo_fixBest : MOK M_Mo_fixBest 0 := ⟨zT_mk 1425 (by decide +kernel) (by decide +kernel), zT_mk 78 (by decide +kernel) (by decide +kernel), by decide +kernel⟩
theorem mv_Mo_fixBest : MVV M_Mo_fixBest := ⟨zT_mk 1424 (by decide +kernel) (by decide +kernel), zT_mk 30 (by decide +kernel) (by decide +kernel)⟩
def M_Mo_nextJob : MI := (⟨"SpeedKernelModel", "nextJob", "(I)I"⟩, prog_13_method_34_code, 4, (some .int), 0)
theorem mc_Mo_nextJob : MOK M_Mo_nextJob 1 := ⟨zT_mk 1452 (by decide +kernel) (by decide +kernel), zT_mk 78 (by decide +kernel) (by decide +kernel), by decide +kernel⟩
theorem mv_Mo_nextJob : MVV M_Mo_nextJob := ⟨zT_mk 1451 (by decide +kernel) (by decide +kernel), zT_mk 36 (by decide +kernel) (by decide +kernel)⟩
def M_Mo_workPlan : MI := (⟨"SpeedKernelModel", "workPlan", "(II)V"⟩, prog_13_method_35_code, 9, none, 5)
theorem mc_Mo_workPlan : MOK M_Mo_workPlan 2 := ⟨zT_mk 1448 (by decide +kernel) (by decide +kernel), zT_mk 78 (by decide +kernel) (by decide +kernel), by decide +kernel⟩
theorem mv_Mo_workPlan : MVV M_Mo_workPlan := ⟨zT_mk 1447 (by decide +kernel) (by decide +kernel), zT_mk 35 (by decide +kernel) (by decide +kernel)⟩
def M_Mo_plan : MI := (⟨"SpeedKernelModel", "plan", "()I"⟩, prog_13_method_36_code, 6, (some .int), 6)
theorem mc_Mo_plan : MOK M_Mo_plan 0 := ⟨zT_mk 1421 (by decide +kernel) (by decide +kernel), zT_mk 78 (by decide +kernel) (by decide +kernel), by decide +kernel⟩
theorem mv_Mo_plan : MVV M_Mo_plan := ⟨zT_mk 1419 (by decide +kernel) (by decide +kernel), zT_mk 1420 (by decide +kernel) (by decide +kernel)⟩
def M_Mo_nextEvent : MI := (⟨"SpeedKernelModel", "nextEvent", "(I)I"⟩, prog_13_method_37_code, 4, (some .int), 0)
theorem mc_Mo_nextEvent : MOK M_Mo_nextEvent 1 := ⟨zT_mk 1534 (by decide +kernel) (by decide +kernel), zT_mk 78 (by decide +kernel) (by decide +kernel), by decide +kernel⟩
theorem mv_Mo_nextEvent : MVV M_Mo_nextEvent := ⟨zT_mk 1533 (by decide +kernel) (by decide +kernel), zT_mk 55 (by decide +kernel) (by decide +kernel)⟩
def M_Mo_inOrder : MI := (⟨"SpeedKernelModel", "inOrder", "(II)I"⟩, prog_13_method_38_code, 6, (some .int), 0)
theorem mc_Mo_inOrder : MOK M_Mo_inOrder 2 := ⟨zT_mk 1550 (by decide +kernel) (by decide +kernel), zT_mk 78 (by decide +kernel) (by decide +kernel), by decide +kernel⟩
theorem mv_Mo_inOrder : MVV M_Mo_inOrder := ⟨zT_mk 1549 (by decide +kernel) (by decide +kernel), zT_mk 59 (by decide +kernel) (by decide +kernel)⟩
def M_Mo_findBest : MI := (⟨"SpeedKernelModel", "findBest", "(I)I"⟩, prog_13_method_39_code, 6, (some .int), 2)
theorem mc_Mo_findBest : MOK M_Mo_findBest 1 := ⟨zT_mk 1538 (by decide +kernel) (by decide +kernel), zT_mk 78 (by decide +kernel) (by decide +kernel), by decide +kernel⟩
theorem mv_Mo_findBest : MVV M_Mo_findBest := ⟨zT_mk 1537 (by decide +kernel) (by decide +kernel), zT_mk 56 (by decide +kernel) (by decide +kernel)⟩
def M_Mo_workAhead : MI := (⟨"SpeedKernelModel", "workAhead", "(III)V"⟩, prog_13_method_40_code, 5, none, 4)
theorem mc_Mo_workAhead : MOK M_Mo_workAhead 3 := ⟨zT_mk 1542 (by decide +kernel) (by decide +kernel), zT_mk 78 (by decide +kernel) (by decide +kernel), by decide +kernel⟩
theorem mv_Mo_workAhead : MVV M_Mo_workAhead := ⟨zT_mk 1541 (by decide +kernel) (by decide +kernel), zT_mk 57 (by decide +kernel) (by decide +kernel)⟩
def M_Mo_whoAt : MI := (⟨"SpeedKernelModel", "whoAt", "(II)I"⟩, prog_13_method_41_code, 5, (some .int), 2)
theorem mc_Mo_whoAt : MOK M_Mo_whoAt 2 := ⟨zT_mk 1546 (by decide +kernel) (by decide +kernel), zT_mk 78 (by decide +kernel) (by decide +kernel), by decide +kernel⟩
theorem mv_Mo_whoAt : MVV M_Mo_whoAt := ⟨zT_mk 1545 (by decide +kernel) (by decide +kernel), zT_mk 58 (by decide +kernel) (by decide +kernel)⟩
def M_Mo_ahead : MI := (⟨"SpeedKernelModel", "ahead", "()I"⟩, prog_13_method_42_code, 5, (some .int), 6)
theorem mc_Mo_ahead : MOK M_Mo_ahead 0 := ⟨zT_mk 1530 (by decide +kernel) (by decide +kernel), zT_mk 78 (by decide +kernel) (by decide +kernel), by decide +kernel⟩
theorem mv_Mo_ahead : MVV M_Mo_ahead := ⟨zT_mk 1528 (by decide +kernel) (by decide +kernel), zT_mk 1529 (by decide +kernel) (by decide +kernel)⟩
def M_Mo_split : MI := (⟨"SpeedKernelModel", "split", "()I"⟩, prog_13_method_43_code, 2, (some .int), 7)
theorem mc_Mo_split : MOK M_Mo_split 0 := ⟨zT_mk 1558 (by decide +kernel) (by decide +kernel), zT_mk 78 (by decide +kernel) (by decide +kernel), by decide +kernel⟩
theorem mv_Mo_split : MVV M_Mo_split := ⟨zT_mk 1556 (by decide +kernel) (by decide +kernel), zT_mk 1557 (by decide +kernel) (by decide +kernel)⟩
def M_Mo_splitOne : MI := (⟨"SpeedKernelModel", "splitOne", "(I)V"⟩, prog_13_method_44_code, 11, none, 6)
theorem mc_Mo_splitOne : MOK M_Mo_splitOne 1 := ⟨zT_mk 1562 (by decide +kernel) (by decide +kernel), zT_mk 78 (by decide +kernel) (by decide +kernel), by decide +kernel⟩
theorem mv_Mo_splitOne : MVV M_Mo_splitOne := ⟨zT_mk 1561 (by decide +kernel) (by decide +kernel), zT_mk 61 (by decide +kernel) (by decide +kernel)⟩
def M_Mo_pay : MI := (⟨"SpeedKernelModel", "pay", "(II)V"⟩, prog_13_method_45_code, 3, none, 5)
theorem mc_Mo_pay : MOK M_Mo_pay 2 := ⟨zT_mk 1566 (by decide +kernel) (by decide +kernel), zT_mk 78 (by decide +kernel) (by decide +kernel), by decide +kernel⟩
theorem mv_Mo_pay : MVV M_Mo_pay := ⟨zT_mk 1565 (by decide +kernel) (by decide +kernel), zT_mk 62 (by decide +kernel) (by decide +kernel)⟩
def M_Mo_levelOf : MI := (⟨"SpeedKernelModel", "levelOf", "(II)I"⟩, prog_13_method_46_code, 3, (some .int), 1)
theorem mc_Mo_levelOf : MOK M_Mo_levelOf 2 := ⟨zT_mk 1570 (by decide +kernel) (by decide +kernel), zT_mk 78 (by decide +kernel) (by decide +kernel), by decide +kernel⟩
theorem mv_Mo_levelOf : MVV M_Mo_levelOf := ⟨zT_mk 1568 (by decide +kernel) (by decide +kernel), zT_mk 1569 (by decide +kernel) (by decide +kernel)⟩
def M_Mo_step : MI := (⟨"SpeedKernelModel", "step", "(III)I"⟩, prog_13_method_47_code, 4, (some .int), 1)
theorem mc_Mo_step : MOK M_Mo_step 3 := ⟨zT_mk 1574 (by decide +kernel) (by decide +kernel), zT_mk 78 (by decide +kernel) (by decide +kernel), by decide +kernel⟩
theorem mv_Mo_step : MVV M_Mo_step := ⟨zT_mk 1572 (by decide +kernel) (by decide +kernel), zT_mk 1573 (by decide +kernel) (by decide +kernel)⟩
def M_Mo_fraction : MI := (⟨"SpeedKernelModel", "fraction", "(II)I"⟩, prog_13_method_48_code, 4, (some .int), 1)
theorem mc_Mo_fraction : MOK M_Mo_fraction 2 := ⟨zT_mk 1582 (by decide +kernel) (by decide +kernel), zT_mk 78 (by decide +kernel) (by decide +kernel), by decide +kernel⟩
theorem mv_Mo_fraction : MVV M_Mo_fraction := ⟨zT_mk 1581 (by decide +kernel) (by decide +kernel), zT_mk 63 (by decide +kernel) (by decide +kernel)⟩
def M_Mo_printNumber : MI := (⟨"SpeedKernelModel", "printNumber", "(I)V"⟩, prog_13_method_49_code, 7, none, 2)
theorem mc_Mo_printNumber : MOK M_Mo_printNumber 1 := ⟨zT_mk 1586 (by decide +kernel) (by decide +kernel), zT_mk 78 (by decide +kernel) (by decide +kernel), by decide +kernel⟩
theorem mv_Mo_printNumber : MVV M_Mo_printNumber := ⟨zT_mk 1585 (by decide +kernel) (by decide +kernel), zT_mk 64 (by decide +kernel) (by decide +kernel)⟩
def M_Mo_print : MI := (⟨"SpeedKernelModel", "print", "(II)I"⟩, prog_13_method_50_code, 4, (some .int), 3)
theorem mc_Mo_print : MOK M_Mo_print 2 := ⟨zT_mk 1578 (by decide +kernel) (by decide +kernel), zT_mk 78 (by decide +kernel) (by decide +kernel), by decide +kernel⟩
theorem mv_Mo_print : MVV M_Mo_print := ⟨zT_mk 1576 (by decide +kernel) (by decide +kernel), zT_mk 1577 (by decide +kernel) (by decide +kernel)⟩
def M_Mo_character : MI := (⟨"SpeedKernelModel", "character", "(I)I"⟩, prog_13_method_51_code, 2, (some .int), 1)
theorem mc_Mo_character : MOK M_Mo_character 1 := ⟨zT_mk 1590 (by decide +kernel) (by decide +kernel), zT_mk 78 (by decide +kernel) (by decide +kernel), by decide +kernel⟩
theorem mv_Mo_character : MVV M_Mo_character := ⟨zT_mk 1588 (by decide +kernel) (by decide +kernel), zT_mk 1589 (by decide +kernel) (by decide +kernel)⟩
def M_Mo_compare : MI := (⟨"SpeedKernelModel", "compare", "(IIII)I"⟩, prog_13_method_52_code, 7, (some .int), 2)
theorem mc_Mo_compare : MOK M_Mo_compare 4 := ⟨zT_mk 1594 (by decide +kernel) (by decide +kernel), zT_mk 78 (by decide +kernel) (by decide +kernel), by decide +kernel⟩
theorem mv_Mo_compare : MVV M_Mo_compare := ⟨zT_mk 1592 (by decide +kernel) (by decide +kernel), zT_mk 1593 (by decide +kernel) (by decide +kernel)⟩
def M_Mo_speedOf : MI := (⟨"SpeedKernelModel", "speedOf", "(I)D"⟩, prog_13_method_53_code, 2, (some .double), 0)
theorem mc_Mo_speedOf : MOK M_Mo_speedOf 1 := ⟨zT_mk 1602 (by decide +kernel) (by decide +kernel), zT_mk 78 (by decide +kernel) (by decide +kernel), by decide +kernel⟩
theorem mv_Mo_speedOf : MVV M_Mo_speedOf := ⟨zT_mk 1601 (by decide +kernel) (by decide +kernel), zT_mk 65 (by decide +kernel) (by decide +kernel)⟩
def M_Mo_near : MI := (⟨"SpeedKernelModel", "near", "()D"⟩, prog_13_method_54_code, 6, (some .double), 1)
theorem mc_Mo_near : MOK M_Mo_near 0 := ⟨zT_mk 1598 (by decide +kernel) (by decide +kernel), zT_mk 78 (by decide +kernel) (by decide +kernel), by decide +kernel⟩
theorem mv_Mo_near : MVV M_Mo_near := ⟨zT_mk 1596 (by decide +kernel) (by decide +kernel), zT_mk 1597 (by decide +kernel) (by decide +kernel)⟩
def M_Mo_speed : MI := (⟨"SpeedKernelModel", "speed", "(D)D"⟩, prog_13_method_55_code, 4, (some .double), 1)
theorem mc_Mo_speed : MOK M_Mo_speed 1 := ⟨zT_mk 1606 (by decide +kernel) (by decide +kernel), zT_mk 78 (by decide +kernel) (by decide +kernel), by decide +kernel⟩
theorem mv_Mo_speed : MVV M_Mo_speed := ⟨zT_mk 1604 (by decide +kernel) (by decide +kernel), zT_mk 1605 (by decide +kernel) (by decide +kernel)⟩
def M_Mo_working : MI := (⟨"SpeedKernelModel", "working", "(II)I"⟩, prog_13_method_56_code, 3, (some .int), 1)
theorem mc_Mo_working : MOK M_Mo_working 2 := ⟨zT_mk 1610 (by decide +kernel) (by decide +kernel), zT_mk 78 (by decide +kernel) (by decide +kernel), by decide +kernel⟩
theorem mv_Mo_working : MVV M_Mo_working := ⟨zT_mk 1608 (by decide +kernel) (by decide +kernel), zT_mk 1609 (by decide +kernel) (by decide +kernel)⟩
def M_Mo_check : MI := (⟨"SpeedKernelModel", "check", "()I"⟩, prog_13_method_57_code, 1, (some .int), 0)
theorem mc_Mo_check : MOK M_Mo_check 0 := ⟨zT_mk 1614 (by decide +kernel) (by decide +kernel), zT_mk 78 (by decide +kernel) (by decide +kernel), by decide +kernel⟩
theorem mv_Mo_check : MVV M_Mo_check := ⟨zT_mk 1612 (by decide +kernel) (by decide +kernel), zT_mk 1613 (by decide +kernel) (by decide +kernel)⟩
def M_Fo_init : MI := (⟨"SpeedKernel$Foresight", "<init>", "()V"⟩, prog_2_method_1_code, 2, none, 3)
theorem mc_Fo_init : MOK M_Fo_init 0 := ⟨zT_mk 338 (by decide +kernel) (by decide +kernel), zT_mk 75 (by decide +kernel) (by decide +kernel), by decide +kernel⟩
theorem mi_Fo_init : MII M_Fo_init := ⟨zT_mk 337 (by decide +kernel) (by decide +kernel), rfl⟩
def M_Fo_workOut : MI := (⟨"SpeedKernel$Foresight", "workOut", "(LSpeedKernel$Jobs;LSpeedKernel$Profile;LSpeedKernel$Reckoner;)V"⟩, prog_2_method_2_code, 8, none, 5)
theorem mc_Fo_workOut : MOK M_Fo_workOut 3 := ⟨zT_mk 1042 (by decide +kernel) (by decide +kernel), zT_mk 75 (by decide +kernel) (by decide +kernel), by decide +kernel⟩
theorem mv_Fo_workOut : MVV M_Fo_workOut := ⟨zT_mk 1040 (by decide +kernel) (by decide +kernel), zT_mk 1041 (by decide +kernel) (by decide +kernel)⟩
def M_Fo_isOpen : MI := (⟨"SpeedKernel$Foresight", "isOpen", "(LSpeedKernel$Jobs;II)Z"⟩, prog_2_method_3_code, 4, (some .boolean), 1)
theorem mc_Fo_isOpen : MOK M_Fo_isOpen 3 := ⟨zT_mk 1056 (by decide +kernel) (by decide +kernel), zT_mk 75 (by decide +kernel) (by decide +kernel), by decide +kernel⟩
theorem mv_Fo_isOpen : MVV M_Fo_isOpen := ⟨zT_mk 1055 (by decide +kernel) (by decide +kernel), zT_mk 18 (by decide +kernel) (by decide +kernel)⟩
def M_Fo_findDensest : MI := (⟨"SpeedKernel$Foresight", "findDensest", "(LSpeedKernel$Jobs;I)V"⟩, prog_2_method_4_code, 5, none, 2)
theorem mc_Fo_findDensest : MOK M_Fo_findDensest 2 := ⟨zT_mk 1052 (by decide +kernel) (by decide +kernel), zT_mk 75 (by decide +kernel) (by decide +kernel), by decide +kernel⟩
theorem mv_Fo_findDensest : MVV M_Fo_findDensest := ⟨zT_mk 1051 (by decide +kernel) (by decide +kernel), zT_mk 17 (by decide +kernel) (by decide +kernel)⟩
def M_Fo_setRate : MI := (⟨"SpeedKernel$Foresight", "setRate", "(I)V"⟩, prog_2_method_5_code, 2, none, 2)
theorem mc_Fo_setRate : MOK M_Fo_setRate 1 := ⟨zT_mk 1067 (by decide +kernel) (by decide +kernel), zT_mk 75 (by decide +kernel) (by decide +kernel), by decide +kernel⟩
theorem mv_Fo_setRate : MVV M_Fo_setRate := ⟨zT_mk 1066 (by decide +kernel) (by decide +kernel), zT_mk 19 (by decide +kernel) (by decide +kernel)⟩
def M_Fo_workOff : MI := (⟨"SpeedKernel$Foresight", "workOff", "(LSpeedKernel$Jobs;LSpeedKernel$Profile;II)V"⟩, prog_2_method_6_code, 10, none, 3)
theorem mc_Fo_workOff : MOK M_Fo_workOff 4 := ⟨zT_mk 1073 (by decide +kernel) (by decide +kernel), zT_mk 75 (by decide +kernel) (by decide +kernel), by decide +kernel⟩
theorem mv_Fo_workOff : MVV M_Fo_workOff := ⟨zT_mk 1072 (by decide +kernel) (by decide +kernel), zT_mk 20 (by decide +kernel) (by decide +kernel)⟩
def M_Fo_setEnd : MI := (⟨"SpeedKernel$Foresight", "setEnd", "(LSpeedKernel$Profile;II)V"⟩, prog_2_method_7_code, 5, none, 2)
theorem mc_Fo_setEnd : MOK M_Fo_setEnd 3 := ⟨zT_mk 1081 (by decide +kernel) (by decide +kernel), zT_mk 75 (by decide +kernel) (by decide +kernel), by decide +kernel⟩
theorem mv_Fo_setEnd : MVV M_Fo_setEnd := ⟨zT_mk 1080 (by decide +kernel) (by decide +kernel), zT_mk 21 (by decide +kernel) (by decide +kernel)⟩
def M_Fo_rescale : MI := (⟨"SpeedKernel$Foresight", "rescale", "(LSpeedKernel$Jobs;II)V"⟩, prog_2_method_8_code, 5, none, 2)
theorem mc_Fo_rescale : MOK M_Fo_rescale 3 := ⟨zT_mk 1085 (by decide +kernel) (by decide +kernel), zT_mk 75 (by decide +kernel) (by decide +kernel), by decide +kernel⟩
theorem mv_Fo_rescale : MVV M_Fo_rescale := ⟨zT_mk 1084 (by decide +kernel) (by decide +kernel), zT_mk 22 (by decide +kernel) (by decide +kernel)⟩
def M_Fr_init : MI := (⟨"SpeedKernel$Fraction", "<init>", "()V"⟩, prog_3_method_1_code, 1, none, 2)
theorem mc_Fr_init : MOK M_Fr_init 0 := ⟨zT_mk 172 (by decide +kernel) (by decide +kernel), zT_mk 71 (by decide +kernel) (by decide +kernel), by decide +kernel⟩
theorem mi_Fr_init : MII M_Fr_init := ⟨zT_mk 171 (by decide +kernel) (by decide +kernel), rfl⟩
def M_Fr_setSmall : MI := (⟨"SpeedKernel$Fraction", "setSmall", "(JJ)V"⟩, prog_3_method_2_code, 7, none, 1)
theorem mc_Fr_setSmall : MOK M_Fr_setSmall 2 := ⟨zT_mk 551 (by decide +kernel) (by decide +kernel), zT_mk 71 (by decide +kernel) (by decide +kernel), by decide +kernel⟩
theorem mv_Fr_setSmall : MVV M_Fr_setSmall := ⟨zT_mk 549 (by decide +kernel) (by decide +kernel), zT_mk 550 (by decide +kernel) (by decide +kernel)⟩
def M_Fr_copyFrom : MI := (⟨"SpeedKernel$Fraction", "copyFrom", "(LSpeedKernel$Fraction;)V"⟩, prog_3_method_3_code, 2, none, 2)
theorem mc_Fr_copyFrom : MOK M_Fr_copyFrom 1 := ⟨zT_mk 596 (by decide +kernel) (by decide +kernel), zT_mk 71 (by decide +kernel) (by decide +kernel), by decide +kernel⟩
theorem mv_Fr_copyFrom : MVV M_Fr_copyFrom := ⟨zT_mk 594 (by decide +kernel) (by decide +kernel), zT_mk 595 (by decide +kernel) (by decide +kernel)⟩
def M_Fr_isSame : MI := (⟨"SpeedKernel$Fraction", "isSame", "(LSpeedKernel$Fraction;)Z"⟩, prog_3_method_4_code, 2, (some .boolean), 1)
theorem mc_Fr_isSame : MOK M_Fr_isSame 1 := ⟨zT_mk 588 (by decide +kernel) (by decide +kernel), zT_mk 71 (by decide +kernel) (by decide +kernel), by decide +kernel⟩
theorem mv_Fr_isSame : MVV M_Fr_isSame := ⟨zT_mk 586 (by decide +kernel) (by decide +kernel), zT_mk 587 (by decide +kernel) (by decide +kernel)⟩
def M_Fr_asBinary : MI := (⟨"SpeedKernel$Fraction", "asBinary", "()D"⟩, prog_3_method_5_code, 3, (some .double), 1)
theorem mc_Fr_asBinary : MOK M_Fr_asBinary 0 := ⟨zT_mk 1152 (by decide +kernel) (by decide +kernel), zT_mk 71 (by decide +kernel) (by decide +kernel), by decide +kernel⟩
theorem mv_Fr_asBinary : MVV M_Fr_asBinary := ⟨zT_mk 1150 (by decide +kernel) (by decide +kernel), zT_mk 1151 (by decide +kernel) (by decide +kernel)⟩
def M_Jo_init : MI := (⟨"SpeedKernel$Jobs", "<init>", "()V"⟩, prog_4_method_1_code, 1, none, 1)
theorem mc_Jo_init : MOK M_Jo_init 0 := ⟨zT_mk 109 (by decide +kernel) (by decide +kernel), zT_mk 68 (by decide +kernel) (by decide +kernel), by decide +kernel⟩
theorem mi_Jo_init : MII M_Jo_init := ⟨zT_mk 108 (by decide +kernel) (by decide +kernel), rfl⟩
def M_Jo_has : MI := (⟨"SpeedKernel$Jobs", "has", "(I)Z"⟩, prog_4_method_2_code, 2, (some .boolean), 0)
theorem mc_Jo_has : MOK M_Jo_has 1 := ⟨zT_mk 508 (by decide +kernel) (by decide +kernel), zT_mk 68 (by decide +kernel) (by decide +kernel), by decide +kernel⟩
theorem mv_Jo_has : MVV M_Jo_has := ⟨zT_mk 506 (by decide +kernel) (by decide +kernel), zT_mk 507 (by decide +kernel) (by decide +kernel)⟩
def M_Jo_add : MI := (⟨"SpeedKernel$Jobs", "add", "(III)I"⟩, prog_4_method_3_code, 5, (some .int), 0)
theorem mc_Jo_add : MOK M_Jo_add 3 := ⟨zT_mk 466 (by decide +kernel) (by decide +kernel), zT_mk 68 (by decide +kernel) (by decide +kernel), by decide +kernel⟩
theorem mv_Jo_add : MVV M_Jo_add := ⟨zT_mk 464 (by decide +kernel) (by decide +kernel), zT_mk 465 (by decide +kernel) (by decide +kernel)⟩
def M_Jo_firstRelease : MI := (⟨"SpeedKernel$Jobs", "firstRelease", "()I"⟩, prog_4_method_4_code, 1, (some .int), 1)
theorem mc_Jo_firstRelease : MOK M_Jo_firstRelease 0 := ⟨zT_mk 569 (by decide +kernel) (by decide +kernel), zT_mk 68 (by decide +kernel) (by decide +kernel), by decide +kernel⟩
theorem mv_Jo_firstRelease : MVV M_Jo_firstRelease := ⟨zT_mk 567 (by decide +kernel) (by decide +kernel), zT_mk 568 (by decide +kernel) (by decide +kernel)⟩
def M_Jo_lastDeadline : MI := (⟨"SpeedKernel$Jobs", "lastDeadline", "()I"⟩, prog_4_method_5_code, 1, (some .int), 0)
theorem mc_Jo_lastDeadline : MOK M_Jo_lastDeadline 0 := ⟨zT_mk 562 (by decide +kernel) (by decide +kernel), zT_mk 68 (by decide +kernel) (by decide +kernel), by decide +kernel⟩
theorem mv_Jo_lastDeadline : MVV M_Jo_lastDeadline := ⟨zT_mk 560 (by decide +kernel) (by decide +kernel), zT_mk 561 (by decide +kernel) (by decide +kernel)⟩
def M_Jo_nextRelease : MI := (⟨"SpeedKernel$Jobs", "nextRelease", "(II)I"⟩, prog_4_method_6_code, 5, (some .int), 0)
theorem mc_Jo_nextRelease : MOK M_Jo_nextRelease 2 := ⟨zT_mk 573 (by decide +kernel) (by decide +kernel), zT_mk 68 (by decide +kernel) (by decide +kernel), by decide +kernel⟩
theorem mv_Jo_nextRelease : MVV M_Jo_nextRelease := ⟨zT_mk 571 (by decide +kernel) (by decide +kernel), zT_mk 572 (by decide +kernel) (by decide +kernel)⟩
def M_Jo_isWithin : MI := (⟨"SpeedKernel$Jobs", "isWithin", "(III)Z"⟩, prog_4_method_7_code, 4, (some .boolean), 1)
theorem mc_Jo_isWithin : MOK M_Jo_isWithin 3 := ⟨zT_mk 542 (by decide +kernel) (by decide +kernel), zT_mk 68 (by decide +kernel) (by decide +kernel), by decide +kernel⟩
theorem mv_Jo_isWithin : MVV M_Jo_isWithin := ⟨zT_mk 540 (by decide +kernel) (by decide +kernel), zT_mk 541 (by decide +kernel) (by decide +kernel)⟩
def M_Jo_workWithin : MI := (⟨"SpeedKernel$Jobs", "workWithin", "(II)I"⟩, prog_4_method_8_code, 5, (some .int), 2)
theorem mc_Jo_workWithin : MOK M_Jo_workWithin 2 := ⟨zT_mk 1174 (by decide +kernel) (by decide +kernel), zT_mk 68 (by decide +kernel) (by decide +kernel), by decide +kernel⟩
theorem mv_Jo_workWithin : MVV M_Jo_workWithin := ⟨zT_mk 1172 (by decide +kernel) (by decide +kernel), zT_mk 1173 (by decide +kernel) (by decide +kernel)⟩
def M_Jo_allWork : MI := (⟨"SpeedKernel$Jobs", "allWork", "()I"⟩, prog_4_method_9_code, 1, (some .int), 3)
theorem mc_Jo_allWork : MOK M_Jo_allWork 0 := ⟨zT_mk 1193 (by decide +kernel) (by decide +kernel), zT_mk 68 (by decide +kernel) (by decide +kernel), by decide +kernel⟩
theorem mv_Jo_allWork : MVV M_Jo_allWork := ⟨zT_mk 1191 (by decide +kernel) (by decide +kernel), zT_mk 1192 (by decide +kernel) (by decide +kernel)⟩
def M_Le_init : MI := (⟨"SpeedKernel$Levels", "<init>", "()V"⟩, prog_5_method_1_code, 1, none, 1)
theorem mc_Le_init : MOK M_Le_init 0 := ⟨zT_mk 148 (by decide +kernel) (by decide +kernel), zT_mk 69 (by decide +kernel) (by decide +kernel), by decide +kernel⟩
theorem mi_Le_init : MII M_Le_init := ⟨zT_mk 147 (by decide +kernel) (by decide +kernel), rfl⟩
def M_Le_has : MI := (⟨"SpeedKernel$Levels", "has", "(I)Z"⟩, prog_5_method_2_code, 2, (some .boolean), 0)
theorem mc_Le_has : MOK M_Le_has 1 := ⟨zT_mk 479 (by decide +kernel) (by decide +kernel), zT_mk 69 (by decide +kernel) (by decide +kernel), by decide +kernel⟩
theorem mv_Le_has : MVV M_Le_has := ⟨zT_mk 477 (by decide +kernel) (by decide +kernel), zT_mk 478 (by decide +kernel) (by decide +kernel)⟩
def M_Le_rateOf : MI := (⟨"SpeedKernel$Levels", "rateOf", "(I)I"⟩, prog_5_method_3_code, 2, (some .int), 1)
theorem mc_Le_rateOf : MOK M_Le_rateOf 1 := ⟨zT_mk 475 (by decide +kernel) (by decide +kernel), zT_mk 69 (by decide +kernel) (by decide +kernel), by decide +kernel⟩
theorem mv_Le_rateOf : MVV M_Le_rateOf := ⟨zT_mk 473 (by decide +kernel) (by decide +kernel), zT_mk 474 (by decide +kernel) (by decide +kernel)⟩
def M_Le_costOf : MI := (⟨"SpeedKernel$Levels", "costOf", "(I)I"⟩, prog_5_method_4_code, 2, (some .int), 1)
theorem mc_Le_costOf : MOK M_Le_costOf 1 := ⟨zT_mk 495 (by decide +kernel) (by decide +kernel), zT_mk 69 (by decide +kernel) (by decide +kernel), by decide +kernel⟩
theorem mv_Le_costOf : MVV M_Le_costOf := ⟨zT_mk 493 (by decide +kernel) (by decide +kernel), zT_mk 494 (by decide +kernel) (by decide +kernel)⟩
def M_Le_add : MI := (⟨"SpeedKernel$Levels", "add", "(II)I"⟩, prog_5_method_5_code, 3, (some .int), 0)
theorem mc_Le_add : MOK M_Le_add 2 := ⟨zT_mk 483 (by decide +kernel) (by decide +kernel), zT_mk 69 (by decide +kernel) (by decide +kernel), by decide +kernel⟩
theorem mv_Le_add : MVV M_Le_add := ⟨zT_mk 481 (by decide +kernel) (by decide +kernel), zT_mk 482 (by decide +kernel) (by decide +kernel)⟩
def M_Le_leastFor : MI := (⟨"SpeedKernel$Levels", "leastFor", "(II)I"⟩, prog_5_method_6_code, 4, (some .int), 2)
theorem mc_Le_leastFor : MOK M_Le_leastFor 2 := ⟨zT_mk 1237 (by decide +kernel) (by decide +kernel), zT_mk 69 (by decide +kernel) (by decide +kernel), by decide +kernel⟩
theorem mv_Le_leastFor : MVV M_Le_leastFor := ⟨zT_mk 1235 (by decide +kernel) (by decide +kernel), zT_mk 1236 (by decide +kernel) (by decide +kernel)⟩
def M_Le_areConvex : MI := (⟨"SpeedKernel$Levels", "areConvex", "()Z"⟩, prog_5_method_7_code, 10, (some .boolean), 2)
theorem mc_Le_areConvex : MOK M_Le_areConvex 0 := ⟨zT_mk 491 (by decide +kernel) (by decide +kernel), zT_mk 69 (by decide +kernel) (by decide +kernel), by decide +kernel⟩
theorem mv_Le_areConvex : MVV M_Le_areConvex := ⟨zT_mk 489 (by decide +kernel) (by decide +kernel), zT_mk 490 (by decide +kernel) (by decide +kernel)⟩
def M_Na_init : MI := (⟨"SpeedKernel$Natural", "<init>", "()V"⟩, prog_6_method_1_code, 1, none, 1)
theorem mc_Na_init : MOK M_Na_init 0 := ⟨zT_mk 178 (by decide +kernel) (by decide +kernel), zT_mk 72 (by decide +kernel) (by decide +kernel), by decide +kernel⟩
theorem mi_Na_init : MII M_Na_init := ⟨zT_mk 177 (by decide +kernel) (by decide +kernel), rfl⟩
def M_Na_isZero : MI := (⟨"SpeedKernel$Natural", "isZero", "()Z"⟩, prog_6_method_2_code, 1, (some .boolean), 0)
theorem mc_Na_isZero : MOK M_Na_isZero 0 := ⟨zT_mk 633 (by decide +kernel) (by decide +kernel), zT_mk 72 (by decide +kernel) (by decide +kernel), by decide +kernel⟩
theorem mv_Na_isZero : MVV M_Na_isZero := ⟨zT_mk 631 (by decide +kernel) (by decide +kernel), zT_mk 632 (by decide +kernel) (by decide +kernel)⟩
def M_Na_isOne : MI := (⟨"SpeedKernel$Natural", "isOne", "()Z"⟩, prog_6_method_3_code, 1, (some .boolean), 0)
theorem mc_Na_isOne : MOK M_Na_isOne 0 := ⟨zT_mk 1034 (by decide +kernel) (by decide +kernel), zT_mk 72 (by decide +kernel) (by decide +kernel), by decide +kernel⟩
theorem mv_Na_isOne : MVV M_Na_isOne := ⟨zT_mk 1032 (by decide +kernel) (by decide +kernel), zT_mk 1033 (by decide +kernel) (by decide +kernel)⟩
def M_Na_fitsLong : MI := (⟨"SpeedKernel$Natural", "fitsLong", "()Z"⟩, prog_6_method_4_code, 1, (some .boolean), 0)
theorem mc_Na_fitsLong : MOK M_Na_fitsLong 0 := ⟨zT_mk 637 (by decide +kernel) (by decide +kernel), zT_mk 72 (by decide +kernel) (by decide +kernel), by decide +kernel⟩
theorem mv_Na_fitsLong : MVV M_Na_fitsLong := ⟨zT_mk 635 (by decide +kernel) (by decide +kernel), zT_mk 636 (by decide +kernel) (by decide +kernel)⟩
def M_Na_asLong : MI := (⟨"SpeedKernel$Natural", "asLong", "()J"⟩, prog_6_method_5_code, 5, (some .long), 0)
theorem mc_Na_asLong : MOK M_Na_asLong 0 := ⟨zT_mk 641 (by decide +kernel) (by decide +kernel), zT_mk 72 (by decide +kernel) (by decide +kernel), by decide +kernel⟩
theorem mv_Na_asLong : MVV M_Na_asLong := ⟨zT_mk 639 (by decide +kernel) (by decide +kernel), zT_mk 640 (by decide +kernel) (by decide +kernel)⟩
def M_Na_setSmall : MI := (⟨"SpeedKernel$Natural", "setSmall", "(J)V"⟩, prog_6_method_6_code, 5, none, 0)
theorem mc_Na_setSmall : MOK M_Na_setSmall 1 := ⟨zT_mk 190 (by decide +kernel) (by decide +kernel), zT_mk 72 (by decide +kernel) (by decide +kernel), by decide +kernel⟩
theorem mv_Na_setSmall : MVV M_Na_setSmall := ⟨zT_mk 188 (by decide +kernel) (by decide +kernel), zT_mk 189 (by decide +kernel) (by decide +kernel)⟩
def M_Na_copyFrom : MI := (⟨"SpeedKernel$Natural", "copyFrom", "(LSpeedKernel$Natural;)V"⟩, prog_6_method_7_code, 2, none, 1)
theorem mc_Na_copyFrom : MOK M_Na_copyFrom 1 := ⟨zT_mk 600 (by decide +kernel) (by decide +kernel), zT_mk 72 (by decide +kernel) (by decide +kernel), by decide +kernel⟩
theorem mv_Na_copyFrom : MVV M_Na_copyFrom := ⟨zT_mk 598 (by decide +kernel) (by decide +kernel), zT_mk 599 (by decide +kernel) (by decide +kernel)⟩
def M_Na_order : MI := (⟨"SpeedKernel$Natural", "order", "(LSpeedKernel$Natural;)I"⟩, prog_6_method_8_code, 3, (some .int), 0)
theorem mc_Na_order : MOK M_Na_order 1 := ⟨zT_mk 592 (by decide +kernel) (by decide +kernel), zT_mk 72 (by decide +kernel) (by decide +kernel), by decide +kernel⟩
theorem mv_Na_order : MVV M_Na_order := ⟨zT_mk 590 (by decide +kernel) (by decide +kernel), zT_mk 591 (by decide +kernel) (by decide +kernel)⟩
def M_Na_add : MI := (⟨"SpeedKernel$Natural", "add", "(LSpeedKernel$Natural;)V"⟩, prog_6_method_9_code, 10, none, 1)
theorem mc_Na_add : MOK M_Na_add 1 := ⟨zT_mk 1025 (by decide +kernel) (by decide +kernel), zT_mk 72 (by decide +kernel) (by decide +kernel), by decide +kernel⟩
theorem mv_Na_add : MVV M_Na_add := ⟨zT_mk 1023 (by decide +kernel) (by decide +kernel), zT_mk 1024 (by decide +kernel) (by decide +kernel)⟩
def M_Na_takeOff : MI := (⟨"SpeedKernel$Natural", "takeOff", "(LSpeedKernel$Natural;)V"⟩, prog_6_method_10_code, 9, none, 1)
theorem mc_Na_takeOff : MOK M_Na_takeOff 1 := ⟨zT_mk 1077 (by decide +kernel) (by decide +kernel), zT_mk 72 (by decide +kernel) (by decide +kernel), by decide +kernel⟩
theorem mv_Na_takeOff : MVV M_Na_takeOff := ⟨zT_mk 1075 (by decide +kernel) (by decide +kernel), zT_mk 1076 (by decide +kernel) (by decide +kernel)⟩
def M_Na_times : MI := (⟨"SpeedKernel$Natural", "times", "(I)V"⟩, prog_6_method_11_code, 5, none, 1)
theorem mc_Na_times : MOK M_Na_times 1 := ⟨zT_mk 1021 (by decide +kernel) (by decide +kernel), zT_mk 72 (by decide +kernel) (by decide +kernel), by decide +kernel⟩
theorem mv_Na_times : MVV M_Na_times := ⟨zT_mk 1019 (by decide +kernel) (by decide +kernel), zT_mk 1020 (by decide +kernel) (by decide +kernel)⟩
def M_Na_setProduct : MI := (⟨"SpeedKernel$Natural", "setProduct", "(LSpeedKernel$Natural;LSpeedKernel$Natural;)V"⟩, prog_6_method_12_code, 10, none, 2)
theorem mc_Na_setProduct : MOK M_Na_setProduct 2 := ⟨zT_mk 686 (by decide +kernel) (by decide +kernel), zT_mk 72 (by decide +kernel) (by decide +kernel), by decide +kernel⟩
theorem mv_Na_setProduct : MVV M_Na_setProduct := ⟨zT_mk 684 (by decide +kernel) (by decide +kernel), zT_mk 685 (by decide +kernel) (by decide +kernel)⟩
def M_Na_divideSmall : MI := (⟨"SpeedKernel$Natural", "divideSmall", "(I)I"⟩, prog_6_method_13_code, 5, (some .int), 1)
theorem mc_Na_divideSmall : MOK M_Na_divideSmall 1 := ⟨zT_mk 652 (by decide +kernel) (by decide +kernel), zT_mk 72 (by decide +kernel) (by decide +kernel), by decide +kernel⟩
theorem mv_Na_divideSmall : MVV M_Na_divideSmall := ⟨zT_mk 650 (by decide +kernel) (by decide +kernel), zT_mk 651 (by decide +kernel) (by decide +kernel)⟩
def M_Na_divideBy : MI := (⟨"SpeedKernel$Natural", "divideBy", "(LSpeedKernel$Natural;LSpeedKernel$Natural;LSpeedKernel$Natural;)V"⟩, prog_6_method_14_code, 7, none, 2)
theorem mc_Na_divideBy : MOK M_Na_divideBy 3 := ⟨zT_mk 646 (by decide +kernel) (by decide +kernel), zT_mk 72 (by decide +kernel) (by decide +kernel), by decide +kernel⟩
theorem mv_Na_divideBy : MVV M_Na_divideBy := ⟨zT_mk 644 (by decide +kernel) (by decide +kernel), zT_mk 645 (by decide +kernel) (by decide +kernel)⟩
def M_Na_takeMultiple : MI := (⟨"SpeedKernel$Natural", "takeMultiple", "(LSpeedKernel$Natural;I)J"⟩, prog_6_method_15_code, 11, (some .long), 1)
theorem mc_Na_takeMultiple : MOK M_Na_takeMultiple 2 := ⟨zT_mk 674 (by decide +kernel) (by decide +kernel), zT_mk 72 (by decide +kernel) (by decide +kernel), by decide +kernel⟩
theorem mv_Na_takeMultiple : MVV M_Na_takeMultiple := ⟨zT_mk 673 (by decide +kernel) (by decide +kernel), zT_mk 13 (by decide +kernel) (by decide +kernel)⟩
def M_Na_guessMultiple : MI := (⟨"SpeedKernel$Natural", "guessMultiple", "(LSpeedKernel$Natural;I)J"⟩, prog_6_method_16_code, 14, (some .long), 0)
theorem mc_Na_guessMultiple : MOK M_Na_guessMultiple 2 := ⟨zT_mk 678 (by decide +kernel) (by decide +kernel), zT_mk 72 (by decide +kernel) (by decide +kernel), by decide +kernel⟩
theorem mv_Na_guessMultiple : MVV M_Na_guessMultiple := ⟨zT_mk 677 (by decide +kernel) (by decide +kernel), zT_mk 14 (by decide +kernel) (by decide +kernel)⟩
def M_Na_freeBits : MI := (⟨"SpeedKernel$Natural", "freeBits", "()I"⟩, prog_6_method_17_code, 3, (some .int), 0)
theorem mc_Na_freeBits : MOK M_Na_freeBits 0 := ⟨zT_mk 661 (by decide +kernel) (by decide +kernel), zT_mk 72 (by decide +kernel) (by decide +kernel), by decide +kernel⟩
theorem mv_Na_freeBits : MVV M_Na_freeBits := ⟨zT_mk 660 (by decide +kernel) (by decide +kernel), zT_mk 10 (by decide +kernel) (by decide +kernel)⟩
def M_Na_shiftUp : MI := (⟨"SpeedKernel$Natural", "shiftUp", "(I)V"⟩, prog_6_method_18_code, 5, none, 1)
theorem mc_Na_shiftUp : MOK M_Na_shiftUp 1 := ⟨zT_mk 666 (by decide +kernel) (by decide +kernel), zT_mk 72 (by decide +kernel) (by decide +kernel), by decide +kernel⟩
theorem mv_Na_shiftUp : MVV M_Na_shiftUp := ⟨zT_mk 665 (by decide +kernel) (by decide +kernel), zT_mk 11 (by decide +kernel) (by decide +kernel)⟩
def M_Na_shiftDown : MI := (⟨"SpeedKernel$Natural", "shiftDown", "(I)V"⟩, prog_6_method_19_code, 5, none, 1)
theorem mc_Na_shiftDown : MOK M_Na_shiftDown 1 := ⟨zT_mk 682 (by decide +kernel) (by decide +kernel), zT_mk 72 (by decide +kernel) (by decide +kernel), by decide +kernel⟩
theorem mv_Na_shiftDown : MVV M_Na_shiftDown := ⟨zT_mk 681 (by decide +kernel) (by decide +kernel), zT_mk 15 (by decide +kernel) (by decide +kernel)⟩
def M_Na_push : MI := (⟨"SpeedKernel$Natural", "push", "(J)V"⟩, prog_6_method_20_code, 3, none, 0)
theorem mc_Na_push : MOK M_Na_push 1 := ⟨zT_mk 670 (by decide +kernel) (by decide +kernel), zT_mk 72 (by decide +kernel) (by decide +kernel), by decide +kernel⟩
theorem mv_Na_push : MVV M_Na_push := ⟨zT_mk 669 (by decide +kernel) (by decide +kernel), zT_mk 12 (by decide +kernel) (by decide +kernel)⟩
def M_Na_trim : MI := (⟨"SpeedKernel$Natural", "trim", "()V"⟩, prog_6_method_21_code, 1, none, 0)
theorem mc_Na_trim : MOK M_Na_trim 0 := ⟨zT_mk 656 (by decide +kernel) (by decide +kernel), zT_mk 72 (by decide +kernel) (by decide +kernel), by decide +kernel⟩
theorem mv_Na_trim : MVV M_Na_trim := ⟨zT_mk 655 (by decide +kernel) (by decide +kernel), zT_mk 9 (by decide +kernel) (by decide +kernel)⟩
def M_Pl_init : MI := (⟨"SpeedKernel$Planner", "<init>", "()V"⟩, prog_7_method_1_code, 2, none, 3)
theorem mc_Pl_init : MOK M_Pl_init 0 := ⟨zT_mk 288 (by decide +kernel) (by decide +kernel), zT_mk 74 (by decide +kernel) (by decide +kernel), by decide +kernel⟩
theorem mi_Pl_init : MII M_Pl_init := ⟨zT_mk 287 (by decide +kernel) (by decide +kernel), rfl⟩
def M_Pl_workOut : MI := (⟨"SpeedKernel$Planner", "workOut", "(LSpeedKernel$Jobs;LSpeedKernel$Profile;)V"⟩, prog_7_method_2_code, 3, none, 5)
theorem mc_Pl_workOut : MOK M_Pl_workOut 2 := ⟨zT_mk 518 (by decide +kernel) (by decide +kernel), zT_mk 74 (by decide +kernel) (by decide +kernel), by decide +kernel⟩
theorem mv_Pl_workOut : MVV M_Pl_workOut := ⟨zT_mk 516 (by decide +kernel) (by decide +kernel), zT_mk 517 (by decide +kernel) (by decide +kernel)⟩
def M_Pl_hasGroup : MI := (⟨"SpeedKernel$Planner", "hasGroup", "(I)Z"⟩, prog_7_method_3_code, 2, (some .boolean), 0)
theorem mc_Pl_hasGroup : MOK M_Pl_hasGroup 1 := ⟨zT_mk 580 (by decide +kernel) (by decide +kernel), zT_mk 74 (by decide +kernel) (by decide +kernel), by decide +kernel⟩
theorem mv_Pl_hasGroup : MVV M_Pl_hasGroup := ⟨zT_mk 578 (by decide +kernel) (by decide +kernel), zT_mk 579 (by decide +kernel) (by decide +kernel)⟩
def M_Pl_groupOf : MI := (⟨"SpeedKernel$Planner", "groupOf", "(I)I"⟩, prog_7_method_4_code, 2, (some .int), 0)
theorem mc_Pl_groupOf : MOK M_Pl_groupOf 1 := ⟨zT_mk 615 (by decide +kernel) (by decide +kernel), zT_mk 74 (by decide +kernel) (by decide +kernel), by decide +kernel⟩
theorem mv_Pl_groupOf : MVV M_Pl_groupOf := ⟨zT_mk 613 (by decide +kernel) (by decide +kernel), zT_mk 614 (by decide +kernel) (by decide +kernel)⟩
def M_Pl_rateOf : MI := (⟨"SpeedKernel$Planner", "rateOf", "(I)LSpeedKernel$Fraction;"⟩, prog_7_method_5_code, 3, (some (.object "SpeedKernel$Fraction")), 1)
theorem mc_Pl_rateOf : MOK M_Pl_rateOf 1 := ⟨zT_mk 1101 (by decide +kernel) (by decide +kernel), zT_mk 74 (by decide +kernel) (by decide +kernel), by decide +kernel⟩
theorem mv_Pl_rateOf : MVV M_Pl_rateOf := ⟨zT_mk 1099 (by decide +kernel) (by decide +kernel), zT_mk 1100 (by decide +kernel) (by decide +kernel)⟩
def M_Pl_findGroups : MI := (⟨"SpeedKernel$Planner", "findGroups", "(LSpeedKernel$Jobs;)V"⟩, prog_7_method_6_code, 3, none, 4)
theorem mc_Pl_findGroups : MOK M_Pl_findGroups 1 := ⟨zT_mk 529 (by decide +kernel) (by decide +kernel), zT_mk 74 (by decide +kernel) (by decide +kernel), by decide +kernel⟩
theorem mv_Pl_findGroups : MVV M_Pl_findGroups := ⟨zT_mk 528 (by decide +kernel) (by decide +kernel), zT_mk 1 (by decide +kernel) (by decide +kernel)⟩
def M_Pl_findDensest : MI := (⟨"SpeedKernel$Planner", "findDensest", "(LSpeedKernel$Jobs;)V"⟩, prog_7_method_7_code, 4, none, 3)
theorem mc_Pl_findDensest : MOK M_Pl_findDensest 1 := ⟨zT_mk 534 (by decide +kernel) (by decide +kernel), zT_mk 74 (by decide +kernel) (by decide +kernel), by decide +kernel⟩
theorem mv_Pl_findDensest : MVV M_Pl_findDensest := ⟨zT_mk 533 (by decide +kernel) (by decide +kernel), zT_mk 2 (by decide +kernel) (by decide +kernel)⟩
def M_Pl_tryBetween : MI := (⟨"SpeedKernel$Planner", "tryBetween", "(LSpeedKernel$Jobs;II)V"⟩, prog_7_method_8_code, 7, none, 2)
theorem mc_Pl_tryBetween : MOK M_Pl_tryBetween 3 := ⟨zT_mk 538 (by decide +kernel) (by decide +kernel), zT_mk 74 (by decide +kernel) (by decide +kernel), by decide +kernel⟩
theorem mv_Pl_tryBetween : MVV M_Pl_tryBetween := ⟨zT_mk 537 (by decide +kernel) (by decide +kernel), zT_mk 3 (by decide +kernel) (by decide +kernel)⟩
def M_Pl_takeDensest : MI := (⟨"SpeedKernel$Planner", "takeDensest", "(LSpeedKernel$Jobs;)V"⟩, prog_7_method_9_code, 3, none, 2)
theorem mc_Pl_takeDensest : MOK M_Pl_takeDensest 1 := ⟨zT_mk 547 (by decide +kernel) (by decide +kernel), zT_mk 74 (by decide +kernel) (by decide +kernel), by decide +kernel⟩
theorem mv_Pl_takeDensest : MVV M_Pl_takeDensest := ⟨zT_mk 546 (by decide +kernel) (by decide +kernel), zT_mk 4 (by decide +kernel) (by decide +kernel)⟩
def M_Pl_layOutSteps : MI := (⟨"SpeedKernel$Planner", "layOutSteps", "(LSpeedKernel$Jobs;LSpeedKernel$Profile;)V"⟩, prog_7_method_10_code, 7, none, 4)
theorem mc_Pl_layOutSteps : MOK M_Pl_layOutSteps 2 := ⟨zT_mk 558 (by decide +kernel) (by decide +kernel), zT_mk 74 (by decide +kernel) (by decide +kernel), by decide +kernel⟩
theorem mv_Pl_layOutSteps : MVV M_Pl_layOutSteps := ⟨zT_mk 557 (by decide +kernel) (by decide +kernel), zT_mk 5 (by decide +kernel) (by decide +kernel)⟩
def M_Pl_workOff : MI := (⟨"SpeedKernel$Planner", "workOff", "(LSpeedKernel$Jobs;LSpeedKernel$Profile;)V"⟩, prog_7_method_11_code, 4, none, 3)
theorem mc_Pl_workOff : MOK M_Pl_workOff 2 := ⟨zT_mk 607 (by decide +kernel) (by decide +kernel), zT_mk 74 (by decide +kernel) (by decide +kernel), by decide +kernel⟩
theorem mv_Pl_workOff : MVV M_Pl_workOff := ⟨zT_mk 606 (by decide +kernel) (by decide +kernel), zT_mk 6 (by decide +kernel) (by decide +kernel)⟩
def M_Pl_workOffAt : MI := (⟨"SpeedKernel$Planner", "workOffAt", "(LSpeedKernel$Jobs;LSpeedKernel$Profile;II)V"⟩, prog_7_method_12_code, 10, none, 2)
theorem mc_Pl_workOffAt : MOK M_Pl_workOffAt 4 := ⟨zT_mk 611 (by decide +kernel) (by decide +kernel), zT_mk 74 (by decide +kernel) (by decide +kernel), by decide +kernel⟩
theorem mv_Pl_workOffAt : MVV M_Pl_workOffAt := ⟨zT_mk 610 (by decide +kernel) (by decide +kernel), zT_mk 7 (by decide +kernel) (by decide +kernel)⟩
def M_Pr_init : MI := (⟨"SpeedKernel$Profile", "<init>", "()V"⟩, prog_8_method_1_code, 2, none, 3)
theorem mc_Pr_init : MOK M_Pr_init 0 := ⟨zT_mk 165 (by decide +kernel) (by decide +kernel), zT_mk 70 (by decide +kernel) (by decide +kernel), by decide +kernel⟩
theorem mi_Pr_init : MII M_Pr_init := ⟨zT_mk 164 (by decide +kernel) (by decide +kernel), rfl⟩
def M_Pr_empty : MI := (⟨"SpeedKernel$Profile", "empty", "()V"⟩, prog_8_method_2_code, 1, none, 1)
theorem mc_Pr_empty : MOK M_Pr_empty 0 := ⟨zT_mk 522 (by decide +kernel) (by decide +kernel), zT_mk 70 (by decide +kernel) (by decide +kernel), by decide +kernel⟩
theorem mv_Pr_empty : MVV M_Pr_empty := ⟨zT_mk 520 (by decide +kernel) (by decide +kernel), zT_mk 521 (by decide +kernel) (by decide +kernel)⟩
def M_Pr_hasStep : MI := (⟨"SpeedKernel$Profile", "hasStep", "(I)Z"⟩, prog_8_method_3_code, 2, (some .boolean), 0)
theorem mc_Pr_hasStep : MOK M_Pr_hasStep 1 := ⟨zT_mk 1097 (by decide +kernel) (by decide +kernel), zT_mk 70 (by decide +kernel) (by decide +kernel), by decide +kernel⟩
theorem mv_Pr_hasStep : MVV M_Pr_hasStep := ⟨zT_mk 1095 (by decide +kernel) (by decide +kernel), zT_mk 1096 (by decide +kernel) (by decide +kernel)⟩
def M_Pr_append : MI := (⟨"SpeedKernel$Profile", "append", "(IILSpeedKernel$Fraction;)V"⟩, prog_8_method_4_code, 4, none, 3)
theorem mc_Pr_append : MOK M_Pr_append 3 := ⟨zT_mk 584 (by decide +kernel) (by decide +kernel), zT_mk 70 (by decide +kernel) (by decide +kernel), by decide +kernel⟩
theorem mv_Pr_append : MVV M_Pr_append := ⟨zT_mk 582 (by decide +kernel) (by decide +kernel), zT_mk 583 (by decide +kernel) (by decide +kernel)⟩
def M_Pr_lengthWithin : MI := (⟨"SpeedKernel$Profile", "lengthWithin", "(III)I"⟩, prog_8_method_5_code, 4, (some .int), 1)
theorem mc_Pr_lengthWithin : MOK M_Pr_lengthWithin 3 := ⟨zT_mk 1187 (by decide +kernel) (by decide +kernel), zT_mk 70 (by decide +kernel) (by decide +kernel), by decide +kernel⟩
theorem mv_Pr_lengthWithin : MVV M_Pr_lengthWithin := ⟨zT_mk 1185 (by decide +kernel) (by decide +kernel), zT_mk 1186 (by decide +kernel) (by decide +kernel)⟩
def M_Re_init : MI := (⟨"SpeedKernel$Reckoner", "<init>", "()V"⟩, prog_9_method_1_code, 2, none, 2)
theorem mc_Re_init : MOK M_Re_init 0 := ⟨zT_mk 251 (by decide +kernel) (by decide +kernel), zT_mk 73 (by decide +kernel) (by decide +kernel), by decide +kernel⟩
theorem mi_Re_init : MII M_Re_init := ⟨zT_mk 250 (by decide +kernel) (by decide +kernel), rfl⟩
def M_Re_order : MI := (⟨"SpeedKernel$Reckoner", "order", "(LSpeedKernel$Fraction;LSpeedKernel$Fraction;)I"⟩, prog_9_method_2_code, 3, (some .int), 3)
theorem mc_Re_order : MOK M_Re_order 2 := ⟨zT_mk 1139 (by decide +kernel) (by decide +kernel), zT_mk 73 (by decide +kernel) (by decide +kernel), by decide +kernel⟩
theorem mv_Re_order : MVV M_Re_order := ⟨zT_mk 1137 (by decide +kernel) (by decide +kernel), zT_mk 1138 (by decide +kernel) (by decide +kernel)⟩
def M_Re_lower : MI := (⟨"SpeedKernel$Reckoner", "lower", "(LSpeedKernel$Fraction;)V"⟩, prog_9_method_3_code, 3, none, 4)
theorem mc_Re_lower : MOK M_Re_lower 1 := ⟨zT_mk 1030 (by decide +kernel) (by decide +kernel), zT_mk 73 (by decide +kernel) (by decide +kernel), by decide +kernel⟩
theorem mv_Re_lower : MVV M_Re_lower := ⟨zT_mk 1028 (by decide +kernel) (by decide +kernel), zT_mk 1029 (by decide +kernel) (by decide +kernel)⟩
def M_Re_commonOf : MI := (⟨"SpeedKernel$Reckoner", "commonOf", "(LSpeedKernel$Natural;LSpeedKernel$Natural;)LSpeedKernel$Natural;"⟩, prog_9_method_4_code, 7, (some (.object "SpeedKernel$Natural")), 3)
theorem mc_Re_commonOf : MOK M_Re_commonOf 2 := ⟨zT_mk 628 (by decide +kernel) (by decide +kernel), zT_mk 73 (by decide +kernel) (by decide +kernel), by decide +kernel⟩
theorem mv_Re_commonOf : MVV M_Re_commonOf := ⟨zT_mk 627 (by decide +kernel) (by decide +kernel), zT_mk 8 (by decide +kernel) (by decide +kernel)⟩
def M_Re_add : MI := (⟨"SpeedKernel$Reckoner", "add", "(LSpeedKernel$Fraction;JI)V"⟩, prog_9_method_5_code, 5, none, 3)
theorem mc_Re_add : MOK M_Re_add 3 := ⟨zT_mk 1247 (by decide +kernel) (by decide +kernel), zT_mk 73 (by decide +kernel) (by decide +kernel), by decide +kernel⟩
theorem mv_Re_add : MVV M_Re_add := ⟨zT_mk 1245 (by decide +kernel) (by decide +kernel), zT_mk 1246 (by decide +kernel) (by decide +kernel)⟩
def M_Re_shareOut : MI := (⟨"SpeedKernel$Reckoner", "shareOut", "(LSpeedKernel$Profile;)V"⟩, prog_9_method_6_code, 5, none, 4)
theorem mc_Re_shareOut : MOK M_Re_shareOut 1 := ⟨zT_mk 623 (by decide +kernel) (by decide +kernel), zT_mk 73 (by decide +kernel) (by decide +kernel), by decide +kernel⟩
theorem mv_Re_shareOut : MVV M_Re_shareOut := ⟨zT_mk 621 (by decide +kernel) (by decide +kernel), zT_mk 622 (by decide +kernel) (by decide +kernel)⟩
def M_Re_reckonCost : MI := (⟨"SpeedKernel$Reckoner", "reckonCost", "(LSpeedKernel$Profile;)V"⟩, prog_9_method_7_code, 3, none, 5)
theorem mc_Re_reckonCost : MOK M_Re_reckonCost 1 := ⟨zT_mk 619 (by decide +kernel) (by decide +kernel), zT_mk 73 (by decide +kernel) (by decide +kernel), by decide +kernel⟩
theorem mv_Re_reckonCost : MVV M_Re_reckonCost := ⟨zT_mk 617 (by decide +kernel) (by decide +kernel), zT_mk 618 (by decide +kernel) (by decide +kernel)⟩
def M_Re_orderOfWork : MI := (⟨"SpeedKernel$Reckoner", "orderOfWork", "(LSpeedKernel$Profile;III)I"⟩, prog_9_method_8_code, 7, (some .int), 2)
theorem mc_Re_orderOfWork : MOK M_Re_orderOfWork 4 := ⟨zT_mk 1183 (by decide +kernel) (by decide +kernel), zT_mk 73 (by decide +kernel) (by decide +kernel), by decide +kernel⟩
theorem mv_Re_orderOfWork : MVV M_Re_orderOfWork := ⟨zT_mk 1182 (by decide +kernel) (by decide +kernel), zT_mk 28 (by decide +kernel) (by decide +kernel)⟩
def M_Re_doesEnough : MI := (⟨"SpeedKernel$Reckoner", "doesEnough", "(LSpeedKernel$Profile;III)Z"⟩, prog_9_method_9_code, 5, (some .boolean), 3)
theorem mc_Re_doesEnough : MOK M_Re_doesEnough 4 := ⟨zT_mk 1179 (by decide +kernel) (by decide +kernel), zT_mk 73 (by decide +kernel) (by decide +kernel), by decide +kernel⟩
theorem mv_Re_doesEnough : MVV M_Re_doesEnough := ⟨zT_mk 1177 (by decide +kernel) (by decide +kernel), zT_mk 1178 (by decide +kernel) (by decide +kernel)⟩
def M_Re_doesJust : MI := (⟨"SpeedKernel$Reckoner", "doesJust", "(LSpeedKernel$Profile;I)Z"⟩, prog_9_method_10_code, 3, (some .boolean), 3)
theorem mc_Re_doesJust : MOK M_Re_doesJust 2 := ⟨zT_mk 1198 (by decide +kernel) (by decide +kernel), zT_mk 73 (by decide +kernel) (by decide +kernel), by decide +kernel⟩
theorem mv_Re_doesJust : MVV M_Re_doesJust := ⟨zT_mk 1196 (by decide +kernel) (by decide +kernel), zT_mk 1197 (by decide +kernel) (by decide +kernel)⟩
def M_Sp_init : MI := (⟨"SpeedKernel$Splitter", "<init>", "()V"⟩, prog_10_method_1_code, 2, none, 3)
theorem mc_Sp_init : MOK M_Sp_init 0 := ⟨zT_mk 376 (by decide +kernel) (by decide +kernel), zT_mk 76 (by decide +kernel) (by decide +kernel), by decide +kernel⟩
theorem mi_Sp_init : MII M_Sp_init := ⟨zT_mk 375 (by decide +kernel) (by decide +kernel), rfl⟩
def M_Sp_workOut : MI := (⟨"SpeedKernel$Splitter", "workOut", "(LSpeedKernel$Jobs;LSpeedKernel$Levels;LSpeedKernel$Planner;LSpeedKernel$Reckoner;)Z"⟩, prog_10_method_2_code, 7, (some .boolean), 5)
theorem mc_Sp_workOut : MOK M_Sp_workOut 4 := ⟨zT_mk 1231 (by decide +kernel) (by decide +kernel), zT_mk 76 (by decide +kernel) (by decide +kernel), by decide +kernel⟩
theorem mv_Sp_workOut : MVV M_Sp_workOut := ⟨zT_mk 1229 (by decide +kernel) (by decide +kernel), zT_mk 1230 (by decide +kernel) (by decide +kernel)⟩
def M_Sp_splitGroup : MI := (⟨"SpeedKernel$Splitter", "splitGroup", "(LSpeedKernel$Planner;ILSpeedKernel$Jobs;LSpeedKernel$Levels;ILSpeedKernel$Reckoner;)V"⟩, prog_10_method_3_code, 18, none, 4)
theorem mc_Sp_splitGroup : MOK M_Sp_splitGroup 6 := ⟨zT_mk 1241 (by decide +kernel) (by decide +kernel), zT_mk 76 (by decide +kernel) (by decide +kernel), by decide +kernel⟩
theorem mv_Sp_splitGroup : MVV M_Sp_splitGroup := ⟨zT_mk 1240 (by decide +kernel) (by decide +kernel), zT_mk 29 (by decide +kernel) (by decide +kernel)⟩
def M_Te_init : MI := (⟨"SpeedKernel$Text", "<init>", "()V"⟩, prog_11_method_1_code, 1, none, 2)
theorem mc_Te_init : MOK M_Te_init 0 := ⟨zT_mk 409 (by decide +kernel) (by decide +kernel), zT_mk 77 (by decide +kernel) (by decide +kernel), by decide +kernel⟩
theorem mi_Te_init : MII M_Te_init := ⟨zT_mk 408 (by decide +kernel) (by decide +kernel), rfl⟩
def M_Te_at : MI := (⟨"SpeedKernel$Text", "at", "(I)I"⟩, prog_11_method_2_code, 2, (some .int), 0)
theorem mc_Te_at : MOK M_Te_at 1 := ⟨zT_mk 1131 (by decide +kernel) (by decide +kernel), zT_mk 77 (by decide +kernel) (by decide +kernel), by decide +kernel⟩
theorem mv_Te_at : MVV M_Te_at := ⟨zT_mk 1129 (by decide +kernel) (by decide +kernel), zT_mk 1130 (by decide +kernel) (by decide +kernel)⟩
def M_Te_write : MI := (⟨"SpeedKernel$Text", "write", "(LSpeedKernel$Fraction;)I"⟩, prog_11_method_3_code, 2, (some .int), 3)
theorem mc_Te_write : MOK M_Te_write 1 := ⟨zT_mk 1105 (by decide +kernel) (by decide +kernel), zT_mk 77 (by decide +kernel) (by decide +kernel), by decide +kernel⟩
theorem mv_Te_write : MVV M_Te_write := ⟨zT_mk 1103 (by decide +kernel) (by decide +kernel), zT_mk 1104 (by decide +kernel) (by decide +kernel)⟩
def M_Te_writeNumber : MI := (⟨"SpeedKernel$Text", "writeNumber", "(LSpeedKernel$Natural;)V"⟩, prog_11_method_4_code, 4, none, 2)
theorem mc_Te_writeNumber : MOK M_Te_writeNumber 1 := ⟨zT_mk 1109 (by decide +kernel) (by decide +kernel), zT_mk 77 (by decide +kernel) (by decide +kernel), by decide +kernel⟩
theorem mv_Te_writeNumber : MVV M_Te_writeNumber := ⟨zT_mk 1108 (by decide +kernel) (by decide +kernel), zT_mk 24 (by decide +kernel) (by decide +kernel)⟩
def M_Te_writeChunk : MI := (⟨"SpeedKernel$Text", "writeChunk", "(IZ)V"⟩, prog_11_method_5_code, 7, none, 1)
theorem mc_Te_writeChunk : MOK M_Te_writeChunk 2 := ⟨zT_mk 1117 (by decide +kernel) (by decide +kernel), zT_mk 77 (by decide +kernel) (by decide +kernel), by decide +kernel⟩
theorem mv_Te_writeChunk : MVV M_Te_writeChunk := ⟨zT_mk 1116 (by decide +kernel) (by decide +kernel), zT_mk 25 (by decide +kernel) (by decide +kernel)⟩
def M_Te_push : MI := (⟨"SpeedKernel$Text", "push", "(C)V"⟩, prog_11_method_6_code, 2, none, 0)
theorem mc_Te_push : MOK M_Te_push 1 := ⟨zT_mk 1122 (by decide +kernel) (by decide +kernel), zT_mk 77 (by decide +kernel) (by decide +kernel), by decide +kernel⟩
theorem mv_Te_push : MVV M_Te_push := ⟨zT_mk 1121 (by decide +kernel) (by decide +kernel), zT_mk 26 (by decide +kernel) (by decide +kernel)⟩
def M_Ar_fill2 : MI := (⟨"java/util/Arrays", "fill", "([II)V"⟩, prog_30_method_103_code, 4, none, 0)
theorem mc_Ar_fill2 : MOK M_Ar_fill2 2 := ⟨zT_mk 525 (by decide +kernel) (by decide +kernel), zT_mk 79 (by decide +kernel) (by decide +kernel), by decide +kernel⟩
theorem ms_Ar_fill2 : MSS M_Ar_fill2 := zT_mk 524 (by decide +kernel) (by decide +kernel)
def M_Ar_fill4 : MI := (⟨"java/util/Arrays", "fill", "([IIII)V"⟩, prog_30_method_104_code, 5, none, 1)
theorem mc_Ar_fill4 : MOK M_Ar_fill4 4 := ⟨zT_mk 690 (by decide +kernel) (by decide +kernel), zT_mk 79 (by decide +kernel) (by decide +kernel), by decide +kernel⟩
theorem ms_Ar_fill4 : MSS M_Ar_fill4 := zT_mk 689 (by decide +kernel) (by decide +kernel)
def M_Ar_rangeCheck : MI := (⟨"java/util/Arrays", "rangeCheck", "(III)V"⟩, prog_30_method_30_code, 3, none, 0)
theorem mc_Ar_rangeCheck : MOK M_Ar_rangeCheck 3 := ⟨zT_mk 693 (by decide +kernel) (by decide +kernel), zT_mk 79 (by decide +kernel) (by decide +kernel), by decide +kernel⟩
theorem ms_Ar_rangeCheck : MSS M_Ar_rangeCheck := zT_mk 692 (by decide +kernel) (by decide +kernel)
/-! links -/
theorem l_Ke_3 : Cond.methodLink "SpeedKernel" 3 ⟨"java/lang/Object", "<init>", "()V"⟩ ∈ zT := zT_mk 102 (by decide +kernel) (by decide +kernel)
theorem l_Ke_9 : Cond.classLink "SpeedKernel" 9 "SpeedKernel$Jobs" ∈ zT := zT_mk 105 (by decide +kernel) (by decide +kernel)
theorem l_Ke_12 : Cond.fieldLink "SpeedKernel" 12 "SpeedKernel" "jobs" "LSpeedKernel$Jobs;" ∈ zT := zT_mk 427 (by decide +kernel) (by decide +kernel)
theorem l_Ke_16 : Cond.classLink "SpeedKernel" 16 "SpeedKernel$Levels" ∈ zT := zT_mk 144 (by decide +kernel) (by decide +kernel)
theorem l_Ke_19 : Cond.fieldLink "SpeedKernel" 19 "SpeedKernel" "levels" "LSpeedKernel$Levels;" ∈ zT := zT_mk 428 (by decide +kernel) (by decide +kernel)
theorem l_Ke_23 : Cond.classLink "SpeedKernel" 23 "SpeedKernel$Profile" ∈ zT := zT_mk 161 (by decide +kernel) (by decide +kernel)
theorem l_Ke_25 : Cond.methodLink "SpeedKernel" 25 M_Pr_init.1 ∈ zT := zT_mk 163 (by decide +kernel) (by decide +kernel)
theorem l_Ke_26 : Cond.fieldLink "SpeedKernel" 26 "SpeedKernel" "planned" "LSpeedKernel$Profile;" ∈ zT := zT_mk 429 (by decide +kernel) (by decide +kernel)
theorem l_Ke_30 : Cond.fieldLink "SpeedKernel" 30 "SpeedKernel" "foreseen" "LSpeedKernel$Profile;" ∈ zT := zT_mk 430 (by decide +kernel) (by decide +kernel)
theorem l_Ke_33 : Cond.classLink "SpeedKernel" 33 "SpeedKernel$Reckoner" ∈ zT := zT_mk 247 (by decide +kernel) (by decide +kernel)
theorem l_Ke_35 : Cond.methodLink "SpeedKernel" 35 M_Re_init.1 ∈ zT := zT_mk 249 (by decide +kernel) (by decide +kernel)
theorem l_Ke_36 : Cond.fieldLink "SpeedKernel" 36 "SpeedKernel" "reckoner" "LSpeedKernel$Reckoner;" ∈ zT := zT_mk 431 (by decide +kernel) (by decide +kernel)
theorem l_Ke_40 : Cond.classLink "SpeedKernel" 40 "SpeedKernel$Planner" ∈ zT := zT_mk 284 (by decide +kernel) (by decide +kernel)
theorem l_Ke_42 : Cond.methodLink "SpeedKernel" 42 M_Pl_init.1 ∈ zT := zT_mk 286 (by decide +kernel) (by decide +kernel)
theorem l_Ke_43 : Cond.fieldLink "SpeedKernel" 43 "SpeedKernel" "planner" "LSpeedKernel$Planner;" ∈ zT := zT_mk 432 (by decide +kernel) (by decide +kernel)
theorem l_Ke_47 : Cond.classLink "SpeedKernel" 47 "SpeedKernel$Foresight" ∈ zT := zT_mk 334 (by decide +kernel) (by decide +kernel)
theorem l_Ke_49 : Cond.methodLink "SpeedKernel" 49 M_Fo_init.1 ∈ zT := zT_mk 336 (by decide +kernel) (by decide +kernel)
theorem l_Ke_50 : Cond.fieldLink "SpeedKernel" 50 "SpeedKernel" "foresight" "LSpeedKernel$Foresight;" ∈ zT := zT_mk 433 (by decide +kernel) (by decide +kernel)
theorem l_Ke_54 : Cond.classLink "SpeedKernel" 54 "SpeedKernel$Splitter" ∈ zT := zT_mk 372 (by decide +kernel) (by decide +kernel)
theorem l_Ke_56 : Cond.methodLink "SpeedKernel" 56 M_Sp_init.1 ∈ zT := zT_mk 374 (by decide +kernel) (by decide +kernel)
theorem l_Ke_57 : Cond.fieldLink "SpeedKernel" 57 "SpeedKernel" "splitter" "LSpeedKernel$Splitter;" ∈ zT := zT_mk 434 (by decide +kernel) (by decide +kernel)
theorem l_Ke_61 : Cond.classLink "SpeedKernel" 61 "SpeedKernel$Text" ∈ zT := zT_mk 405 (by decide +kernel) (by decide +kernel)
theorem l_Ke_64 : Cond.fieldLink "SpeedKernel" 64 "SpeedKernel" "text" "LSpeedKernel$Text;" ∈ zT := zT_mk 435 (by decide +kernel) (by decide +kernel)
theorem l_Ke_72 : Cond.methodLink "SpeedKernel" 72 M_Ke_forgetPlans.1 ∈ zT := zT_mk 459 (by decide +kernel) (by decide +kernel)
theorem l_Ke_75 : Cond.methodLink "SpeedKernel" 75 M_Jo_add.1 ∈ zT := zT_mk 463 (by decide +kernel) (by decide +kernel)
theorem l_Ke_79 : Cond.constant "SpeedKernel" 79 (1000000) ∈ zT := zT_mk 471 (by decide +kernel) (by decide +kernel)
theorem l_Ke_81 : Cond.methodLink "SpeedKernel" 81 M_Le_rateOf.1 ∈ zT := zT_mk 472 (by decide +kernel) (by decide +kernel)
theorem l_Ke_89 : Cond.methodLink "SpeedKernel" 89 M_Le_add.1 ∈ zT := zT_mk 480 (by decide +kernel) (by decide +kernel)
theorem l_Ke_92 : Cond.methodLink "SpeedKernel" 92 M_Le_areConvex.1 ∈ zT := zT_mk 488 (by decide +kernel) (by decide +kernel)
theorem l_Ke_96 : Cond.methodLink "SpeedKernel" 96 M_Jo_has.1 ∈ zT := zT_mk 505 (by decide +kernel) (by decide +kernel)
theorem l_Ke_110 : Cond.methodLink "SpeedKernel" 110 M_Le_has.1 ∈ zT := zT_mk 509 (by decide +kernel) (by decide +kernel)
theorem l_Ke_111 : Cond.methodLink "SpeedKernel" 111 M_Le_costOf.1 ∈ zT := zT_mk 510 (by decide +kernel) (by decide +kernel)
theorem l_Ke_114 : Cond.methodLink "SpeedKernel" 114 M_Pl_workOut.1 ∈ zT := zT_mk 515 (by decide +kernel) (by decide +kernel)
theorem l_Ke_118 : Cond.methodLink "SpeedKernel" 118 M_Re_reckonCost.1 ∈ zT := zT_mk 616 (by decide +kernel) (by decide +kernel)
theorem l_Ke_126 : Cond.methodLink "SpeedKernel" 126 M_Fo_workOut.1 ∈ zT := zT_mk 1039 (by decide +kernel) (by decide +kernel)
theorem l_Ke_129 : Cond.classLink "SpeedKernel" 129 "java/lang/IllegalStateException" ∈ zT := zT_mk 1207 (by decide +kernel) (by decide +kernel)
theorem l_Ke_131 : Cond.methodLink "SpeedKernel" 131 ⟨"java/lang/IllegalStateException", "<init>", "()V"⟩ ∈ zT := zT_mk 1216 (by decide +kernel) (by decide +kernel)
theorem l_Ke_132 : Cond.methodLink "SpeedKernel" 132 M_Sp_workOut.1 ∈ zT := zT_mk 1228 (by decide +kernel) (by decide +kernel)
theorem l_Ke_135 : Cond.classLink "SpeedKernel" 135 "java/lang/IllegalArgumentException" ∈ zT := zT_mk 1259 (by decide +kernel) (by decide +kernel)
theorem l_Ke_137 : Cond.methodLink "SpeedKernel" 137 ⟨"java/lang/IllegalArgumentException", "<init>", "()V"⟩ ∈ zT := zT_mk 1260 (by decide +kernel) (by decide +kernel)
theorem l_Ke_138 : Cond.methodLink "SpeedKernel" 138 M_Pr_hasStep.1 ∈ zT := zT_mk 1094 (by decide +kernel) (by decide +kernel)
theorem l_Ke_141 : Cond.classLink "SpeedKernel" 141 "java/lang/IndexOutOfBoundsException" ∈ zT := zT_mk 1264 (by decide +kernel) (by decide +kernel)
theorem l_Ke_143 : Cond.methodLink "SpeedKernel" 143 ⟨"java/lang/IndexOutOfBoundsException", "<init>", "()V"⟩ ∈ zT := zT_mk 1273 (by decide +kernel) (by decide +kernel)
theorem l_Ke_150 : Cond.methodLink "SpeedKernel" 150 M_Ke_fractionOf.1 ∈ zT := zT_mk 1090 (by decide +kernel) (by decide +kernel)
theorem l_Ke_154 : Cond.methodLink "SpeedKernel" 154 M_Te_write.1 ∈ zT := zT_mk 1102 (by decide +kernel) (by decide +kernel)
theorem l_Ke_158 : Cond.methodLink "SpeedKernel" 158 M_Te_at.1 ∈ zT := zT_mk 1128 (by decide +kernel) (by decide +kernel)
theorem l_Ke_161 : Cond.methodLink "SpeedKernel" 161 M_Re_order.1 ∈ zT := zT_mk 1136 (by decide +kernel) (by decide +kernel)
theorem l_Ke_175 : Cond.methodLink "SpeedKernel" 175 M_Fr_asBinary.1 ∈ zT := zT_mk 1149 (by decide +kernel) (by decide +kernel)
theorem l_Ke_184 : Cond.methodLink "SpeedKernel" 184 M_Re_shareOut.1 ∈ zT := zT_mk 1166 (by decide +kernel) (by decide +kernel)
theorem l_Ke_187 : Cond.methodLink "SpeedKernel" 187 M_Ke_leavesRoom.1 ∈ zT := zT_mk 1167 (by decide +kernel) (by decide +kernel)
theorem l_Ke_190 : Cond.methodLink "SpeedKernel" 190 M_Jo_allWork.1 ∈ zT := zT_mk 1190 (by decide +kernel) (by decide +kernel)
theorem l_Ke_194 : Cond.methodLink "SpeedKernel" 194 M_Re_doesJust.1 ∈ zT := zT_mk 1195 (by decide +kernel) (by decide +kernel)
theorem l_Ke_205 : Cond.methodLink "SpeedKernel" 205 M_Pl_rateOf.1 ∈ zT := zT_mk 1098 (by decide +kernel) (by decide +kernel)
theorem l_Ke_215 : Cond.methodLink "SpeedKernel" 215 M_Jo_workWithin.1 ∈ zT := zT_mk 1171 (by decide +kernel) (by decide +kernel)
theorem l_Ke_218 : Cond.methodLink "SpeedKernel" 218 M_Re_doesEnough.1 ∈ zT := zT_mk 1176 (by decide +kernel) (by decide +kernel)
theorem l_Mo_1 : Cond.methodLink "SpeedKernelModel" 1 ⟨"java/lang/Object", "<init>", "()V"⟩ ∈ zT := zT_mk 1284 (by decide +kernel) (by decide +kernel)
theorem l_Mo_7 : Cond.fieldLink "SpeedKernelModel" 7 "SpeedKernelModel" "cells" "[I" ∈ zT := zT_mk 1286 (by decide +kernel) (by decide +kernel)
theorem l_Mo_13 : Cond.fieldLink "SpeedKernelModel" 13 "SpeedKernelModel" "sizes" "[I" ∈ zT := zT_mk 1287 (by decide +kernel) (by decide +kernel)
theorem l_Mo_16 : Cond.fieldLink "SpeedKernelModel" 16 "SpeedKernelModel" "releases" "[I" ∈ zT := zT_mk 1289 (by decide +kernel) (by decide +kernel)
theorem l_Mo_19 : Cond.fieldLink "SpeedKernelModel" 19 "SpeedKernelModel" "deadlines" "[I" ∈ zT := zT_mk 1290 (by decide +kernel) (by decide +kernel)
theorem l_Mo_22 : Cond.fieldLink "SpeedKernelModel" 22 "SpeedKernelModel" "works" "[I" ∈ zT := zT_mk 1291 (by decide +kernel) (by decide +kernel)
theorem l_Mo_25 : Cond.fieldLink "SpeedKernelModel" 25 "SpeedKernelModel" "rates" "[I" ∈ zT := zT_mk 1293 (by decide +kernel) (by decide +kernel)
theorem l_Mo_28 : Cond.fieldLink "SpeedKernelModel" 28 "SpeedKernelModel" "costs" "[I" ∈ zT := zT_mk 1294 (by decide +kernel) (by decide +kernel)
theorem l_Mo_31 : Cond.fieldLink "SpeedKernelModel" 31 "SpeedKernelModel" "fixed" "[Z" ∈ zT := zT_mk 1298 (by decide +kernel) (by decide +kernel)
theorem l_Mo_35 : Cond.fieldLink "SpeedKernelModel" 35 "SpeedKernelModel" "above" "[J" ∈ zT := zT_mk 1299 (by decide +kernel) (by decide +kernel)
theorem l_Mo_39 : Cond.fieldLink "SpeedKernelModel" 39 "SpeedKernelModel" "below" "[J" ∈ zT := zT_mk 1300 (by decide +kernel) (by decide +kernel)
theorem l_Mo_42 : Cond.fieldLink "SpeedKernelModel" 42 "SpeedKernelModel" "done" "[Z" ∈ zT := zT_mk 1301 (by decide +kernel) (by decide +kernel)
theorem l_Mo_45 : Cond.fieldLink "SpeedKernelModel" 45 "SpeedKernelModel" "jobAbove" "[J" ∈ zT := zT_mk 1302 (by decide +kernel) (by decide +kernel)
theorem l_Mo_48 : Cond.fieldLink "SpeedKernelModel" 48 "SpeedKernelModel" "jobBelow" "[J" ∈ zT := zT_mk 1303 (by decide +kernel) (by decide +kernel)
theorem l_Mo_51 : Cond.fieldLink "SpeedKernelModel" 51 "SpeedKernelModel" "left" "[J" ∈ zT := zT_mk 1304 (by decide +kernel) (by decide +kernel)
theorem l_Mo_54 : Cond.fieldLink "SpeedKernelModel" 54 "SpeedKernelModel" "planBegins" "[I" ∈ zT := zT_mk 1306 (by decide +kernel) (by decide +kernel)
theorem l_Mo_57 : Cond.fieldLink "SpeedKernelModel" 57 "SpeedKernelModel" "planEnds" "[I" ∈ zT := zT_mk 1307 (by decide +kernel) (by decide +kernel)
theorem l_Mo_60 : Cond.fieldLink "SpeedKernelModel" 60 "SpeedKernelModel" "stepAbove" "[J" ∈ zT := zT_mk 1308 (by decide +kernel) (by decide +kernel)
theorem l_Mo_63 : Cond.fieldLink "SpeedKernelModel" 63 "SpeedKernelModel" "stepBelow" "[J" ∈ zT := zT_mk 1309 (by decide +kernel) (by decide +kernel)
theorem l_Mo_66 : Cond.fieldLink "SpeedKernelModel" 66 "SpeedKernelModel" "planWorks" "[I" ∈ zT := zT_mk 1310 (by decide +kernel) (by decide +kernel)
theorem l_Mo_69 : Cond.fieldLink "SpeedKernelModel" 69 "SpeedKernelModel" "aheadBegins" "[I" ∈ zT := zT_mk 1312 (by decide +kernel) (by decide +kernel)
theorem l_Mo_72 : Cond.fieldLink "SpeedKernelModel" 72 "SpeedKernelModel" "aheadEnds" "[I" ∈ zT := zT_mk 1313 (by decide +kernel) (by decide +kernel)
theorem l_Mo_75 : Cond.fieldLink "SpeedKernelModel" 75 "SpeedKernelModel" "aheadWorks" "[I" ∈ zT := zT_mk 1314 (by decide +kernel) (by decide +kernel)
theorem l_Mo_78 : Cond.fieldLink "SpeedKernelModel" 78 "SpeedKernelModel" "lesser" "[I" ∈ zT := zT_mk 1315 (by decide +kernel) (by decide +kernel)
theorem l_Mo_81 : Cond.fieldLink "SpeedKernelModel" 81 "SpeedKernelModel" "greater" "[I" ∈ zT := zT_mk 1316 (by decide +kernel) (by decide +kernel)
theorem l_Mo_84 : Cond.fieldLink "SpeedKernelModel" 84 "SpeedKernelModel" "printed" "[I" ∈ zT := zT_mk 1317 (by decide +kernel) (by decide +kernel)
theorem l_Mo_87 : Cond.fieldLink "SpeedKernelModel" 87 "SpeedKernelModel" "planned" "Z" ∈ zT := zT_mk 1295 (by decide +kernel) (by decide +kernel)
theorem l_Mo_91 : Cond.fieldLink "SpeedKernelModel" 91 "SpeedKernelModel" "thrown" "I" ∈ zT := zT_mk 1285 (by decide +kernel) (by decide +kernel)
theorem l_Mo_95 : Cond.constantLong "SpeedKernelModel" 95 (16777216) ∈ zT := zT_mk 1461 (by decide +kernel) (by decide +kernel)
theorem l_Mo_97 : Cond.methodLink "SpeedKernelModel" 97 M_Mo_part.1 ∈ zT := zT_mk 1494 (by decide +kernel) (by decide +kernel)
theorem l_Mo_101 : Cond.constant "SpeedKernelModel" 101 (16777216) ∈ zT := zT_mk 1498 (by decide +kernel) (by decide +kernel)
theorem l_Mo_102 : Cond.methodLink "SpeedKernelModel" 102 M_Mo_trim.1 ∈ zT := zT_mk 1482 (by decide +kernel) (by decide +kernel)
theorem l_Mo_106 : Cond.methodLink "SpeedKernelModel" 106 M_Mo_copy.1 ∈ zT := zT_mk 1470 (by decide +kernel) (by decide +kernel)
theorem l_Mo_110 : Cond.methodLink "SpeedKernelModel" 110 M_Mo_isEven.1 ∈ zT := zT_mk 1474 (by decide +kernel) (by decide +kernel)
theorem l_Mo_114 : Cond.methodLink "SpeedKernelModel" 114 M_Mo_divideBy.1 ∈ zT := zT_mk 1478 (by decide +kernel) (by decide +kernel)
theorem l_Mo_117 : Cond.methodLink "SpeedKernelModel" 117 M_Mo_order.1 ∈ zT := zT_mk 1486 (by decide +kernel) (by decide +kernel)
theorem l_Mo_120 : Cond.methodLink "SpeedKernelModel" 120 M_Mo_subtract.1 ∈ zT := zT_mk 1490 (by decide +kernel) (by decide +kernel)
theorem l_Mo_124 : Cond.methodLink "SpeedKernelModel" 124 M_Mo_multiplyBy.1 ∈ zT := zT_mk 1499 (by decide +kernel) (by decide +kernel)
theorem l_Mo_127 : Cond.methodLink "SpeedKernelModel" 127 M_Mo_set.1 ∈ zT := zT_mk 1457 (by decide +kernel) (by decide +kernel)
theorem l_Mo_131 : Cond.methodLink "SpeedKernelModel" 131 M_Mo_common.1 ∈ zT := zT_mk 1466 (by decide +kernel) (by decide +kernel)
theorem l_Mo_134 : Cond.methodLink "SpeedKernelModel" 134 M_Mo_divide.1 ∈ zT := zT_mk 1503 (by decide +kernel) (by decide +kernel)
theorem l_Mo_137 : Cond.methodLink "SpeedKernelModel" 137 M_Mo_reduce.1 ∈ zT := zT_mk 1462 (by decide +kernel) (by decide +kernel)
theorem l_Mo_140 : Cond.methodLink "SpeedKernelModel" 140 M_Mo_multiply.1 ∈ zT := zT_mk 1511 (by decide +kernel) (by decide +kernel)
theorem l_Mo_143 : Cond.methodLink "SpeedKernelModel" 143 M_Mo_add.1 ∈ zT := zT_mk 1519 (by decide +kernel) (by decide +kernel)
theorem l_Mo_146 : Cond.methodLink "SpeedKernelModel" 146 M_Mo_sumUp.1 ∈ zT := zT_mk 1515 (by decide +kernel) (by decide +kernel)
theorem l_Mo_149 : Cond.methodLink "SpeedKernelModel" 149 M_Mo_in.1 ∈ zT := zT_mk 1398 (by decide +kernel) (by decide +kernel)
theorem l_Mo_153 : Cond.fieldLink "SpeedKernelModel" 153 "SpeedKernelModel" "jobs" "I" ∈ zT := zT_mk 1288 (by decide +kernel) (by decide +kernel)
theorem l_Mo_156 : Cond.fieldLink "SpeedKernelModel" 156 "SpeedKernelModel" "gone" "Z" ∈ zT := zT_mk 1296 (by decide +kernel) (by decide +kernel)
theorem l_Mo_159 : Cond.fieldLink "SpeedKernelModel" 159 "SpeedKernelModel" "isSplit" "Z" ∈ zT := zT_mk 1297 (by decide +kernel) (by decide +kernel)
theorem l_Mo_162 : Cond.constant "SpeedKernelModel" 162 (1000000) ∈ zT := zT_mk 1405 (by decide +kernel) (by decide +kernel)
theorem l_Mo_163 : Cond.fieldLink "SpeedKernelModel" 163 "SpeedKernelModel" "levels" "I" ∈ zT := zT_mk 1292 (by decide +kernel) (by decide +kernel)
theorem l_Mo_166 : Cond.methodLink "SpeedKernelModel" 166 M_Mo_open.1 ∈ zT := zT_mk 1426 (by decide +kernel) (by decide +kernel)
theorem l_Mo_169 : Cond.methodLink "SpeedKernelModel" 169 M_Mo_isWithin.1 ∈ zT := zT_mk 1430 (by decide +kernel) (by decide +kernel)
theorem l_Mo_172 : Cond.methodLink "SpeedKernelModel" 172 M_Mo_commonOf.1 ∈ zT := zT_mk 1434 (by decide +kernel) (by decide +kernel)
theorem l_Mo_176 : Cond.methodLink "SpeedKernelModel" 176 M_Mo_nextJob.1 ∈ zT := zT_mk 1449 (by decide +kernel) (by decide +kernel)
theorem l_Mo_180 : Cond.methodLink "SpeedKernelModel" 180 M_Mo_tell.1 ∈ zT := zT_mk 1453 (by decide +kernel) (by decide +kernel)
theorem l_Mo_184 : Cond.fieldLink "SpeedKernelModel" 184 "SpeedKernelModel" "planSteps" "I" ∈ zT := zT_mk 1305 (by decide +kernel) (by decide +kernel)
theorem l_Mo_187 : Cond.methodLink "SpeedKernelModel" 187 M_Mo_fixBest.1 ∈ zT := zT_mk 1422 (by decide +kernel) (by decide +kernel)
theorem l_Mo_191 : Cond.methodLink "SpeedKernelModel" 191 M_Mo_firstRelease.1 ∈ zT := zT_mk 1437 (by decide +kernel) (by decide +kernel)
theorem l_Mo_195 : Cond.methodLink "SpeedKernelModel" 195 M_Mo_lastDeadline.1 ∈ zT := zT_mk 1441 (by decide +kernel) (by decide +kernel)
theorem l_Mo_198 : Cond.methodLink "SpeedKernelModel" 198 M_Mo_workPlan.1 ∈ zT := zT_mk 1445 (by decide +kernel) (by decide +kernel)
theorem l_Mo_201 : Cond.methodLink "SpeedKernelModel" 201 M_Mo_sumCube.1 ∈ zT := zT_mk 1507 (by decide +kernel) (by decide +kernel)
theorem l_Mo_204 : Cond.methodLink "SpeedKernelModel" 204 M_Mo_keep.1 ∈ zT := zT_mk 1523 (by decide +kernel) (by decide +kernel)
theorem l_Mo_207 : Cond.methodLink "SpeedKernelModel" 207 M_Mo_whoAt.1 ∈ zT := zT_mk 1543 (by decide +kernel) (by decide +kernel)
theorem l_Mo_210 : Cond.methodLink "SpeedKernelModel" 210 M_Mo_inOrder.1 ∈ zT := zT_mk 1547 (by decide +kernel) (by decide +kernel)
theorem l_Mo_213 : Cond.fieldLink "SpeedKernelModel" 213 "SpeedKernelModel" "aheadSteps" "I" ∈ zT := zT_mk 1311 (by decide +kernel) (by decide +kernel)
theorem l_Mo_216 : Cond.methodLink "SpeedKernelModel" 216 M_Mo_nextEvent.1 ∈ zT := zT_mk 1531 (by decide +kernel) (by decide +kernel)
theorem l_Mo_219 : Cond.methodLink "SpeedKernelModel" 219 M_Mo_findBest.1 ∈ zT := zT_mk 1535 (by decide +kernel) (by decide +kernel)
theorem l_Mo_222 : Cond.methodLink "SpeedKernelModel" 222 M_Mo_workAhead.1 ∈ zT := zT_mk 1539 (by decide +kernel) (by decide +kernel)
theorem l_Mo_225 : Cond.methodLink "SpeedKernelModel" 225 M_Mo_isSame.1 ∈ zT := zT_mk 1551 (by decide +kernel) (by decide +kernel)
theorem l_Mo_229 : Cond.methodLink "SpeedKernelModel" 229 M_Mo_splitOne.1 ∈ zT := zT_mk 1559 (by decide +kernel) (by decide +kernel)
theorem l_Mo_232 : Cond.methodLink "SpeedKernelModel" 232 M_Mo_pay.1 ∈ zT := zT_mk 1563 (by decide +kernel) (by decide +kernel)
theorem l_Mo_235 : Cond.fieldLink "SpeedKernelModel" 235 "SpeedKernelModel" "printedMany" "I" ∈ zT := zT_mk 1318 (by decide +kernel) (by decide +kernel)
theorem l_Mo_238 : Cond.methodLink "SpeedKernelModel" 238 M_Mo_fraction.1 ∈ zT := zT_mk 1579 (by decide +kernel) (by decide +kernel)
theorem l_Mo_241 : Cond.methodLink "SpeedKernelModel" 241 M_Mo_printNumber.1 ∈ zT := zT_mk 1583 (by decide +kernel) (by decide +kernel)
theorem l_Mo_244 : Cond.methodLink "SpeedKernelModel" 244 M_Mo_speedOf.1 ∈ zT := zT_mk 1599 (by decide +kernel) (by decide +kernel)
theorem l_Fo_3 : Cond.methodLink "SpeedKernel$Foresight" 3 ⟨"java/lang/Object", "<init>", "()V"⟩ ∈ zT := zT_mk 339 (by decide +kernel) (by decide +kernel)
theorem l_Fo_9 : Cond.classLink "SpeedKernel$Foresight" 9 "SpeedKernel$Natural" ∈ zT := zT_mk 340 (by decide +kernel) (by decide +kernel)
theorem l_Fo_11 : Cond.fieldLink "SpeedKernel$Foresight" 11 "SpeedKernel$Foresight" "left" "[LSpeedKernel$Natural;" ∈ zT := zT_mk 344 (by decide +kernel) (by decide +kernel)
theorem l_Fo_18 : Cond.fieldLink "SpeedKernel$Foresight" 18 "SpeedKernel$Foresight" "scale" "LSpeedKernel$Natural;" ∈ zT := zT_mk 345 (by decide +kernel) (by decide +kernel)
theorem l_Fo_22 : Cond.fieldLink "SpeedKernel$Foresight" 22 "SpeedKernel$Foresight" "dense" "LSpeedKernel$Natural;" ∈ zT := zT_mk 346 (by decide +kernel) (by decide +kernel)
theorem l_Fo_25 : Cond.fieldLink "SpeedKernel$Foresight" 25 "SpeedKernel$Foresight" "sum" "LSpeedKernel$Natural;" ∈ zT := zT_mk 348 (by decide +kernel) (by decide +kernel)
theorem l_Fo_28 : Cond.fieldLink "SpeedKernel$Foresight" 28 "SpeedKernel$Foresight" "mark" "LSpeedKernel$Natural;" ∈ zT := zT_mk 349 (by decide +kernel) (by decide +kernel)
theorem l_Fo_31 : Cond.fieldLink "SpeedKernel$Foresight" 31 "SpeedKernel$Foresight" "room" "LSpeedKernel$Natural;" ∈ zT := zT_mk 350 (by decide +kernel) (by decide +kernel)
theorem l_Fo_34 : Cond.fieldLink "SpeedKernel$Foresight" 34 "SpeedKernel$Foresight" "spare" "LSpeedKernel$Natural;" ∈ zT := zT_mk 351 (by decide +kernel) (by decide +kernel)
theorem l_Fo_37 : Cond.classLink "SpeedKernel$Foresight" 37 "SpeedKernel$Fraction" ∈ zT := zT_mk 342 (by decide +kernel) (by decide +kernel)
theorem l_Fo_39 : Cond.methodLink "SpeedKernel$Foresight" 39 M_Fr_init.1 ∈ zT := zT_mk 343 (by decide +kernel) (by decide +kernel)
theorem l_Fo_40 : Cond.fieldLink "SpeedKernel$Foresight" 40 "SpeedKernel$Foresight" "rate" "LSpeedKernel$Fraction;" ∈ zT := zT_mk 352 (by decide +kernel) (by decide +kernel)
theorem l_Fo_44 : Cond.methodLink "SpeedKernel$Foresight" 44 M_Pr_empty.1 ∈ zT := zT_mk 1043 (by decide +kernel) (by decide +kernel)
theorem l_Fo_49 : Cond.methodLink "SpeedKernel$Foresight" 49 M_Na_setSmall.1 ∈ zT := zT_mk 1044 (by decide +kernel) (by decide +kernel)
theorem l_Fo_63 : Cond.methodLink "SpeedKernel$Foresight" 63 M_Jo_lastDeadline.1 ∈ zT := zT_mk 1045 (by decide +kernel) (by decide +kernel)
theorem l_Fo_67 : Cond.methodLink "SpeedKernel$Foresight" 67 ⟨"java/lang/Math", "min", "(II)I"⟩ ∈ zT := zT_mk 1046 (by decide +kernel) (by decide +kernel)
theorem l_Fo_73 : Cond.methodLink "SpeedKernel$Foresight" 73 M_Jo_firstRelease.1 ∈ zT := zT_mk 1047 (by decide +kernel) (by decide +kernel)
theorem l_Fo_76 : Cond.methodLink "SpeedKernel$Foresight" 76 ⟨"java/lang/Math", "max", "(II)I"⟩ ∈ zT := zT_mk 1048 (by decide +kernel) (by decide +kernel)
theorem l_Fo_79 : Cond.methodLink "SpeedKernel$Foresight" 79 M_Fo_findDensest.1 ∈ zT := zT_mk 1049 (by decide +kernel) (by decide +kernel)
theorem l_Fo_83 : Cond.methodLink "SpeedKernel$Foresight" 83 M_Jo_nextRelease.1 ∈ zT := zT_mk 1063 (by decide +kernel) (by decide +kernel)
theorem l_Fo_86 : Cond.methodLink "SpeedKernel$Foresight" 86 M_Na_isZero.1 ∈ zT := zT_mk 1058 (by decide +kernel) (by decide +kernel)
theorem l_Fo_90 : Cond.fieldLink "SpeedKernel$Foresight" 90 "SpeedKernel$Foresight" "denseDeadline" "I" ∈ zT := zT_mk 347 (by decide +kernel) (by decide +kernel)
theorem l_Fo_93 : Cond.methodLink "SpeedKernel$Foresight" 93 M_Fo_setRate.1 ∈ zT := zT_mk 1064 (by decide +kernel) (by decide +kernel)
theorem l_Fo_97 : Cond.methodLink "SpeedKernel$Foresight" 97 M_Re_lower.1 ∈ zT := zT_mk 1068 (by decide +kernel) (by decide +kernel)
theorem l_Fo_103 : Cond.methodLink "SpeedKernel$Foresight" 103 M_Pr_append.1 ∈ zT := zT_mk 1069 (by decide +kernel) (by decide +kernel)
theorem l_Fo_107 : Cond.methodLink "SpeedKernel$Foresight" 107 M_Fo_workOff.1 ∈ zT := zT_mk 1070 (by decide +kernel) (by decide +kernel)
theorem l_Fo_115 : Cond.methodLink "SpeedKernel$Foresight" 115 M_Jo_has.1 ∈ zT := zT_mk 1057 (by decide +kernel) (by decide +kernel)
theorem l_Fo_128 : Cond.methodLink "SpeedKernel$Foresight" 128 M_Fo_isOpen.1 ∈ zT := zT_mk 1053 (by decide +kernel) (by decide +kernel)
theorem l_Fo_132 : Cond.methodLink "SpeedKernel$Foresight" 132 M_Na_add.1 ∈ zT := zT_mk 1059 (by decide +kernel) (by decide +kernel)
theorem l_Fo_136 : Cond.methodLink "SpeedKernel$Foresight" 136 M_Na_copyFrom.1 ∈ zT := zT_mk 1060 (by decide +kernel) (by decide +kernel)
theorem l_Fo_139 : Cond.methodLink "SpeedKernel$Foresight" 139 M_Na_times.1 ∈ zT := zT_mk 1061 (by decide +kernel) (by decide +kernel)
theorem l_Fo_142 : Cond.methodLink "SpeedKernel$Foresight" 142 M_Na_order.1 ∈ zT := zT_mk 1062 (by decide +kernel) (by decide +kernel)
theorem l_Fo_155 : Cond.methodLink "SpeedKernel$Foresight" 155 M_Na_takeOff.1 ∈ zT := zT_mk 1074 (by decide +kernel) (by decide +kernel)
theorem l_Fo_158 : Cond.methodLink "SpeedKernel$Foresight" 158 M_Fo_setEnd.1 ∈ zT := zT_mk 1078 (by decide +kernel) (by decide +kernel)
theorem l_Fo_162 : Cond.methodLink "SpeedKernel$Foresight" 162 M_Fo_rescale.1 ∈ zT := zT_mk 1082 (by decide +kernel) (by decide +kernel)
theorem l_Fr_1 : Cond.methodLink "SpeedKernel$Fraction" 1 ⟨"java/lang/Object", "<init>", "()V"⟩ ∈ zT := zT_mk 173 (by decide +kernel) (by decide +kernel)
theorem l_Fr_7 : Cond.classLink "SpeedKernel$Fraction" 7 "SpeedKernel$Natural" ∈ zT := zT_mk 174 (by decide +kernel) (by decide +kernel)
theorem l_Fr_10 : Cond.fieldLink "SpeedKernel$Fraction" 10 "SpeedKernel$Fraction" "top" "LSpeedKernel$Natural;" ∈ zT := zT_mk 192 (by decide +kernel) (by decide +kernel)
theorem l_Fr_16 : Cond.fieldLink "SpeedKernel$Fraction" 16 "SpeedKernel$Fraction" "below" "LSpeedKernel$Natural;" ∈ zT := zT_mk 196 (by decide +kernel) (by decide +kernel)
theorem l_Fr_19 : Cond.methodLink "SpeedKernel$Fraction" 19 M_Na_setSmall.1 ∈ zT := zT_mk 187 (by decide +kernel) (by decide +kernel)
theorem l_Fr_29 : Cond.methodLink "SpeedKernel$Fraction" 29 M_Na_copyFrom.1 ∈ zT := zT_mk 597 (by decide +kernel) (by decide +kernel)
theorem l_Fr_33 : Cond.methodLink "SpeedKernel$Fraction" 33 M_Na_order.1 ∈ zT := zT_mk 589 (by decide +kernel) (by decide +kernel)
theorem l_Fr_37 : Cond.methodLink "SpeedKernel$Fraction" 37 M_Na_asLong.1 ∈ zT := zT_mk 1153 (by decide +kernel) (by decide +kernel)
theorem l_Jo_3 : Cond.methodLink "SpeedKernel$Jobs" 3 ⟨"java/lang/Object", "<init>", "()V"⟩ ∈ zT := zT_mk 110 (by decide +kernel) (by decide +kernel)
theorem l_Jo_9 : Cond.fieldLink "SpeedKernel$Jobs" 9 "SpeedKernel$Jobs" "release" "[I" ∈ zT := zT_mk 116 (by decide +kernel) (by decide +kernel)
theorem l_Jo_15 : Cond.fieldLink "SpeedKernel$Jobs" 15 "SpeedKernel$Jobs" "deadline" "[I" ∈ zT := zT_mk 120 (by decide +kernel) (by decide +kernel)
theorem l_Jo_18 : Cond.fieldLink "SpeedKernel$Jobs" 18 "SpeedKernel$Jobs" "work" "[I" ∈ zT := zT_mk 124 (by decide +kernel) (by decide +kernel)
theorem l_Jo_21 : Cond.fieldLink "SpeedKernel$Jobs" 21 "SpeedKernel$Jobs" "byDeadline" "[I" ∈ zT := zT_mk 129 (by decide +kernel) (by decide +kernel)
theorem l_Jo_24 : Cond.fieldLink "SpeedKernel$Jobs" 24 "SpeedKernel$Jobs" "count" "I" ∈ zT := zT_mk 111 (by decide +kernel) (by decide +kernel)
theorem l_Jo_28 : Cond.methodLink "SpeedKernel$Jobs" 28 M_Jo_nextRelease.1 ∈ zT := zT_mk 570 (by decide +kernel) (by decide +kernel)
theorem l_Jo_32 : Cond.methodLink "SpeedKernel$Jobs" 32 M_Jo_has.1 ∈ zT := zT_mk 543 (by decide +kernel) (by decide +kernel)
theorem l_Jo_36 : Cond.methodLink "SpeedKernel$Jobs" 36 M_Jo_isWithin.1 ∈ zT := zT_mk 1175 (by decide +kernel) (by decide +kernel)
theorem l_Jo_40 : Cond.methodLink "SpeedKernel$Jobs" 40 M_Jo_workWithin.1 ∈ zT := zT_mk 1194 (by decide +kernel) (by decide +kernel)
theorem l_Le_3 : Cond.methodLink "SpeedKernel$Levels" 3 ⟨"java/lang/Object", "<init>", "()V"⟩ ∈ zT := zT_mk 149 (by decide +kernel) (by decide +kernel)
theorem l_Le_9 : Cond.fieldLink "SpeedKernel$Levels" 9 "SpeedKernel$Levels" "rates" "[I" ∈ zT := zT_mk 152 (by decide +kernel) (by decide +kernel)
theorem l_Le_15 : Cond.fieldLink "SpeedKernel$Levels" 15 "SpeedKernel$Levels" "costs" "[I" ∈ zT := zT_mk 153 (by decide +kernel) (by decide +kernel)
theorem l_Le_18 : Cond.fieldLink "SpeedKernel$Levels" 18 "SpeedKernel$Levels" "count" "I" ∈ zT := zT_mk 150 (by decide +kernel) (by decide +kernel)
theorem l_Le_22 : Cond.methodLink "SpeedKernel$Levels" 22 M_Le_has.1 ∈ zT := zT_mk 476 (by decide +kernel) (by decide +kernel)
theorem l_Le_26 : Cond.methodLink "SpeedKernel$Levels" 26 M_Le_rateOf.1 ∈ zT := zT_mk 496 (by decide +kernel) (by decide +kernel)
theorem l_Le_30 : Cond.methodLink "SpeedKernel$Levels" 30 M_Le_costOf.1 ∈ zT := zT_mk 492 (by decide +kernel) (by decide +kernel)
theorem l_Na_3 : Cond.methodLink "SpeedKernel$Natural" 3 ⟨"java/lang/Object", "<init>", "()V"⟩ ∈ zT := zT_mk 179 (by decide +kernel) (by decide +kernel)
theorem l_Na_9 : Cond.fieldLink "SpeedKernel$Natural" 9 "SpeedKernel$Natural" "digits" "[I" ∈ zT := zT_mk 180 (by decide +kernel) (by decide +kernel)
theorem l_Na_15 : Cond.fieldLink "SpeedKernel$Natural" 15 "SpeedKernel$Natural" "size" "I" ∈ zT := zT_mk 181 (by decide +kernel) (by decide +kernel)
theorem l_Na_19 : Cond.constantLong "SpeedKernel$Natural" 19 (2147483647) ∈ zT := zT_mk 191 (by decide +kernel) (by decide +kernel)
theorem l_Na_21 : Cond.methodLink "SpeedKernel$Natural" 21 ⟨"java/lang/System", "arraycopy", "(Ljava/lang/Object;ILjava/lang/Object;II)V"⟩ ∈ zT := zT_mk 601 (by decide +kernel) (by decide +kernel)
theorem l_Na_27 : Cond.methodLink "SpeedKernel$Natural" 27 ⟨"java/lang/Math", "max", "(II)I"⟩ ∈ zT := zT_mk 1026 (by decide +kernel) (by decide +kernel)
theorem l_Na_33 : Cond.methodLink "SpeedKernel$Natural" 33 M_Na_push.1 ∈ zT := zT_mk 667 (by decide +kernel) (by decide +kernel)
theorem l_Na_37 : Cond.methodLink "SpeedKernel$Natural" 37 M_Na_trim.1 ∈ zT := zT_mk 653 (by decide +kernel) (by decide +kernel)
theorem l_Na_40 : Cond.methodLink "SpeedKernel$Natural" 40 ⟨"java/lang/Math", "min", "(II)I"⟩ ∈ zT := zT_mk 687 (by decide +kernel) (by decide +kernel)
theorem l_Na_43 : Cond.methodLink "SpeedKernel$Natural" 43 M_Ar_fill4.1 ∈ zT := zT_mk 688 (by decide +kernel) (by decide +kernel)
theorem l_Na_49 : Cond.methodLink "SpeedKernel$Natural" 49 M_Na_order.1 ∈ zT := zT_mk 647 (by decide +kernel) (by decide +kernel)
theorem l_Na_53 : Cond.methodLink "SpeedKernel$Natural" 53 M_Na_copyFrom.1 ∈ zT := zT_mk 648 (by decide +kernel) (by decide +kernel)
theorem l_Na_57 : Cond.methodLink "SpeedKernel$Natural" 57 M_Na_divideSmall.1 ∈ zT := zT_mk 649 (by decide +kernel) (by decide +kernel)
theorem l_Na_61 : Cond.methodLink "SpeedKernel$Natural" 61 M_Na_setSmall.1 ∈ zT := zT_mk 657 (by decide +kernel) (by decide +kernel)
theorem l_Na_64 : Cond.methodLink "SpeedKernel$Natural" 64 M_Na_freeBits.1 ∈ zT := zT_mk 658 (by decide +kernel) (by decide +kernel)
theorem l_Na_68 : Cond.methodLink "SpeedKernel$Natural" 68 M_Na_shiftUp.1 ∈ zT := zT_mk 663 (by decide +kernel) (by decide +kernel)
theorem l_Na_72 : Cond.methodLink "SpeedKernel$Natural" 72 M_Na_takeMultiple.1 ∈ zT := zT_mk 671 (by decide +kernel) (by decide +kernel)
theorem l_Na_76 : Cond.methodLink "SpeedKernel$Natural" 76 M_Na_shiftDown.1 ∈ zT := zT_mk 679 (by decide +kernel) (by decide +kernel)
theorem l_Na_79 : Cond.methodLink "SpeedKernel$Natural" 79 M_Na_guessMultiple.1 ∈ zT := zT_mk 675 (by decide +kernel) (by decide +kernel)
theorem l_Na_82 : Cond.constant "SpeedKernel$Natural" 82 (1073741824) ∈ zT := zT_mk 662 (by decide +kernel) (by decide +kernel)
theorem l_Pl_3 : Cond.methodLink "SpeedKernel$Planner" 3 ⟨"java/lang/Object", "<init>", "()V"⟩ ∈ zT := zT_mk 289 (by decide +kernel) (by decide +kernel)
theorem l_Pl_9 : Cond.fieldLink "SpeedKernel$Planner" 9 "SpeedKernel$Planner" "groupWork" "[I" ∈ zT := zT_mk 293 (by decide +kernel) (by decide +kernel)
theorem l_Pl_15 : Cond.fieldLink "SpeedKernel$Planner" 15 "SpeedKernel$Planner" "groupTime" "[I" ∈ zT := zT_mk 295 (by decide +kernel) (by decide +kernel)
theorem l_Pl_18 : Cond.classLink "SpeedKernel$Planner" 18 "SpeedKernel$Fraction" ∈ zT := zT_mk 290 (by decide +kernel) (by decide +kernel)
theorem l_Pl_20 : Cond.fieldLink "SpeedKernel$Planner" 20 "SpeedKernel$Planner" "groupRate" "[LSpeedKernel$Fraction;" ∈ zT := zT_mk 297 (by decide +kernel) (by decide +kernel)
theorem l_Pl_24 : Cond.fieldLink "SpeedKernel$Planner" 24 "SpeedKernel$Planner" "groupOfJob" "[I" ∈ zT := zT_mk 298 (by decide +kernel) (by decide +kernel)
theorem l_Pl_27 : Cond.fieldLink "SpeedKernel$Planner" 27 "SpeedKernel$Planner" "groupAt" "[I" ∈ zT := zT_mk 299 (by decide +kernel) (by decide +kernel)
theorem l_Pl_30 : Cond.fieldLink "SpeedKernel$Planner" 30 "SpeedKernel$Planner" "freeBefore" "[I" ∈ zT := zT_mk 300 (by decide +kernel) (by decide +kernel)
theorem l_Pl_33 : Cond.fieldLink "SpeedKernel$Planner" 33 "SpeedKernel$Planner" "left" "[I" ∈ zT := zT_mk 301 (by decide +kernel) (by decide +kernel)
theorem l_Pl_36 : Cond.methodLink "SpeedKernel$Planner" 36 M_Fr_init.1 ∈ zT := zT_mk 291 (by decide +kernel) (by decide +kernel)
theorem l_Pl_37 : Cond.fieldLink "SpeedKernel$Planner" 37 "SpeedKernel$Planner" "idle" "LSpeedKernel$Fraction;" ∈ zT := zT_mk 302 (by decide +kernel) (by decide +kernel)
theorem l_Pl_41 : Cond.methodLink "SpeedKernel$Planner" 41 M_Pr_empty.1 ∈ zT := zT_mk 519 (by decide +kernel) (by decide +kernel)
theorem l_Pl_46 : Cond.methodLink "SpeedKernel$Planner" 46 M_Pl_findGroups.1 ∈ zT := zT_mk 526 (by decide +kernel) (by decide +kernel)
theorem l_Pl_50 : Cond.methodLink "SpeedKernel$Planner" 50 M_Pl_layOutSteps.1 ∈ zT := zT_mk 555 (by decide +kernel) (by decide +kernel)
theorem l_Pl_54 : Cond.methodLink "SpeedKernel$Planner" 54 M_Pl_workOff.1 ∈ zT := zT_mk 604 (by decide +kernel) (by decide +kernel)
theorem l_Pl_57 : Cond.fieldLink "SpeedKernel$Planner" 57 "SpeedKernel$Planner" "groups" "I" ∈ zT := zT_mk 292 (by decide +kernel) (by decide +kernel)
theorem l_Pl_61 : Cond.methodLink "SpeedKernel$Planner" 61 M_Pl_groupOf.1 ∈ zT := zT_mk 612 (by decide +kernel) (by decide +kernel)
theorem l_Pl_65 : Cond.methodLink "SpeedKernel$Planner" 65 M_Pl_hasGroup.1 ∈ zT := zT_mk 577 (by decide +kernel) (by decide +kernel)
theorem l_Pl_69 : Cond.methodLink "SpeedKernel$Planner" 69 M_Ar_fill2.1 ∈ zT := zT_mk 530 (by decide +kernel) (by decide +kernel)
theorem l_Pl_75 : Cond.methodLink "SpeedKernel$Planner" 75 M_Pl_findDensest.1 ∈ zT := zT_mk 531 (by decide +kernel) (by decide +kernel)
theorem l_Pl_78 : Cond.fieldLink "SpeedKernel$Planner" 78 "SpeedKernel$Planner" "bestTime" "I" ∈ zT := zT_mk 306 (by decide +kernel) (by decide +kernel)
theorem l_Pl_81 : Cond.methodLink "SpeedKernel$Planner" 81 M_Pl_takeDensest.1 ∈ zT := zT_mk 544 (by decide +kernel) (by decide +kernel)
theorem l_Pl_84 : Cond.fieldLink "SpeedKernel$Planner" 84 "SpeedKernel$Planner" "bestWork" "I" ∈ zT := zT_mk 305 (by decide +kernel) (by decide +kernel)
theorem l_Pl_98 : Cond.methodLink "SpeedKernel$Planner" 98 M_Pl_tryBetween.1 ∈ zT := zT_mk 535 (by decide +kernel) (by decide +kernel)
theorem l_Pl_102 : Cond.methodLink "SpeedKernel$Planner" 102 M_Jo_isWithin.1 ∈ zT := zT_mk 539 (by decide +kernel) (by decide +kernel)
theorem l_Pl_109 : Cond.fieldLink "SpeedKernel$Planner" 109 "SpeedKernel$Planner" "bestFrom" "I" ∈ zT := zT_mk 303 (by decide +kernel) (by decide +kernel)
theorem l_Pl_112 : Cond.fieldLink "SpeedKernel$Planner" 112 "SpeedKernel$Planner" "bestTo" "I" ∈ zT := zT_mk 304 (by decide +kernel) (by decide +kernel)
theorem l_Pl_115 : Cond.methodLink "SpeedKernel$Planner" 115 M_Fr_setSmall.1 ∈ zT := zT_mk 548 (by decide +kernel) (by decide +kernel)
theorem l_Pl_119 : Cond.methodLink "SpeedKernel$Planner" 119 M_Jo_lastDeadline.1 ∈ zT := zT_mk 559 (by decide +kernel) (by decide +kernel)
theorem l_Pl_123 : Cond.methodLink "SpeedKernel$Planner" 123 ⟨"java/lang/Math", "min", "(II)I"⟩ ∈ zT := zT_mk 563 (by decide +kernel) (by decide +kernel)
theorem l_Pl_129 : Cond.methodLink "SpeedKernel$Planner" 129 M_Jo_firstRelease.1 ∈ zT := zT_mk 566 (by decide +kernel) (by decide +kernel)
theorem l_Pl_132 : Cond.methodLink "SpeedKernel$Planner" 132 ⟨"java/lang/Math", "max", "(II)I"⟩ ∈ zT := zT_mk 574 (by decide +kernel) (by decide +kernel)
theorem l_Pl_135 : Cond.methodLink "SpeedKernel$Planner" 135 M_Pr_append.1 ∈ zT := zT_mk 581 (by decide +kernel) (by decide +kernel)
theorem l_Pl_139 : Cond.methodLink "SpeedKernel$Planner" 139 M_Pl_workOffAt.1 ∈ zT := zT_mk 608 (by decide +kernel) (by decide +kernel)
theorem l_Pr_3 : Cond.methodLink "SpeedKernel$Profile" 3 ⟨"java/lang/Object", "<init>", "()V"⟩ ∈ zT := zT_mk 166 (by decide +kernel) (by decide +kernel)
theorem l_Pr_9 : Cond.fieldLink "SpeedKernel$Profile" 9 "SpeedKernel$Profile" "begin" "[I" ∈ zT := zT_mk 210 (by decide +kernel) (by decide +kernel)
theorem l_Pr_15 : Cond.fieldLink "SpeedKernel$Profile" 15 "SpeedKernel$Profile" "end" "[I" ∈ zT := zT_mk 213 (by decide +kernel) (by decide +kernel)
theorem l_Pr_18 : Cond.classLink "SpeedKernel$Profile" 18 "SpeedKernel$Fraction" ∈ zT := zT_mk 167 (by decide +kernel) (by decide +kernel)
theorem l_Pr_20 : Cond.fieldLink "SpeedKernel$Profile" 20 "SpeedKernel$Profile" "rate" "[LSpeedKernel$Fraction;" ∈ zT := zT_mk 216 (by decide +kernel) (by decide +kernel)
theorem l_Pr_24 : Cond.fieldLink "SpeedKernel$Profile" 24 "SpeedKernel$Profile" "done" "[LSpeedKernel$Fraction;" ∈ zT := zT_mk 219 (by decide +kernel) (by decide +kernel)
theorem l_Pr_27 : Cond.fieldLink "SpeedKernel$Profile" 27 "SpeedKernel$Profile" "worker" "[I" ∈ zT := zT_mk 223 (by decide +kernel) (by decide +kernel)
theorem l_Pr_30 : Cond.methodLink "SpeedKernel$Profile" 30 M_Fr_init.1 ∈ zT := zT_mk 170 (by decide +kernel) (by decide +kernel)
theorem l_Pr_31 : Cond.fieldLink "SpeedKernel$Profile" 31 "SpeedKernel$Profile" "cost" "LSpeedKernel$Fraction;" ∈ zT := zT_mk 227 (by decide +kernel) (by decide +kernel)
theorem l_Pr_35 : Cond.fieldLink "SpeedKernel$Profile" 35 "SpeedKernel$Profile" "ready" "Z" ∈ zT := zT_mk 205 (by decide +kernel) (by decide +kernel)
theorem l_Pr_39 : Cond.fieldLink "SpeedKernel$Profile" 39 "SpeedKernel$Profile" "steps" "I" ∈ zT := zT_mk 207 (by decide +kernel) (by decide +kernel)
theorem l_Pr_43 : Cond.methodLink "SpeedKernel$Profile" 43 M_Ar_fill2.1 ∈ zT := zT_mk 523 (by decide +kernel) (by decide +kernel)
theorem l_Pr_49 : Cond.methodLink "SpeedKernel$Profile" 49 M_Fr_isSame.1 ∈ zT := zT_mk 585 (by decide +kernel) (by decide +kernel)
theorem l_Pr_53 : Cond.methodLink "SpeedKernel$Profile" 53 M_Fr_copyFrom.1 ∈ zT := zT_mk 593 (by decide +kernel) (by decide +kernel)
theorem l_Pr_57 : Cond.methodLink "SpeedKernel$Profile" 57 ⟨"java/lang/Math", "min", "(II)I"⟩ ∈ zT := zT_mk 1188 (by decide +kernel) (by decide +kernel)
theorem l_Pr_63 : Cond.methodLink "SpeedKernel$Profile" 63 ⟨"java/lang/Math", "max", "(II)I"⟩ ∈ zT := zT_mk 1189 (by decide +kernel) (by decide +kernel)
theorem l_Re_3 : Cond.methodLink "SpeedKernel$Reckoner" 3 ⟨"java/lang/Object", "<init>", "()V"⟩ ∈ zT := zT_mk 252 (by decide +kernel) (by decide +kernel)
theorem l_Re_9 : Cond.classLink "SpeedKernel$Reckoner" 9 "SpeedKernel$Natural" ∈ zT := zT_mk 253 (by decide +kernel) (by decide +kernel)
theorem l_Re_12 : Cond.fieldLink "SpeedKernel$Reckoner" 12 "SpeedKernel$Reckoner" "first" "LSpeedKernel$Natural;" ∈ zT := zT_mk 256 (by decide +kernel) (by decide +kernel)
theorem l_Re_18 : Cond.fieldLink "SpeedKernel$Reckoner" 18 "SpeedKernel$Reckoner" "second" "LSpeedKernel$Natural;" ∈ zT := zT_mk 257 (by decide +kernel) (by decide +kernel)
theorem l_Re_21 : Cond.fieldLink "SpeedKernel$Reckoner" 21 "SpeedKernel$Reckoner" "quotient" "LSpeedKernel$Natural;" ∈ zT := zT_mk 258 (by decide +kernel) (by decide +kernel)
theorem l_Re_24 : Cond.fieldLink "SpeedKernel$Reckoner" 24 "SpeedKernel$Reckoner" "shifted" "LSpeedKernel$Natural;" ∈ zT := zT_mk 259 (by decide +kernel) (by decide +kernel)
theorem l_Re_27 : Cond.fieldLink "SpeedKernel$Reckoner" 27 "SpeedKernel$Reckoner" "product" "LSpeedKernel$Natural;" ∈ zT := zT_mk 260 (by decide +kernel) (by decide +kernel)
theorem l_Re_30 : Cond.fieldLink "SpeedKernel$Reckoner" 30 "SpeedKernel$Reckoner" "spare" "LSpeedKernel$Natural;" ∈ zT := zT_mk 261 (by decide +kernel) (by decide +kernel)
theorem l_Re_33 : Cond.fieldLink "SpeedKernel$Reckoner" 33 "SpeedKernel$Reckoner" "sum" "LSpeedKernel$Natural;" ∈ zT := zT_mk 262 (by decide +kernel) (by decide +kernel)
theorem l_Re_36 : Cond.fieldLink "SpeedKernel$Reckoner" 36 "SpeedKernel$Reckoner" "common" "LSpeedKernel$Natural;" ∈ zT := zT_mk 263 (by decide +kernel) (by decide +kernel)
theorem l_Re_39 : Cond.fieldLink "SpeedKernel$Reckoner" 39 "SpeedKernel$Reckoner" "shares" "[LSpeedKernel$Natural;" ∈ zT := zT_mk 264 (by decide +kernel) (by decide +kernel)
theorem l_Re_51 : Cond.methodLink "SpeedKernel$Reckoner" 51 M_Na_setProduct.1 ∈ zT := zT_mk 683 (by decide +kernel) (by decide +kernel)
theorem l_Re_55 : Cond.methodLink "SpeedKernel$Reckoner" 55 M_Na_order.1 ∈ zT := zT_mk 1140 (by decide +kernel) (by decide +kernel)
theorem l_Re_59 : Cond.methodLink "SpeedKernel$Reckoner" 59 M_Re_commonOf.1 ∈ zT := zT_mk 625 (by decide +kernel) (by decide +kernel)
theorem l_Re_63 : Cond.methodLink "SpeedKernel$Reckoner" 63 M_Na_isZero.1 ∈ zT := zT_mk 630 (by decide +kernel) (by decide +kernel)
theorem l_Re_67 : Cond.methodLink "SpeedKernel$Reckoner" 67 M_Na_isOne.1 ∈ zT := zT_mk 1031 (by decide +kernel) (by decide +kernel)
theorem l_Re_70 : Cond.methodLink "SpeedKernel$Reckoner" 70 M_Na_divideBy.1 ∈ zT := zT_mk 643 (by decide +kernel) (by decide +kernel)
theorem l_Re_74 : Cond.methodLink "SpeedKernel$Reckoner" 74 M_Na_copyFrom.1 ∈ zT := zT_mk 629 (by decide +kernel) (by decide +kernel)
theorem l_Re_78 : Cond.methodLink "SpeedKernel$Reckoner" 78 M_Na_fitsLong.1 ∈ zT := zT_mk 634 (by decide +kernel) (by decide +kernel)
theorem l_Re_81 : Cond.methodLink "SpeedKernel$Reckoner" 81 M_Na_asLong.1 ∈ zT := zT_mk 638 (by decide +kernel) (by decide +kernel)
theorem l_Re_88 : Cond.methodLink "SpeedKernel$Reckoner" 88 M_Na_setSmall.1 ∈ zT := zT_mk 624 (by decide +kernel) (by decide +kernel)
theorem l_Re_92 : Cond.methodLink "SpeedKernel$Reckoner" 92 M_Na_times.1 ∈ zT := zT_mk 1018 (by decide +kernel) (by decide +kernel)
theorem l_Re_96 : Cond.methodLink "SpeedKernel$Reckoner" 96 M_Na_add.1 ∈ zT := zT_mk 1022 (by decide +kernel) (by decide +kernel)
theorem l_Re_109 : Cond.methodLink "SpeedKernel$Reckoner" 109 M_Re_shareOut.1 ∈ zT := zT_mk 620 (by decide +kernel) (by decide +kernel)
theorem l_Re_124 : Cond.methodLink "SpeedKernel$Reckoner" 124 M_Re_lower.1 ∈ zT := zT_mk 1027 (by decide +kernel) (by decide +kernel)
theorem l_Re_128 : Cond.methodLink "SpeedKernel$Reckoner" 128 M_Pr_lengthWithin.1 ∈ zT := zT_mk 1184 (by decide +kernel) (by decide +kernel)
theorem l_Re_132 : Cond.methodLink "SpeedKernel$Reckoner" 132 M_Re_orderOfWork.1 ∈ zT := zT_mk 1180 (by decide +kernel) (by decide +kernel)
theorem l_Sp_3 : Cond.methodLink "SpeedKernel$Splitter" 3 ⟨"java/lang/Object", "<init>", "()V"⟩ ∈ zT := zT_mk 377 (by decide +kernel) (by decide +kernel)
theorem l_Sp_9 : Cond.fieldLink "SpeedKernel$Splitter" 9 "SpeedKernel$Splitter" "lesser" "[I" ∈ zT := zT_mk 382 (by decide +kernel) (by decide +kernel)
theorem l_Sp_15 : Cond.fieldLink "SpeedKernel$Splitter" 15 "SpeedKernel$Splitter" "greater" "[I" ∈ zT := zT_mk 384 (by decide +kernel) (by decide +kernel)
theorem l_Sp_18 : Cond.classLink "SpeedKernel$Splitter" 18 "SpeedKernel$Fraction" ∈ zT := zT_mk 378 (by decide +kernel) (by decide +kernel)
theorem l_Sp_20 : Cond.fieldLink "SpeedKernel$Splitter" 20 "SpeedKernel$Splitter" "slowly" "[LSpeedKernel$Fraction;" ∈ zT := zT_mk 386 (by decide +kernel) (by decide +kernel)
theorem l_Sp_24 : Cond.fieldLink "SpeedKernel$Splitter" 24 "SpeedKernel$Splitter" "fast" "[LSpeedKernel$Fraction;" ∈ zT := zT_mk 388 (by decide +kernel) (by decide +kernel)
theorem l_Sp_27 : Cond.methodLink "SpeedKernel$Splitter" 27 M_Fr_init.1 ∈ zT := zT_mk 379 (by decide +kernel) (by decide +kernel)
theorem l_Sp_28 : Cond.fieldLink "SpeedKernel$Splitter" 28 "SpeedKernel$Splitter" "cost" "LSpeedKernel$Fraction;" ∈ zT := zT_mk 390 (by decide +kernel) (by decide +kernel)
theorem l_Sp_32 : Cond.fieldLink "SpeedKernel$Splitter" 32 "SpeedKernel$Splitter" "ready" "Z" ∈ zT := zT_mk 380 (by decide +kernel) (by decide +kernel)
theorem l_Sp_36 : Cond.methodLink "SpeedKernel$Splitter" 36 M_Fr_setSmall.1 ∈ zT := zT_mk 1232 (by decide +kernel) (by decide +kernel)
theorem l_Sp_40 : Cond.methodLink "SpeedKernel$Splitter" 40 M_Pl_hasGroup.1 ∈ zT := zT_mk 1233 (by decide +kernel) (by decide +kernel)
theorem l_Sp_52 : Cond.methodLink "SpeedKernel$Splitter" 52 M_Le_leastFor.1 ∈ zT := zT_mk 1234 (by decide +kernel) (by decide +kernel)
theorem l_Sp_58 : Cond.methodLink "SpeedKernel$Splitter" 58 M_Sp_splitGroup.1 ∈ zT := zT_mk 1238 (by decide +kernel) (by decide +kernel)
theorem l_Sp_62 : Cond.methodLink "SpeedKernel$Splitter" 62 M_Re_lower.1 ∈ zT := zT_mk 1249 (by decide +kernel) (by decide +kernel)
theorem l_Sp_68 : Cond.methodLink "SpeedKernel$Splitter" 68 M_Le_rateOf.1 ∈ zT := zT_mk 1242 (by decide +kernel) (by decide +kernel)
theorem l_Sp_72 : Cond.methodLink "SpeedKernel$Splitter" 72 M_Le_costOf.1 ∈ zT := zT_mk 1243 (by decide +kernel) (by decide +kernel)
theorem l_Sp_75 : Cond.methodLink "SpeedKernel$Splitter" 75 M_Re_add.1 ∈ zT := zT_mk 1244 (by decide +kernel) (by decide +kernel)
theorem l_Sp_85 : Cond.methodLink "SpeedKernel$Splitter" 85 M_Pl_groupOf.1 ∈ zT := zT_mk 1248 (by decide +kernel) (by decide +kernel)
theorem l_Te_3 : Cond.methodLink "SpeedKernel$Text" 3 ⟨"java/lang/Object", "<init>", "()V"⟩ ∈ zT := zT_mk 410 (by decide +kernel) (by decide +kernel)
theorem l_Te_9 : Cond.fieldLink "SpeedKernel$Text" 9 "SpeedKernel$Text" "characters" "[C" ∈ zT := zT_mk 413 (by decide +kernel) (by decide +kernel)
theorem l_Te_15 : Cond.fieldLink "SpeedKernel$Text" 15 "SpeedKernel$Text" "chunks" "[I" ∈ zT := zT_mk 415 (by decide +kernel) (by decide +kernel)
theorem l_Te_19 : Cond.classLink "SpeedKernel$Text" 19 "SpeedKernel$Natural" ∈ zT := zT_mk 411 (by decide +kernel) (by decide +kernel)
theorem l_Te_22 : Cond.fieldLink "SpeedKernel$Text" 22 "SpeedKernel$Text" "rest" "LSpeedKernel$Natural;" ∈ zT := zT_mk 416 (by decide +kernel) (by decide +kernel)
theorem l_Te_26 : Cond.fieldLink "SpeedKernel$Text" 26 "SpeedKernel$Text" "length" "I" ∈ zT := zT_mk 414 (by decide +kernel) (by decide +kernel)
theorem l_Te_35 : Cond.methodLink "SpeedKernel$Text" 35 M_Te_writeNumber.1 ∈ zT := zT_mk 1106 (by decide +kernel) (by decide +kernel)
theorem l_Te_42 : Cond.methodLink "SpeedKernel$Text" 42 M_Na_isOne.1 ∈ zT := zT_mk 1123 (by decide +kernel) (by decide +kernel)
theorem l_Te_46 : Cond.methodLink "SpeedKernel$Text" 46 M_Te_push.1 ∈ zT := zT_mk 1119 (by decide +kernel) (by decide +kernel)
theorem l_Te_50 : Cond.methodLink "SpeedKernel$Text" 50 M_Na_copyFrom.1 ∈ zT := zT_mk 1110 (by decide +kernel) (by decide +kernel)
theorem l_Te_53 : Cond.methodLink "SpeedKernel$Text" 53 M_Na_isZero.1 ∈ zT := zT_mk 1111 (by decide +kernel) (by decide +kernel)
theorem l_Te_56 : Cond.constant "SpeedKernel$Text" 56 (1000000000) ∈ zT := zT_mk 1112 (by decide +kernel) (by decide +kernel)
theorem l_Te_57 : Cond.methodLink "SpeedKernel$Text" 57 M_Na_divideSmall.1 ∈ zT := zT_mk 1113 (by decide +kernel) (by decide +kernel)
theorem l_Te_61 : Cond.methodLink "SpeedKernel$Text" 61 M_Te_writeChunk.1 ∈ zT := zT_mk 1114 (by decide +kernel) (by decide +kernel)
theorem l_Te_65 : Cond.constant "SpeedKernel$Text" 65 (100000000) ∈ zT := zT_mk 1118 (by decide +kernel) (by decide +kernel)
theorem l_La_7 : Cond.methodLink "SpeedKernelLaw" 7 M_Ke_split.1 ∈ zT := zT_mk 1203 (by decide +kernel) (by decide +kernel)
theorem l_La_15 : Cond.methodLink "SpeedKernelLaw" 15 M_Ke_step.1 ∈ zT := zT_mk 1255 (by decide +kernel) (by decide +kernel)
theorem l_La_8 : Cond.classLink "SpeedKernelLaw" 8 "SpeedKernel" ∈ zT := zT_mk 97 (by decide +kernel) (by decide +kernel)
theorem l_La_23 : Cond.methodLink "SpeedKernelLaw" 23 M_Ke_init.1 ∈ zT := zT_mk 99 (by decide +kernel) (by decide +kernel)
theorem l_La_24 : Cond.classLink "SpeedKernelLaw" 24 "SpeedKernelModel" ∈ zT := zT_mk 1279 (by decide +kernel) (by decide +kernel)
theorem l_La_26 : Cond.methodLink "SpeedKernelLaw" 26 M_Mo_init.1 ∈ zT := zT_mk 1281 (by decide +kernel) (by decide +kernel)
theorem l_La_27 : Cond.methodLink "SpeedKernelLaw" 27 M_Ke_job.1 ∈ zT := zT_mk 455 (by decide +kernel) (by decide +kernel)
theorem l_La_30 : Cond.methodLink "SpeedKernelLaw" 30 M_Mo_job.1 ∈ zT := zT_mk 1394 (by decide +kernel) (by decide +kernel)
theorem l_La_31 : Cond.methodLink "SpeedKernelLaw" 31 M_Ke_level.1 ∈ zT := zT_mk 467 (by decide +kernel) (by decide +kernel)
theorem l_La_35 : Cond.methodLink "SpeedKernelLaw" 35 M_Mo_level.1 ∈ zT := zT_mk 1401 (by decide +kernel) (by decide +kernel)
theorem l_La_36 : Cond.methodLink "SpeedKernelLaw" 36 M_Ke_convex.1 ∈ zT := zT_mk 484 (by decide +kernel) (by decide +kernel)
theorem l_La_39 : Cond.methodLink "SpeedKernelLaw" 39 M_Mo_convex.1 ∈ zT := zT_mk 1406 (by decide +kernel) (by decide +kernel)
theorem l_La_40 : Cond.methodLink "SpeedKernelLaw" 40 M_Ke_clear.1 ∈ zT := zT_mk 497 (by decide +kernel) (by decide +kernel)
theorem l_La_43 : Cond.methodLink "SpeedKernelLaw" 43 M_Mo_clear.1 ∈ zT := zT_mk 1410 (by decide +kernel) (by decide +kernel)
theorem l_La_44 : Cond.methodLink "SpeedKernelLaw" 44 M_Ke_about.1 ∈ zT := zT_mk 501 (by decide +kernel) (by decide +kernel)
theorem l_La_47 : Cond.methodLink "SpeedKernelLaw" 47 M_Mo_about.1 ∈ zT := zT_mk 1414 (by decide +kernel) (by decide +kernel)
theorem l_La_48 : Cond.methodLink "SpeedKernelLaw" 48 M_Ke_plan.1 ∈ zT := zT_mk 511 (by decide +kernel) (by decide +kernel)
theorem l_La_51 : Cond.methodLink "SpeedKernelLaw" 51 M_Mo_plan.1 ∈ zT := zT_mk 1418 (by decide +kernel) (by decide +kernel)
theorem l_La_52 : Cond.methodLink "SpeedKernelLaw" 52 M_Ke_ahead.1 ∈ zT := zT_mk 1035 (by decide +kernel) (by decide +kernel)
theorem l_La_55 : Cond.methodLink "SpeedKernelLaw" 55 M_Mo_ahead.1 ∈ zT := zT_mk 1527 (by decide +kernel) (by decide +kernel)
theorem l_La_56 : Cond.methodLink "SpeedKernelLaw" 56 ⟨"SpeedKernelLaw", "split", "(LSpeedKernel;[J)I"⟩ ∈ zT := zT_mk 1199 (by decide +kernel) (by decide +kernel)
theorem l_La_61 : Cond.methodLink "SpeedKernelLaw" 61 M_Mo_split.1 ∈ zT := zT_mk 1555 (by decide +kernel) (by decide +kernel)
theorem l_La_62 : Cond.methodLink "SpeedKernelLaw" 62 M_Mo_thrown.1 ∈ zT := zT_mk 1390 (by decide +kernel) (by decide +kernel)
theorem l_La_65 : Cond.methodLink "SpeedKernelLaw" 65 ⟨"SpeedKernelLaw", "step", "(LSpeedKernel;III[J)I"⟩ ∈ zT := zT_mk 1250 (by decide +kernel) (by decide +kernel)
theorem l_La_68 : Cond.methodLink "SpeedKernelLaw" 68 M_Mo_step.1 ∈ zT := zT_mk 1571 (by decide +kernel) (by decide +kernel)
theorem l_La_69 : Cond.methodLink "SpeedKernelLaw" 69 M_Ke_print.1 ∈ zT := zT_mk 1086 (by decide +kernel) (by decide +kernel)
theorem l_La_72 : Cond.methodLink "SpeedKernelLaw" 72 M_Mo_print.1 ∈ zT := zT_mk 1575 (by decide +kernel) (by decide +kernel)
theorem l_La_73 : Cond.methodLink "SpeedKernelLaw" 73 M_Ke_character.1 ∈ zT := zT_mk 1124 (by decide +kernel) (by decide +kernel)
theorem l_La_77 : Cond.methodLink "SpeedKernelLaw" 77 M_Mo_character.1 ∈ zT := zT_mk 1587 (by decide +kernel) (by decide +kernel)
theorem l_La_78 : Cond.methodLink "SpeedKernelLaw" 78 M_Ke_compare.1 ∈ zT := zT_mk 1132 (by decide +kernel) (by decide +kernel)
theorem l_La_82 : Cond.methodLink "SpeedKernelLaw" 82 M_Mo_compare.1 ∈ zT := zT_mk 1591 (by decide +kernel) (by decide +kernel)
theorem l_La_83 : Cond.methodLink "SpeedKernelLaw" 83 M_Ke_levelOf.1 ∈ zT := zT_mk 1141 (by decide +kernel) (by decide +kernel)
theorem l_La_86 : Cond.methodLink "SpeedKernelLaw" 86 M_Mo_levelOf.1 ∈ zT := zT_mk 1567 (by decide +kernel) (by decide +kernel)
theorem l_La_87 : Cond.methodLink "SpeedKernelLaw" 87 M_Ke_near.1 ∈ zT := zT_mk 1145 (by decide +kernel) (by decide +kernel)
theorem l_La_91 : Cond.methodLink "SpeedKernelLaw" 91 M_Mo_near.1 ∈ zT := zT_mk 1595 (by decide +kernel) (by decide +kernel)
theorem l_La_92 : Cond.constantDouble "SpeedKernelLaw" 92 (4593671619917905920) ∈ zT := zT_mk 1615 (by decide +kernel) (by decide +kernel)
theorem l_La_94 : Cond.methodLink "SpeedKernelLaw" 94 M_Ke_speed.1 ∈ zT := zT_mk 1154 (by decide +kernel) (by decide +kernel)
theorem l_La_98 : Cond.methodLink "SpeedKernelLaw" 98 M_Mo_speed.1 ∈ zT := zT_mk 1603 (by decide +kernel) (by decide +kernel)
theorem l_La_99 : Cond.methodLink "SpeedKernelLaw" 99 M_Ke_working.1 ∈ zT := zT_mk 1158 (by decide +kernel) (by decide +kernel)
theorem l_La_102 : Cond.methodLink "SpeedKernelLaw" 102 M_Mo_working.1 ∈ zT := zT_mk 1607 (by decide +kernel) (by decide +kernel)
theorem l_La_103 : Cond.methodLink "SpeedKernelLaw" 103 M_Ke_check.1 ∈ zT := zT_mk 1162 (by decide +kernel) (by decide +kernel)
theorem l_La_106 : Cond.methodLink "SpeedKernelLaw" 106 M_Mo_check.1 ∈ zT := zT_mk 1611 (by decide +kernel) (by decide +kernel)
theorem l_Ar_13 : Cond.methodLink "java/util/Arrays" 13 M_Ar_rangeCheck.1 ∈ zT := zT_mk 691 (by decide +kernel) (by decide +kernel)
theorem l_Ar_43 : Cond.classLink "java/util/Arrays" 43 "java/lang/IllegalArgumentException" ∈ zT := zT_mk 694 (by decide +kernel) (by decide +kernel)
theorem l_Ar_45 : Cond.classLink "java/util/Arrays" 45 "java/lang/StringBuilder" ∈ zT := zT_mk 736 (by decide +kernel) (by decide +kernel)
theorem l_Ar_47 : Cond.methodLink "java/util/Arrays" 47 ⟨"java/lang/StringBuilder", "<init>", "()V"⟩ ∈ zT := zT_mk 738 (by decide +kernel) (by decide +kernel)
theorem l_Ar_50 : Cond.methodLink "java/util/Arrays" 50 ⟨"java/lang/StringBuilder", "append", "(Ljava/lang/String;)Ljava/lang/StringBuilder;"⟩ ∈ zT := zT_mk 769 (by decide +kernel) (by decide +kernel)
theorem l_Ar_54 : Cond.methodLink "java/util/Arrays" 54 ⟨"java/lang/StringBuilder", "append", "(I)Ljava/lang/StringBuilder;"⟩ ∈ zT := zT_mk 883 (by decide +kernel) (by decide +kernel)
theorem l_Ar_61 : Cond.methodLink "java/util/Arrays" 61 ⟨"java/lang/StringBuilder", "toString", "()Ljava/lang/String;"⟩ ∈ zT := zT_mk 910 (by decide +kernel) (by decide +kernel)
theorem l_Ar_65 : Cond.methodLink "java/util/Arrays" 65 ⟨"java/lang/IllegalArgumentException", "<init>", "(Ljava/lang/String;)V"⟩ ∈ zT := zT_mk 947 (by decide +kernel) (by decide +kernel)
theorem l_Ar_68 : Cond.classLink "java/util/Arrays" 68 "java/lang/ArrayIndexOutOfBoundsException" ∈ zT := zT_mk 996 (by decide +kernel) (by decide +kernel)
theorem l_Ar_70 : Cond.methodLink "java/util/Arrays" 70 ⟨"java/lang/ArrayIndexOutOfBoundsException", "<init>", "(I)V"⟩ ∈ zT := zT_mk 998 (by decide +kernel) (by decide +kernel)
/-- links to private members of nest mates -/
def zNestI : List Nat := [113, 151, 381, 118, 122, 127, 206, 209, 212, 215, 383, 385, 218, 226, 229, 222, 387, 389, 391, 112, 125, 220, 117, 121, 130, 195, 199, 224, 115, 119, 123, 128, 131, 225, 221, 193, 197, 208, 217, 214, 211, 228, 294, 296, 114, 126, 194, 198, 107, 146, 407, 341, 176, 552, 254, 642, 412]
def zNest : List Cond := zNestI.filterMap (fun i => lw_tbl[i]?)
def zNestOk : Cond → Bool
  | .fieldLinkNest .. => true
  | .methodLinkNest .. => true
  | _ => false
theorem zNest_ok : ∀ w ∈ zNest, zNestOk w = true := List.all_eq_true.mp (by decide +kernel)
theorem zNest_in : ∀ w ∈ zNest, w ∈ lw_tbl := by
  intro w hw
  obtain ⟨i, -, hi⟩ := List.mem_filterMap.mp hw
  exact List.mem_of_getElem? hi
theorem l_Ke_68 : Cond.fieldLinkNest "SpeedKernel" 68 "SpeedKernel$Jobs" "count" "I" "SpeedKernel" ∈ zNest := List.mem_of_getElem? (i := 0) (by decide +kernel)
theorem l_Ke_80 : Cond.fieldLinkNest "SpeedKernel" 80 "SpeedKernel$Levels" "count" "I" "SpeedKernel" ∈ zNest := List.mem_of_getElem? (i := 1) (by decide +kernel)
theorem l_Ke_85 : Cond.fieldLinkNest "SpeedKernel" 85 "SpeedKernel$Splitter" "ready" "Z" "SpeedKernel" ∈ zNest := List.mem_of_getElem? (i := 2) (by decide +kernel)
theorem l_Ke_100 : Cond.fieldLinkNest "SpeedKernel" 100 "SpeedKernel$Jobs" "release" "[I" "SpeedKernel" ∈ zNest := List.mem_of_getElem? (i := 3) (by decide +kernel)
theorem l_Ke_104 : Cond.fieldLinkNest "SpeedKernel" 104 "SpeedKernel$Jobs" "deadline" "[I" "SpeedKernel" ∈ zNest := List.mem_of_getElem? (i := 4) (by decide +kernel)
theorem l_Ke_107 : Cond.fieldLinkNest "SpeedKernel" 107 "SpeedKernel$Jobs" "work" "[I" "SpeedKernel" ∈ zNest := List.mem_of_getElem? (i := 5) (by decide +kernel)
theorem l_Ke_122 : Cond.fieldLinkNest "SpeedKernel" 122 "SpeedKernel$Profile" "ready" "Z" "SpeedKernel" ∈ zNest := List.mem_of_getElem? (i := 6) (by decide +kernel)
theorem l_Ke_123 : Cond.fieldLinkNest "SpeedKernel" 123 "SpeedKernel$Profile" "steps" "I" "SpeedKernel" ∈ zNest := List.mem_of_getElem? (i := 7) (by decide +kernel)
theorem l_Ke_144 : Cond.fieldLinkNest "SpeedKernel" 144 "SpeedKernel$Profile" "begin" "[I" "SpeedKernel" ∈ zNest := List.mem_of_getElem? (i := 8) (by decide +kernel)
theorem l_Ke_147 : Cond.fieldLinkNest "SpeedKernel" 147 "SpeedKernel$Profile" "end" "[I" "SpeedKernel" ∈ zNest := List.mem_of_getElem? (i := 9) (by decide +kernel)
theorem l_Ke_165 : Cond.fieldLinkNest "SpeedKernel" 165 "SpeedKernel$Splitter" "lesser" "[I" "SpeedKernel" ∈ zNest := List.mem_of_getElem? (i := 10) (by decide +kernel)
theorem l_Ke_168 : Cond.fieldLinkNest "SpeedKernel" 168 "SpeedKernel$Splitter" "greater" "[I" "SpeedKernel" ∈ zNest := List.mem_of_getElem? (i := 11) (by decide +kernel)
theorem l_Ke_171 : Cond.fieldLinkNest "SpeedKernel" 171 "SpeedKernel$Profile" "rate" "[LSpeedKernel$Fraction;" "SpeedKernel" ∈ zNest := List.mem_of_getElem? (i := 12) (by decide +kernel)
theorem l_Ke_181 : Cond.fieldLinkNest "SpeedKernel" 181 "SpeedKernel$Profile" "worker" "[I" "SpeedKernel" ∈ zNest := List.mem_of_getElem? (i := 13) (by decide +kernel)
theorem l_Ke_198 : Cond.fieldLinkNest "SpeedKernel" 198 "SpeedKernel$Profile" "cost" "LSpeedKernel$Fraction;" "SpeedKernel" ∈ zNest := List.mem_of_getElem? (i := 14) (by decide +kernel)
theorem l_Ke_202 : Cond.fieldLinkNest "SpeedKernel" 202 "SpeedKernel$Profile" "done" "[LSpeedKernel$Fraction;" "SpeedKernel" ∈ zNest := List.mem_of_getElem? (i := 15) (by decide +kernel)
theorem l_Ke_208 : Cond.fieldLinkNest "SpeedKernel" 208 "SpeedKernel$Splitter" "slowly" "[LSpeedKernel$Fraction;" "SpeedKernel" ∈ zNest := List.mem_of_getElem? (i := 16) (by decide +kernel)
theorem l_Ke_211 : Cond.fieldLinkNest "SpeedKernel" 211 "SpeedKernel$Splitter" "fast" "[LSpeedKernel$Fraction;" "SpeedKernel" ∈ zNest := List.mem_of_getElem? (i := 17) (by decide +kernel)
theorem l_Ke_214 : Cond.fieldLinkNest "SpeedKernel" 214 "SpeedKernel$Splitter" "cost" "LSpeedKernel$Fraction;" "SpeedKernel" ∈ zNest := List.mem_of_getElem? (i := 18) (by decide +kernel)
theorem l_Fo_53 : Cond.fieldLinkNest "SpeedKernel$Foresight" 53 "SpeedKernel$Jobs" "count" "I" "SpeedKernel" ∈ zNest := List.mem_of_getElem? (i := 19) (by decide +kernel)
theorem l_Fo_59 : Cond.fieldLinkNest "SpeedKernel$Foresight" 59 "SpeedKernel$Jobs" "work" "[I" "SpeedKernel" ∈ zNest := List.mem_of_getElem? (i := 20) (by decide +kernel)
theorem l_Fo_111 : Cond.fieldLinkNest "SpeedKernel$Foresight" 111 "SpeedKernel$Profile" "done" "[LSpeedKernel$Fraction;" "SpeedKernel" ∈ zNest := List.mem_of_getElem? (i := 21) (by decide +kernel)
theorem l_Fo_119 : Cond.fieldLinkNest "SpeedKernel$Foresight" 119 "SpeedKernel$Jobs" "release" "[I" "SpeedKernel" ∈ zNest := List.mem_of_getElem? (i := 22) (by decide +kernel)
theorem l_Fo_122 : Cond.fieldLinkNest "SpeedKernel$Foresight" 122 "SpeedKernel$Jobs" "deadline" "[I" "SpeedKernel" ∈ zNest := List.mem_of_getElem? (i := 23) (by decide +kernel)
theorem l_Fo_125 : Cond.fieldLinkNest "SpeedKernel$Foresight" 125 "SpeedKernel$Jobs" "byDeadline" "[I" "SpeedKernel" ∈ zNest := List.mem_of_getElem? (i := 24) (by decide +kernel)
theorem l_Fo_146 : Cond.fieldLinkNest "SpeedKernel$Foresight" 146 "SpeedKernel$Fraction" "top" "LSpeedKernel$Natural;" "SpeedKernel" ∈ zNest := List.mem_of_getElem? (i := 25) (by decide +kernel)
theorem l_Fo_149 : Cond.fieldLinkNest "SpeedKernel$Foresight" 149 "SpeedKernel$Fraction" "below" "LSpeedKernel$Natural;" "SpeedKernel" ∈ zNest := List.mem_of_getElem? (i := 26) (by decide +kernel)
theorem l_Fo_152 : Cond.fieldLinkNest "SpeedKernel$Foresight" 152 "SpeedKernel$Profile" "worker" "[I" "SpeedKernel" ∈ zNest := List.mem_of_getElem? (i := 27) (by decide +kernel)
theorem l_Pl_87 : Cond.fieldLinkNest "SpeedKernel$Planner" 87 "SpeedKernel$Jobs" "count" "I" "SpeedKernel" ∈ zNest := List.mem_of_getElem? (i := 28) (by decide +kernel)
theorem l_Pl_92 : Cond.fieldLinkNest "SpeedKernel$Planner" 92 "SpeedKernel$Jobs" "release" "[I" "SpeedKernel" ∈ zNest := List.mem_of_getElem? (i := 29) (by decide +kernel)
theorem l_Pl_95 : Cond.fieldLinkNest "SpeedKernel$Planner" 95 "SpeedKernel$Jobs" "deadline" "[I" "SpeedKernel" ∈ zNest := List.mem_of_getElem? (i := 30) (by decide +kernel)
theorem l_Pl_106 : Cond.fieldLinkNest "SpeedKernel$Planner" 106 "SpeedKernel$Jobs" "work" "[I" "SpeedKernel" ∈ zNest := List.mem_of_getElem? (i := 31) (by decide +kernel)
theorem l_Pl_143 : Cond.fieldLinkNest "SpeedKernel$Planner" 143 "SpeedKernel$Jobs" "byDeadline" "[I" "SpeedKernel" ∈ zNest := List.mem_of_getElem? (i := 32) (by decide +kernel)
theorem l_Pl_146 : Cond.fieldLinkNest "SpeedKernel$Planner" 146 "SpeedKernel$Profile" "worker" "[I" "SpeedKernel" ∈ zNest := List.mem_of_getElem? (i := 33) (by decide +kernel)
theorem l_Pl_149 : Cond.fieldLinkNest "SpeedKernel$Planner" 149 "SpeedKernel$Profile" "done" "[LSpeedKernel$Fraction;" "SpeedKernel" ∈ zNest := List.mem_of_getElem? (i := 34) (by decide +kernel)
theorem l_Re_43 : Cond.fieldLinkNest "SpeedKernel$Reckoner" 43 "SpeedKernel$Fraction" "top" "LSpeedKernel$Natural;" "SpeedKernel" ∈ zNest := List.mem_of_getElem? (i := 35) (by decide +kernel)
theorem l_Re_48 : Cond.fieldLinkNest "SpeedKernel$Reckoner" 48 "SpeedKernel$Fraction" "below" "LSpeedKernel$Natural;" "SpeedKernel" ∈ zNest := List.mem_of_getElem? (i := 36) (by decide +kernel)
theorem l_Re_99 : Cond.fieldLinkNest "SpeedKernel$Reckoner" 99 "SpeedKernel$Profile" "steps" "I" "SpeedKernel" ∈ zNest := List.mem_of_getElem? (i := 37) (by decide +kernel)
theorem l_Re_105 : Cond.fieldLinkNest "SpeedKernel$Reckoner" 105 "SpeedKernel$Profile" "rate" "[LSpeedKernel$Fraction;" "SpeedKernel" ∈ zNest := List.mem_of_getElem? (i := 38) (by decide +kernel)
theorem l_Re_113 : Cond.fieldLinkNest "SpeedKernel$Reckoner" 113 "SpeedKernel$Profile" "end" "[I" "SpeedKernel" ∈ zNest := List.mem_of_getElem? (i := 39) (by decide +kernel)
theorem l_Re_117 : Cond.fieldLinkNest "SpeedKernel$Reckoner" 117 "SpeedKernel$Profile" "begin" "[I" "SpeedKernel" ∈ zNest := List.mem_of_getElem? (i := 40) (by decide +kernel)
theorem l_Re_120 : Cond.fieldLinkNest "SpeedKernel$Reckoner" 120 "SpeedKernel$Profile" "cost" "LSpeedKernel$Fraction;" "SpeedKernel" ∈ zNest := List.mem_of_getElem? (i := 41) (by decide +kernel)
theorem l_Sp_46 : Cond.fieldLinkNest "SpeedKernel$Splitter" 46 "SpeedKernel$Planner" "groupWork" "[I" "SpeedKernel" ∈ zNest := List.mem_of_getElem? (i := 42) (by decide +kernel)
theorem l_Sp_49 : Cond.fieldLinkNest "SpeedKernel$Splitter" 49 "SpeedKernel$Planner" "groupTime" "[I" "SpeedKernel" ∈ zNest := List.mem_of_getElem? (i := 43) (by decide +kernel)
theorem l_Sp_79 : Cond.fieldLinkNest "SpeedKernel$Splitter" 79 "SpeedKernel$Jobs" "count" "I" "SpeedKernel" ∈ zNest := List.mem_of_getElem? (i := 44) (by decide +kernel)
theorem l_Sp_88 : Cond.fieldLinkNest "SpeedKernel$Splitter" 88 "SpeedKernel$Jobs" "work" "[I" "SpeedKernel" ∈ zNest := List.mem_of_getElem? (i := 45) (by decide +kernel)
theorem l_Te_30 : Cond.fieldLinkNest "SpeedKernel$Text" 30 "SpeedKernel$Fraction" "top" "LSpeedKernel$Natural;" "SpeedKernel" ∈ zNest := List.mem_of_getElem? (i := 46) (by decide +kernel)
theorem l_Te_39 : Cond.fieldLinkNest "SpeedKernel$Text" 39 "SpeedKernel$Fraction" "below" "LSpeedKernel$Natural;" "SpeedKernel" ∈ zNest := List.mem_of_getElem? (i := 47) (by decide +kernel)
theorem l_Ke_11 : Cond.methodLinkNest "SpeedKernel" 11 M_Jo_init.1 "SpeedKernel" ∈ zNest := List.mem_of_getElem? (i := 48) (by decide +kernel)
theorem l_Ke_18 : Cond.methodLinkNest "SpeedKernel" 18 M_Le_init.1 "SpeedKernel" ∈ zNest := List.mem_of_getElem? (i := 49) (by decide +kernel)
theorem l_Ke_63 : Cond.methodLinkNest "SpeedKernel" 63 M_Te_init.1 "SpeedKernel" ∈ zNest := List.mem_of_getElem? (i := 50) (by decide +kernel)
theorem l_Fo_17 : Cond.methodLinkNest "SpeedKernel$Foresight" 17 M_Na_init.1 "SpeedKernel" ∈ zNest := List.mem_of_getElem? (i := 51) (by decide +kernel)
theorem l_Fr_9 : Cond.methodLinkNest "SpeedKernel$Fraction" 9 M_Na_init.1 "SpeedKernel" ∈ zNest := List.mem_of_getElem? (i := 52) (by decide +kernel)
theorem l_Fr_23 : Cond.methodLinkNest "SpeedKernel$Fraction" 23 M_Ke_commonOf.1 "SpeedKernel" ∈ zNest := List.mem_of_getElem? (i := 53) (by decide +kernel)
theorem l_Re_11 : Cond.methodLinkNest "SpeedKernel$Reckoner" 11 M_Na_init.1 "SpeedKernel" ∈ zNest := List.mem_of_getElem? (i := 54) (by decide +kernel)
theorem l_Re_85 : Cond.methodLinkNest "SpeedKernel$Reckoner" 85 M_Ke_commonOf.1 "SpeedKernel" ∈ zNest := List.mem_of_getElem? (i := 55) (by decide +kernel)
theorem l_Te_21 : Cond.methodLinkNest "SpeedKernel$Text" 21 M_Na_init.1 "SpeedKernel" ∈ zNest := List.mem_of_getElem? (i := 56) (by decide +kernel)
theorem zi_Ke : Cond.instantiable R_Ke 9 ∈ zT ∧ Cond.initialized R_Ke ∈ zT := ⟨zT_mk 98 (by decide +kernel) (by decide +kernel), zT_mk 67 (by decide +kernel) (by decide +kernel)⟩
theorem zi_Jo : Cond.instantiable R_Jo 5 ∈ zT ∧ Cond.initialized R_Jo ∈ zT := ⟨zT_mk 106 (by decide +kernel) (by decide +kernel), zT_mk 68 (by decide +kernel) (by decide +kernel)⟩
theorem zi_Le : Cond.instantiable R_Le 3 ∈ zT ∧ Cond.initialized R_Le ∈ zT := ⟨zT_mk 145 (by decide +kernel) (by decide +kernel), zT_mk 69 (by decide +kernel) (by decide +kernel)⟩
theorem zi_Na : Cond.instantiable R_Na 2 ∈ zT ∧ Cond.initialized R_Na ∈ zT := ⟨zT_mk 175 (by decide +kernel) (by decide +kernel), zT_mk 72 (by decide +kernel) (by decide +kernel)⟩
theorem zi_Fr : Cond.instantiable R_Fr 2 ∈ zT ∧ Cond.initialized R_Fr ∈ zT := ⟨zT_mk 169 (by decide +kernel) (by decide +kernel), zT_mk 71 (by decide +kernel) (by decide +kernel)⟩
theorem zi_Pr : Cond.instantiable R_Pr 8 ∈ zT ∧ Cond.initialized R_Pr ∈ zT := ⟨zT_mk 162 (by decide +kernel) (by decide +kernel), zT_mk 70 (by decide +kernel) (by decide +kernel)⟩
theorem zi_Re : Cond.instantiable R_Re 9 ∈ zT ∧ Cond.initialized R_Re ∈ zT := ⟨zT_mk 248 (by decide +kernel) (by decide +kernel), zT_mk 73 (by decide +kernel) (by decide +kernel)⟩
theorem zi_Pl : Cond.instantiable R_Pl 13 ∈ zT ∧ Cond.initialized R_Pl ∈ zT := ⟨zT_mk 285 (by decide +kernel) (by decide +kernel), zT_mk 74 (by decide +kernel) (by decide +kernel)⟩
theorem zi_Fo : Cond.instantiable R_Fo 9 ∈ zT ∧ Cond.initialized R_Fo ∈ zT := ⟨zT_mk 335 (by decide +kernel) (by decide +kernel), zT_mk 75 (by decide +kernel) (by decide +kernel)⟩
theorem zi_Sp : Cond.instantiable R_Sp 6 ∈ zT ∧ Cond.initialized R_Sp ∈ zT := ⟨zT_mk 373 (by decide +kernel) (by decide +kernel), zT_mk 76 (by decide +kernel) (by decide +kernel)⟩
theorem zi_Te : Cond.instantiable R_Te 4 ∈ zT ∧ Cond.initialized R_Te ∈ zT := ⟨zT_mk 406 (by decide +kernel) (by decide +kernel), zT_mk 77 (by decide +kernel) (by decide +kernel)⟩
theorem zi_Mo : Cond.instantiable R_Mo 34 ∈ zT ∧ Cond.initialized R_Mo ∈ zT := ⟨zT_mk 1280 (by decide +kernel) (by decide +kernel), zT_mk 78 (by decide +kernel) (by decide +kernel)⟩
theorem za_int : Cond.arrayClass .int ∈ zT := zT_mk 143 (by decide +kernel) (by decide +kernel)
theorem za_long : Cond.arrayClass .long ∈ zT := zT_mk 1389 (by decide +kernel) (by decide +kernel)
theorem za_boolean : Cond.arrayClass .boolean ∈ zT := zT_mk 1388 (by decide +kernel) (by decide +kernel)
theorem za_char : Cond.arrayClass .char ∈ zT := zT_mk 426 (by decide +kernel) (by decide +kernel)
theorem zo_Natural : Cond.arrayOver (.object "SpeedKernel$Natural") ∈ lw_tbl := List.mem_of_getElem? (i := 255) (by decide +kernel)
theorem zo_Fraction : Cond.arrayOver (.object "SpeedKernel$Fraction") ∈ lw_tbl := List.mem_of_getElem? (i := 168) (by decide +kernel)
theorem zx_oi_linkc : Cond.code ⟨"java/lang/Object", "<init>", "()V"⟩ object_method_1_code 1 none ∈ zT := zT_mk 104 (by decide +kernel) (by decide +kernel)
theorem zx_oi_linki : Cond.instanceMethod ⟨"java/lang/Object", "<init>", "()V"⟩ ∈ zT := zT_mk 103 (by decide +kernel) (by decide +kernel)
theorem zx_max_c : Cond.code ⟨"java/lang/Math", "max", "(II)I"⟩ prog_22_method_65_code 2 (some .int) ∈ zT := zT_mk 576 (by decide +kernel) (by decide +kernel)
theorem zx_max_s : Cond.static ⟨"java/lang/Math", "max", "(II)I"⟩ ∈ zT := zT_mk 575 (by decide +kernel) (by decide +kernel)
theorem zx_min_c : Cond.code ⟨"java/lang/Math", "min", "(II)I"⟩ prog_22_method_69_code 2 (some .int) ∈ zT := zT_mk 565 (by decide +kernel) (by decide +kernel)
theorem zx_min_s : Cond.static ⟨"java/lang/Math", "min", "(II)I"⟩ ∈ zT := zT_mk 564 (by decide +kernel) (by decide +kernel)
theorem zx_copy : Cond.native ⟨"java/lang/System", "arraycopy", "(Ljava/lang/Object;ILjava/lang/Object;II)V"⟩ ∈ lw_tbl ∧ Cond.static ⟨"java/lang/System", "arraycopy", "(Ljava/lang/Object;ILjava/lang/Object;II)V"⟩ ∈ zT ∧ Cond.initialized "java/lang/System" ∈ zT ∧ Cond.initialized "java/lang/Math" ∈ zT := ⟨List.mem_of_getElem? (i := 603) (by decide +kernel), zT_mk 602 (by decide +kernel) (by decide +kernel), zT_mk 81 (by decide +kernel) (by decide +kernel), zT_mk 80 (by decide +kernel) (by decide +kernel)⟩
end
section
/-! the abstract machine: values, cells and locals as whole numbers; what the heap is; the judgement Zg; contracts AT -/
abbrev GG : Type := Nat × Nat × Nat × (Nat → Int32) × va_G × (Nat → ClassId)
abbrev gB (g : GG) : Nat := g.1
abbrev gb (g : GG) : Nat := g.2.1
abbrev gL (g : GG) : Nat := g.2.2.1
abbrev gx (g : GG) : Nat → Int32 := g.2.2.2.1
abbrev gD (g : GG) : va_G := g.2.2.2.2.1
abbrev gA (g : GG) : Nat → ClassId := g.2.2.2.2.2
abbrev VV : Type := Nat × Int
abbrev DD : Type := Nat → Int → Int
abbrev EE : Type := (Nat → Nat → Bool) × Nat × Prop
abbrev vI (x : Int) : VV := (0, x)
abbrev vL (x : Int) : VV := (1, x)
abbrev vD (x : Int) : VV := (2, x)
abbrev vR (a : Nat) : VV := (3, (a : Int))
abbrev vN : VV := (4, 0)
abbrev vU : VV := (5, 0)
abbrev vS : VV := (6, 0)
abbrev R32 (x : Int) : Prop := -2147483648 ≤ x ∧ x ≤ 2147483647
abbrev R64 (x : Int) : Prop := -9223372036854775808 ≤ x ∧ x ≤ 9223372036854775807
def val (g : GG) (v : VV) : Value := match v.1 with
  | 0 => .int (Int32.ofInt v.2)
  | 1 => .long (Int64.ofInt v.2)
  | 2 => .double (UInt64.ofNat v.2.toNat)
  | 3 => .ref (gB g + v.2.toNat)
  | 6 => .ref (gb g)
  | _ => .null
def okv (v : VV) : Prop := match v.1 with
  | 0 => R32 v.2
  | 1 => R64 v.2
  | 2 => 0 ≤ v.2 ∧ v.2 < 18446744073709551616
  | _ => True
theorem val_I (g : GG) (x : Int) : val g (vI x) = .int (Int32.ofInt x) := rfl
theorem val_L (g : GG) (x : Int) : val g (vL x) = .long (Int64.ofInt x) := rfl
theorem val_D (g : GG) (x : Int) : val g (vD x) = .double (UInt64.ofNat x.toNat) := rfl
theorem val_R (g : GG) (a : Nat) : val g (vR a) = .ref (gB g + a) := rfl
theorem val_N (g : GG) : val g vN = .null := rfl
theorem val_S (g : GG) : val g vS = .ref (gb g) := rfl
/-- kinds of cells, of fields -/
def zk (a : Nat) : Nat × Nat × Nat := zKT.getD a (9, 0, 0)
def zft (ci k : Nat) : Nat × Nat := (zFT.getD ci []).getD k (9, 0)
def znf (ci : Nat) : Nat := (zFT.getD ci []).length
def zra (t : Nat) : Nat × Nat × Nat := zRA.getD t (0, 0, 0)
def fval (g : GG) (E : EE) (ci i : Nat) (row : Int → Int) (k : Nat) : Value := match zft ci k with
  | (2, off) => if E.1 i k then .ref (gB g + (i + off)) else .null
  | _ => .int (Int32.ofInt (row k))
def cellE (g : GG) (E : EE) (i : Nat) (row : Int → Int) : va_E := match zk i with
  | (0, ci, _) => .inr (ci, (List.range (znf ci)).map (fun k => fval g E ci i row k))
  | (1, n, _) => .inl (gA g 1, n, .inl (fun j => Int32.ofInt (row j)))
  | (2, n, _) => .inl (gA g 2, n, .inr (.inl (fun j => Int64.ofInt (row j))))
  | (3, n, _) => .inl (gA g 3, n, .inl (fun j => Int32.ofInt (row j)))
  | (4, n, _) => .inl (gA g 4, n, .inl (fun j => Int32.ofInt (row j)))
  | (5, n, t) => .inl (gA g (zra t).1, n, .inr (.inr (.inr (.inr (fun j => if E.1 i j then some (gB g + (i + (zra t).2.1 + (zra t).2.2 * j)) else none)))))
  | _ => .inl (0, 0, .inl (fun _ => 0))
def wld (g : GG) (E : EE) (D : DD) : va_W := (List.range E.2.1).map (fun i => (gB g + i, cellE g E i (D i)))
def ztys (g : GG) : List (ClassId × FieldType) := [(gA g 1, .int), (gA g 2, .long), (gA g 3, .boolean), (gA g 4, .char), (gA g 5, .object "SpeedKernel$Natural"), (gA g 6, .object "SpeedKernel$Fraction")]
abbrev zfr (g : GG) : Nat → Prop := fun q => gB g ≤ q
def okD (E : EE) (D : DD) : Prop := ∀ a, a < E.2.1 → ∀ j : Int, match (zk a).1 with
  | 2 => R64 (D a j)
  | _ => R32 (D a j)
def Hp (g : GG) (E : EE) (D : DD) (H : Heap) : Prop := va_P (gD g) zcl (wld g E D) H ∧ gB g + E.2.1 ≤ H.size ∧ (E.2.2 → H.size = gB g + E.2.1) ∧ okD E D
def zw (D : DD) (a : Nat) (i v : Int) : DD := fun b j => if b = a ∧ j = i then v else D b j
theorem zw_eq (D : DD) (a : Nat) (i v : Int) : zw D a i v a i = v := by simp [zw]
theorem zw_ne {D : DD} {a b : Nat} {i j v : Int} (h : b ≠ a ∨ j ≠ i) : zw D a i v b j = D b j := by
  unfold zw
  rw [if_neg]
  rintro ⟨rfl, rfl⟩
  rcases h with h | h <;> exact h rfl
/-- locals -/
def lrel (g : GG) (nL : Nat) (L : List VV) (ls : Array Slot) : Prop := ls.size = nL ∧ lv_wf ls ∧ ∀ (i : Nat) (v : VV), L[i]? = some v → v.1 ≠ 5 → ls[i]? = some (.val (val g v))
def lkill (L : List VV) (i : Nat) : List VV := match i with
  | 0 => L
  | j + 1 => match L[j]? with
    | some (1, _) => L.set j vU
    | some (2, _) => L.set j vU
    | _ => L
def lst1 (L : List VV) (i : Nat) (v : VV) : List VV := (lkill L i).set i v
def lst2 (L : List VV) (i : Nat) (v : VV) : List VV := ((lkill L i).set i v).set (i + 1) vU
def zcat (v : VV) : Nat := match v.1 with
  | 1 => 2
  | 2 => 2
  | _ => 1
def zcats : List VV → Nat
  | [] => 0
  | v :: l => zcat v + zcats l
theorem zcat_val (g : GG) (v : VV) : (val g v).category = zcat v := by
  obtain ⟨t, x⟩ := v
  match t with
  | 0 => rfl
  | 1 => rfl
  | 2 => rfl
  | 3 => rfl
  | 4 => rfl
  | 5 => rfl
  | 6 => rfl
  | n + 7 => rfl
theorem zcats_sum (g : GG) (l : List VV) : ((l.map (val g)).map fun v => v.category).sum = zcats l := by
  induction l with
  | nil => rfl
  | cons v l ih => simp only [List.map_cons, List.sum_cons, ih, zcats, zcat_val]
/-- method records -/
abbrev mY (M : MI) : MethodName := M.1
abbrev mC (M : MI) : ByteArray := M.2.1
abbrev mL (M : MI) : Nat := M.2.2.1
abbrev mR (M : MI) : Option FieldType := M.2.2.2.1
abbrev mdp (M : MI) : Nat := M.2.2.2.2
def zrm (M : MI) (mc ms : Nat) : Room := { frames := mdp M, cells := mc, slots := ms, locals := 48 * mdp M }
def zws (M : MI) : List Cond := Cond.code (mY M) (mC M) (mL M) (mR M) :: zT
def Kn (g : GG) (U : State) : Prop := va_K (gD g) zcl (ztys g) U ∧ (∀ w ∈ zNest, va_Nw w U) ∧ (∀ C, C = "SpeedKernel$Natural" ∨ C = "SpeedKernel$Fraction" → va_AO C U) ∧ va_X (gb g) (gL g) (gx g) U U.heap ∧ gb g < gB g ∧ gB g ≤ U.heap.size
def Cx (g : GG) (M : MI) (p : Program) (s : State) (m : MethodId) (args : Array Value) (meth : Method) (c : Code) : Prop :=
  p.tables.exec = Jvm.exec ∧ c.code = mC M ∧ c.maxLocals = mL M ∧ meth.sig.returnType = mR M ∧ s.vm.findClass (mY M).cls = some m.cls ∧ (∀ w ∈ zT, w.before args s = true) ∧ meth.locks = false ∧ ((mY M).name = "<init>" → meth.name = "<init>") ∧ Kn g s
def Qp (g : GG) (Q : Option VV → EE → DD → Prop) : Array Value → State → Outcome → State → Prop := fun _ st o t =>
  (∃ (r : Option VV) (E' : EE) (D' : DD), o = .returned (r.map (val g)) ∧ (∀ v, r = some v → okv v) ∧ Hp g E' D' t.heap ∧ Q r E' D') ∧ va_F (zfr g) st t
def zPc (g : GG) (as : List VV) (E : EE) (D : DD) : Array Value → State → Prop := fun v U => v = (as.map (val g)).toArray ∧ (∀ v ∈ as, okv v) ∧ Hp g E D U.heap ∧ Kn g U
/-- the contract: from these numbers, method M returns, with Q; at most mc cells of ms slots are new -/
def AT (g : GG) (M : MI) (mc ms : Nat) (as : List VV) (E : EE) (D : DD) (Q : Option VV → EE → DD → Prop) : Prop :=
  ∀ l, Met l (mY M) (zws M) (zrm M mc ms) (zPc g as E D) (Qp g Q) mc ms (zfr g)
/-- the judgement: from pc, with these locals, this stack, these cells, method M returns with Q -/
def Zg (g : GG) (M : MI) (mc ms : Nat) (Q : Option VV → EE → DD → Prop) (pc : Nat) (L st : List VV) (E : EE) (D : DD) (ca sa : Nat) : Prop :=
  ∀ (p : Program) (l : Launch) (e : Env) (R : Room) (s : State) (m : MethodId) (args : Array Value) (below : List Frame) (meth : Method) (c : Code), Cx g M p s m args meth c →
    (mdp M ≤ R.frames ∧ 48 * mdp M ≤ R.locals ∧ mc ≤ R.cells ∧ ms ≤ R.slots) →
    ∀ (H : Heap) (locs : List Loc) (ls : Array Slot), Hp g E D H → va_S (zfr g) s.heap H locs → lrel g (mL M) L ls → (∀ v ∈ L, okv v) → (∀ v ∈ st, okv v) →
      W p l e R s m args below meth c H locs ca sa (MQ below (Qp g Q) args s mc ms (zfr g)) (F0 m pc ls (st.map (val g)))
/-! rules of the kind that moves only the operands -/
section RPURE
variable {g : GG} {M : MI} {mc ms : Nat} {Q : Option VV → EE → DD → Prop} {pc pc' : Nat} {L st st' : List VV} {E : EE} {D : DD} {ca sa : Nat}
theorem zg_pure (h : ∀ {p : Program} {l : Launch} {e : Env} {R : Room} {s : State} {m : MethodId} {args : Array Value} {below : List Frame} {meth : Method} {c : Code} {H : Heap} {locs : List Loc} {cells slots : Nat} {Q : State → Prop} {ls : Array Slot},
      p.tables.exec = Jvm.exec → c.code = mC M → W p l e R s m args below meth c H locs cells slots Q (F0 m pc' ls (st'.map (val g))) → W p l e R s m args below meth c H locs cells slots Q (F0 m pc ls (st.map (val g))))
    (hok : (∀ v ∈ st, okv v) → ∀ v ∈ st', okv v) (k : Zg g M mc ms Q pc' L st' E D ca sa) : Zg g M mc ms Q pc L st E D ca sa := by
  intro p l e R s m args below meth c C hR H locs ls hH hS hl hL hs
  exact h C.1 C.2.1 (k p l e R s m args below meth c C hR H locs ls hH hS hl hL (hok hs))
theorem zg_ok (k : (∀ v ∈ L, okv v) → (∀ v ∈ st, okv v) → okD E D → Zg g M mc ms Q pc L st E D ca sa) : Zg g M mc ms Q pc L st E D ca sa := by
  intro p l e R s m args below meth c C hR H locs ls hH hS hl hL hs
  exact k hL hs hH.2.2.2 p l e R s m args below meth c C hR H locs ls hH hS hl hL hs
theorem ok1 {v : VV} {st : List VV} (h : ∀ w ∈ v :: st, okv w) : okv v ∧ ∀ w ∈ st, okv w := List.forall_mem_cons.mp h
theorem ok2 {v w : VV} {st : List VV} (h : ∀ x ∈ v :: w :: st, okv x) : okv v ∧ okv w ∧ ∀ x ∈ st, okv x := ⟨(ok1 h).1, ok1 (ok1 h).2⟩
theorem okc {v : VV} {st : List VV} (a : okv v) (h : ∀ w ∈ st, okv w) : ∀ w ∈ v :: st, okv w := List.forall_mem_cons.mpr ⟨a, h⟩
theorem okI {x : Int} {st : List VV} (a : R32 x) (h : ∀ w ∈ st, okv w) : ∀ w ∈ vI x :: st, okv w := okc (v := vI x) a h
theorem okL {x : Int} {st : List VV} (a : R64 x) (h : ∀ w ∈ st, okv w) : ∀ w ∈ vL x :: st, okv w := okc (v := vL x) a h
theorem q_iconst {n : Int} (d : decode (mC M) pc = .ok (.iconst n, 1)) (o : R32 n) (k : Zg g M mc ms Q (pc + 1) L (vI n :: st) E D ca sa) : Zg g M mc ms Q pc L st E D ca sa :=
  zg_pure (fun hx hb kk => lv_iconst hx hb d rfl kk) (fun h => okI o h) k
theorem q_bipush {n : Int} (d : decode (mC M) pc = .ok (.bipush n, 2)) (o : (Int8.ofInt n).toInt32 = Int32.ofInt n ∧ R32 n) (k : Zg g M mc ms Q (pc + 2) L (vI n :: st) E D ca sa) : Zg g M mc ms Q pc L st E D ca sa :=
  zg_pure (fun hx hb kk => lv_bipush hx hb d o.1 kk) (fun h => okI o.2 h) k
theorem q_sipush {n : Int} (d : decode (mC M) pc = .ok (.sipush n, 3)) (o : (Int16.ofInt n).toInt32 = Int32.ofInt n ∧ R32 n) (k : Zg g M mc ms Q (pc + 3) L (vI n :: st) E D ca sa) : Zg g M mc ms Q pc L st E D ca sa :=
  zg_pure (fun hx hb kk => lv_sipush hx hb d o.1 kk) (fun h => okI o.2 h) k
theorem q_lconst {n : Fin 2} {x : Int} (d : decode (mC M) pc = .ok (.lconst n, 1)) (o : Int64.ofNat (n : Nat) = Int64.ofInt x ∧ R64 x) (k : Zg g M mc ms Q (pc + 1) L (vL x :: st) E D ca sa) : Zg g M mc ms Q pc L st E D ca sa :=
  zg_pure (fun hx hb kk => lv_lconst hx hb d o.1 kk) (fun h => okL o.2 h) k
theorem q_iadd {x y : Int} (d : decode (mC M) pc = .ok (.iadd, 1)) (o : R32 (x + y)) (k : Zg g M mc ms Q (pc + 1) L (vI (x + y) :: st) E D ca sa) : Zg g M mc ms Q pc L (vI y :: vI x :: st) E D ca sa :=
  zg_pure (fun hx hb kk => lv_iadd hx hb d (by rw [← Int32.ofInt_add]; exact kk)) (fun h => okI o (ok2 h).2.2) k
theorem q_isub {x y : Int} (d : decode (mC M) pc = .ok (.isub, 1)) (o : R32 (x - y)) (k : Zg g M mc ms Q (pc + 1) L (vI (x - y) :: st) E D ca sa) : Zg g M mc ms Q pc L (vI y :: vI x :: st) E D ca sa :=
  zg_pure (fun hx hb kk => lv_isub hx hb d (by rw [← Int32.ofInt_sub]; exact kk)) (fun h => okI o (ok2 h).2.2) k
theorem q_imul {x y : Int} (d : decode (mC M) pc = .ok (.imul, 1)) (o : R32 (x * y)) (k : Zg g M mc ms Q (pc + 1) L (vI (x * y) :: st) E D ca sa) : Zg g M mc ms Q pc L (vI y :: vI x :: st) E D ca sa :=
  zg_pure (fun hx hb kk => lv_imul hx hb d (by rw [← Int32.ofInt_mul]; exact kk)) (fun h => okI o (ok2 h).2.2) k
theorem q_ladd {x y : Int} (d : decode (mC M) pc = .ok (.ladd, 1)) (o : R64 (x + y)) (k : Zg g M mc ms Q (pc + 1) L (vL (x + y) :: st) E D ca sa) : Zg g M mc ms Q pc L (vL y :: vL x :: st) E D ca sa :=
  zg_pure (fun hx hb kk => lv_ladd hx hb d (by rw [← Int64.ofInt_add]; exact kk)) (fun h => okL o (ok2 h).2.2) k
theorem q_lsub {x y : Int} (d : decode (mC M) pc = .ok (.lsub, 1)) (o : R64 (x - y)) (k : Zg g M mc ms Q (pc + 1) L (vL (x - y) :: st) E D ca sa) : Zg g M mc ms Q pc L (vL y :: vL x :: st) E D ca sa :=
  zg_pure (fun hx hb kk => lv_lsub hx hb d (by rw [← Int64.ofInt_sub]; exact kk)) (fun h => okL o (ok2 h).2.2) k
theorem q_lmul {x y : Int} (d : decode (mC M) pc = .ok (.lmul, 1)) (o : R64 (x * y)) (k : Zg g M mc ms Q (pc + 1) L (vL (x * y) :: st) E D ca sa) : Zg g M mc ms Q pc L (vL y :: vL x :: st) E D ca sa :=
  zg_pure (fun hx hb kk => lv_lmul hx hb d (by rw [← Int64.ofInt_mul]; exact kk)) (fun h => okL o (ok2 h).2.2) k
theorem i32_ti {x : Int} (h : R32 x) : (Int32.ofInt x).toInt = x := Int32.toInt_ofInt_of_le (by omega) (by omega)
theorem i64_ti {x : Int} (h : R64 x) : (Int64.ofInt x).toInt = x := Int64.toInt_ofInt_of_le (by omega) (by omega)
theorem i32_eq {x y : Int} (hx : R32 x) (hy : R32 y) : Int32.ofInt x = Int32.ofInt y ↔ x = y := by rw [← Int32.toInt_inj, i32_ti hx, i32_ti hy]
theorem i64_eq {x y : Int} (hx : R64 x) (hy : R64 y) : Int64.ofInt x = Int64.ofInt y ↔ x = y := by rw [← Int64.toInt_inj, i64_ti hx, i64_ti hy]
theorem i32_le {x y : Int} (hx : R32 x) (hy : R32 y) : Int32.ofInt x ≤ Int32.ofInt y ↔ x ≤ y := by rw [Int32.le_iff_toInt_le, i32_ti hx, i32_ti hy]
theorem i32_lt {x y : Int} (hx : R32 x) (hy : R32 y) : Int32.ofInt x < Int32.ofInt y ↔ x < y := by rw [Int32.lt_iff_toInt_lt, i32_ti hx, i32_ti hy]
theorem i64_lt {x y : Int} (hx : R64 x) (hy : R64 y) : Int64.ofInt x < Int64.ofInt y ↔ x < y := by rw [Int64.lt_iff_toInt_lt, i64_ti hx, i64_ti hy]
theorem i32_0 : (0 : Int32) = Int32.ofInt 0 := rfl
theorem i64_0 : (0 : Int64) = Int64.ofInt 0 := rfl
theorem i32_div {x y : Int} (hx : 0 ≤ x ∧ x ≤ 2147483647) (hy : 0 < y ∧ y ≤ 2147483647) : Int32.ofInt x / Int32.ofInt y = Int32.ofInt (x / y) := by
  have h1 := i32_ti (x := x) (by omega)
  have h2 := i32_ti (x := y) (by omega)
  have h4 : 0 ≤ x / y := Int.ediv_nonneg hx.1 (by omega)
  have h5 : x / y ≤ x := Int.ediv_le_self _ hx.1
  have h3 := i32_ti (x := x / y) (by omega)
  rw [← Int32.toInt_inj, Int32.toInt_div, h1, h2, h3, Int.tdiv_eq_ediv_of_nonneg hx.1]
  exact Int.bmod_eq_of_le (by omega) (by omega)
theorem i64_div {x y : Int} (hx : 0 ≤ x ∧ x ≤ 9223372036854775807) (hy : 0 < y ∧ y ≤ 9223372036854775807) : Int64.ofInt x / Int64.ofInt y = Int64.ofInt (x / y) := by
  have h1 := i64_ti (x := x) (by omega)
  have h2 := i64_ti (x := y) (by omega)
  have h4 : 0 ≤ x / y := Int.ediv_nonneg hx.1 (by omega)
  have h5 : x / y ≤ x := Int.ediv_le_self _ hx.1
  have h3 := i64_ti (x := x / y) (by omega)
  rw [← Int64.toInt_inj, Int64.toInt_div, h1, h2, h3, Int.tdiv_eq_ediv_of_nonneg hx.1]
  exact Int.bmod_eq_of_le (by omega) (by omega)
theorem q_idiv {x y : Int} (d : decode (mC M) pc = .ok (.idiv, 1)) (o : 0 ≤ x ∧ 0 < y) (k : Zg g M mc ms Q (pc + 1) L (vI (x / y) :: st) E D ca sa) : Zg g M mc ms Q pc L (vI y :: vI x :: st) E D ca sa :=
  zg_ok fun _ h _ => by
    have hx : R32 x := (ok2 h).2.1
    have hy : R32 y := (ok2 h).1
    have h4 : 0 ≤ x / y := Int.ediv_nonneg o.1 (by omega)
    have h5 : x / y ≤ x := Int.ediv_le_self _ o.1
    exact zg_pure (fun hx1 hb kk => lv_idiv hx1 hb d (by rw [i32_0, i32_eq hy (by omega)]; omega) (by rw [i32_div (x := x) (y := y) (by omega) (by omega)]; exact kk)) (fun h => okI (by omega) (ok2 h).2.2) k
theorem q_irem {x y : Int} (d : decode (mC M) pc = .ok (.irem, 1)) (o : 0 ≤ x ∧ 0 < y) (k : Zg g M mc ms Q (pc + 1) L (vI (x % y) :: st) E D ca sa) : Zg g M mc ms Q pc L (vI y :: vI x :: st) E D ca sa :=
  zg_ok fun _ h _ => by
    have hx : R32 x := (ok2 h).2.1
    have hy : R32 y := (ok2 h).1
    have h4 : 0 ≤ x % y := Int.emod_nonneg _ (by omega)
    have h5 : x % y < y := Int.emod_lt_of_pos _ o.2
    have e : x % y = x - x / y * y := by have := Int.mul_ediv_add_emod x y; rw [Int.mul_comm] at this; omega
    exact zg_pure (fun hx1 hb kk => lv_irem hx1 hb d (by rw [i32_0, i32_eq hy (by omega)]; omega) (by rw [i32_div (x := x) (y := y) (by omega) (by omega), ← Int32.ofInt_mul, ← Int32.ofInt_sub, ← e]; exact kk)) (fun h => okI (by omega) (ok2 h).2.2) k
theorem q_ldiv {x y : Int} (d : decode (mC M) pc = .ok (.ldiv, 1)) (o : 0 ≤ x ∧ 0 < y) (k : Zg g M mc ms Q (pc + 1) L (vL (x / y) :: st) E D ca sa) : Zg g M mc ms Q pc L (vL y :: vL x :: st) E D ca sa :=
  zg_ok fun _ h _ => by
    have hx : R64 x := (ok2 h).2.1
    have hy : R64 y := (ok2 h).1
    have h4 : 0 ≤ x / y := Int.ediv_nonneg o.1 (by omega)
    have h5 : x / y ≤ x := Int.ediv_le_self _ o.1
    exact zg_pure (fun hx1 hb kk => lv_ldiv hx1 hb d (by rw [i64_0, i64_eq hy (by omega)]; omega) (by rw [i64_div (x := x) (y := y) (by omega) (by omega)]; exact kk)) (fun h => okL (by omega) (ok2 h).2.2) k
theorem q_lrem {x y : Int} (d : decode (mC M) pc = .ok (.lrem, 1)) (o : 0 ≤ x ∧ 0 < y) (k : Zg g M mc ms Q (pc + 1) L (vL (x % y) :: st) E D ca sa) : Zg g M mc ms Q pc L (vL y :: vL x :: st) E D ca sa :=
  zg_ok fun _ h _ => by
    have hx : R64 x := (ok2 h).2.1
    have hy : R64 y := (ok2 h).1
    have h4 : 0 ≤ x % y := Int.emod_nonneg _ (by omega)
    have h5 : x % y < y := Int.emod_lt_of_pos _ o.2
    have e : x % y = x - x / y * y := by have := Int.mul_ediv_add_emod x y; rw [Int.mul_comm] at this; omega
    exact zg_pure (fun hx1 hb kk => lv_lrem hx1 hb d (by rw [i64_0, i64_eq hy (by omega)]; omega) (by rw [i64_div (x := x) (y := y) (by omega) (by omega), ← Int64.ofInt_mul, ← Int64.ofInt_sub, ← e]; exact kk)) (fun h => okL (by omega) (ok2 h).2.2) k
end RPURE
end
section
/-! rules: locals, branches -/
def lassoc (g : GG) (L : List VV) : List (Nat × Value) := (List.range L.length).filterMap fun j => (L[j]?).bind fun w => if w.1 = 5 then none else some (j, val g w)
theorem lassoc_mem {g : GG} {L : List VV} {q : Nat × Value} : q ∈ lassoc g L ↔ ∃ w, L[q.1]? = some w ∧ w.1 ≠ 5 ∧ q.2 = val g w := by
  unfold lassoc
  rw [List.mem_filterMap]
  constructor
  · rintro ⟨j, -, h⟩
    cases hw : L[j]? with
    | none => rw [hw] at h; cases h
    | some w =>
      rw [hw, Option.bind_some] at h
      split at h
      · cases h
      · rename_i hn
        cases h
        exact ⟨w, hw, hn, rfl⟩
  · rintro ⟨w, h1, h2, h3⟩
    refine ⟨q.1, List.mem_range.mpr (List.getElem?_eq_some_iff.mp h1).1, ?_⟩
    rw [h1, Option.bind_some, if_neg h2, ← h3]
theorem lrel_has {g : GG} {nL : Nat} {L : List VV} {ls : Array Slot} (h : lrel g nL L ls) : lv_has ls nL (lassoc g L) := by
  refine ⟨h.1, h.2.1, fun q hq => ?_⟩
  obtain ⟨w, h1, h2, h3⟩ := lassoc_mem.mp hq
  rw [h3]
  exact h.2.2 _ _ h1 h2
theorem lkill_get {L : List VV} {i j : Nat} {w : VV} (h : (lkill L i)[j]? = some w) (hw : w.1 ≠ 5) : L[j]? = some w ∧ (j + 1 = i → zcat w ≠ 2) := by
  unfold lkill at h
  cases i with
  | zero => exact ⟨h, fun q => by omega⟩
  | succ k =>
    simp only at h
    have key : ∀ {x : Nat × Int}, (L.set k vU)[j]? = some w → L[j]? = some w ∧ (j + 1 = k + 1 → zcat w ≠ 2) := by
      intro x hs
      by_cases hjk : k = j
      · subst hjk
        rw [List.getElem?_set] at hs
        split at hs
        · split at hs
          · cases hs; exact absurd rfl hw
          · cases hs
        · exact absurd rfl ‹_›
      · rw [List.getElem?_set_ne hjk] at hs
        exact ⟨hs, fun q => absurd (Nat.succ.inj q).symm hjk⟩
    split at h
    · exact key (x := (0, 0)) h
    · exact key (x := (0, 0)) h
    · rename_i h1 h2
      refine ⟨h, fun q hc => ?_⟩
      have : j = k := Nat.succ.inj q
      subst this
      obtain ⟨t, x⟩ := w
      unfold zcat at hc
      split at hc
      · rename_i e; simp only at e; subst e; exact h1 x h
      · rename_i e; simp only at e; subst e; exact h2 x h
      · cases hc
theorem lrel_st1 {g : GG} {nL : Nat} {L : List VV} {ls : Array Slot} {i : Nat} {v : VV} (h : lrel g nL L ls) (hi : i < nL) (hc : zcat v = 1) :
    ∃ ls', storeLocals ls i (val g v) = some ls' ∧ lrel g nL (lst1 L i v) ls' := by
  obtain ⟨ls', e, h'⟩ := lv_store1 (v := val g v) (lrel_has h) hi (by rw [zcat_val]; exact hc)
  refine ⟨ls', e, h'.1, h'.2.1, fun j w hj hw => ?_⟩
  unfold lst1 at hj
  rw [List.getElem?_set] at hj
  split at hj
  · rename_i hij
    subst hij
    split at hj
    · cases hj
      exact h'.2.2 (i, val g v) List.mem_cons_self
    · cases hj
  · rename_i hij
    obtain ⟨a1, a2⟩ := lkill_get hj hw
    refine h'.2.2 (j, val g w) (List.mem_cons_of_mem _ (List.mem_filter.mpr ⟨lassoc_mem.mpr ⟨w, a1, hw, rfl⟩, ?_⟩))
    have n1 : ¬ j = i := fun q => hij q.symm
    simp only [Bool.and_eq_true, Bool.not_eq_true', beq_eq_false_iff_ne, Bool.and_eq_false_iff, zcat_val]
    refine ⟨n1, ?_⟩
    by_cases q : j + 1 = i
    · exact Or.inr (a2 q)
    · exact Or.inl q
theorem lrel_st2 {g : GG} {nL : Nat} {L : List VV} {ls : Array Slot} {i : Nat} {v : VV} (h : lrel g nL L ls) (hi : i + 1 < nL) (hc : zcat v = 2) :
    ∃ ls', storeLocals ls i (val g v) = some ls' ∧ lrel g nL (lst2 L i v) ls' := by
  obtain ⟨ls', e, h'⟩ := lv_store2 (v := val g v) (lrel_has h) hi (by rw [zcat_val]; exact hc)
  refine ⟨ls', e, h'.1, h'.2.1, fun j w hj hw => ?_⟩
  unfold lst2 at hj
  rw [List.getElem?_set] at hj
  split at hj
  · split at hj
    · cases hj; exact absurd rfl hw
    · cases hj
  · rename_i hij2
    rw [List.getElem?_set] at hj
    split at hj
    · rename_i hij
      subst hij
      split at hj
      · cases hj
        exact h'.2.2 (i, val g v) List.mem_cons_self
      · cases hj
    · rename_i hij
      obtain ⟨a1, a2⟩ := lkill_get hj hw
      refine h'.2.2 (j, val g w) (List.mem_cons_of_mem _ (List.mem_filter.mpr ⟨lassoc_mem.mpr ⟨w, a1, hw, rfl⟩, ?_⟩))
      have n1 : ¬ j = i := fun q => hij q.symm
      have n2 : ¬ j = i + 1 := fun q => hij2 q.symm
      simp only [Bool.and_eq_true, Bool.not_eq_true', beq_eq_false_iff_ne, Bool.and_eq_false_iff, zcat_val]
      refine ⟨n1, n2, ?_⟩
      by_cases q : j + 1 = i
      · exact Or.inr (a2 q)
      · exact Or.inl q
theorem ok_set {L : List VV} {i : Nat} {v : VV} (h : ∀ w ∈ L, okv w) (hv : okv v) : ∀ w ∈ L.set i v, okv w := by
  intro w hw
  rcases List.mem_or_eq_of_mem_set hw with q | q
  · exact h w q
  · rw [q]; exact hv
theorem ok_vU : okv vU := trivial
theorem ok_lkill {L : List VV} {i : Nat} (h : ∀ w ∈ L, okv w) : ∀ w ∈ lkill L i, okv w := by
  unfold lkill
  split
  · exact h
  · split
    · exact ok_set h ok_vU
    · exact ok_set h ok_vU
    · exact h
theorem ok_lst1 {L : List VV} {i : Nat} {v : VV} (h : ∀ w ∈ L, okv w) (hv : okv v) : ∀ w ∈ lst1 L i v, okv w := ok_set (ok_lkill h) hv
theorem ok_lst2 {L : List VV} {i : Nat} {v : VV} (h : ∀ w ∈ L, okv w) (hv : okv v) : ∀ w ∈ lst2 L i v, okv w := ok_set (ok_set (ok_lkill h) hv) ok_vU
section RL
variable {g : GG} {M : MI} {mc ms : Nat} {Q : Option VV → EE → DD → Prop} {pc : Nat} {L L' st : List VV} {E : EE} {D : DD} {ca sa : Nat}
theorem q_forget (i : Nat) (k : Zg g M mc ms Q pc (L.set i vU) st E D ca sa) : Zg g M mc ms Q pc L st E D ca sa := by
  intro p l e R s m args below meth c C hR H locs ls hH hS hl hL hs
  refine k p l e R s m args below meth c C hR H locs ls hH hS ⟨hl.1, hl.2.1, fun j v hj hv => ?_⟩ (ok_set hL ok_vU) hs
  rw [List.getElem?_set] at hj
  split at hj
  · split at hj
    · cases hj; exact absurd rfl hv
    · cases hj
  · exact hl.2.2 j v hj hv
theorem q_L (h : L = L') (k : Zg g M mc ms Q pc L' st E D ca sa) : Zg g M mc ms Q pc L st E D ca sa := h ▸ k
theorem q_iload_n {n : Fin 4} {x : Int} (d : decode (mC M) pc = .ok (.iload_n n, 1)) (hi : L[(n : Nat)]? = some (vI x)) (k : Zg g M mc ms Q (pc + 1) L (vI x :: st) E D ca sa) : Zg g M mc ms Q pc L st E D ca sa := by
  intro p l e R s m args below meth c C hR H locs ls hH hS hl hL hs
  exact lv_iload_n C.1 C.2.1 d rfl (hl.2.2 _ _ hi (Nat.ne_of_beq_eq_false rfl)) (k p l e R s m args below meth c C hR H locs ls hH hS hl hL (okc (hL _ (List.mem_of_getElem? hi)) hs))
theorem q_iload {i : Nat} {x : Int} (d : decode (mC M) pc = .ok (.iload i, 2)) (hi : L[i]? = some (vI x)) (k : Zg g M mc ms Q (pc + 2) L (vI x :: st) E D ca sa) : Zg g M mc ms Q pc L st E D ca sa := by
  intro p l e R s m args below meth c C hR H locs ls hH hS hl hL hs
  exact lv_iload C.1 C.2.1 d (hl.2.2 _ _ hi (Nat.ne_of_beq_eq_false rfl)) (k p l e R s m args below meth c C hR H locs ls hH hS hl hL (okc (hL _ (List.mem_of_getElem? hi)) hs))
theorem q_lload_n {n : Fin 4} {x : Int} (d : decode (mC M) pc = .ok (.lload_n n, 1)) (hi : L[(n : Nat)]? = some (vL x)) (k : Zg g M mc ms Q (pc + 1) L (vL x :: st) E D ca sa) : Zg g M mc ms Q pc L st E D ca sa := by
  intro p l e R s m args below meth c C hR H locs ls hH hS hl hL hs
  exact lv_lload_n C.1 C.2.1 d rfl (hl.2.2 _ _ hi (Nat.ne_of_beq_eq_false rfl)) (k p l e R s m args below meth c C hR H locs ls hH hS hl hL (okc (hL _ (List.mem_of_getElem? hi)) hs))
theorem q_lload {i : Nat} {x : Int} (d : decode (mC M) pc = .ok (.lload i, 2)) (hi : L[i]? = some (vL x)) (k : Zg g M mc ms Q (pc + 2) L (vL x :: st) E D ca sa) : Zg g M mc ms Q pc L st E D ca sa := by
  intro p l e R s m args below meth c C hR H locs ls hH hS hl hL hs
  exact lv_lload C.1 C.2.1 d (hl.2.2 _ _ hi (Nat.ne_of_beq_eq_false rfl)) (k p l e R s m args below meth c C hR H locs ls hH hS hl hL (okc (hL _ (List.mem_of_getElem? hi)) hs))
theorem q_dload_n {n : Fin 4} {x : Int} (d : decode (mC M) pc = .ok (.dload_n n, 1)) (hi : L[(n : Nat)]? = some (vD x)) (k : Zg g M mc ms Q (pc + 1) L (vD x :: st) E D ca sa) : Zg g M mc ms Q pc L st E D ca sa := by
  intro p l e R s m args below meth c C hR H locs ls hH hS hl hL hs
  exact lv_dload_n C.1 C.2.1 d rfl (hl.2.2 _ _ hi (Nat.ne_of_beq_eq_false rfl)) (k p l e R s m args below meth c C hR H locs ls hH hS hl hL (okc (hL _ (List.mem_of_getElem? hi)) hs))
theorem q_dload {i : Nat} {x : Int} (d : decode (mC M) pc = .ok (.dload i, 2)) (hi : L[i]? = some (vD x)) (k : Zg g M mc ms Q (pc + 2) L (vD x :: st) E D ca sa) : Zg g M mc ms Q pc L st E D ca sa := by
  intro p l e R s m args below meth c C hR H locs ls hH hS hl hL hs
  exact lv_dload C.1 C.2.1 d (hl.2.2 _ _ hi (Nat.ne_of_beq_eq_false rfl)) (k p l e R s m args below meth c C hR H locs ls hH hS hl hL (okc (hL _ (List.mem_of_getElem? hi)) hs))
theorem q_aload_n {n : Fin 4} {a : Nat} (d : decode (mC M) pc = .ok (.aload_n n, 1)) (hi : L[(n : Nat)]? = some (vR a)) (k : Zg g M mc ms Q (pc + 1) L (vR a :: st) E D ca sa) : Zg g M mc ms Q pc L st E D ca sa := by
  intro p l e R s m args below meth c C hR H locs ls hH hS hl hL hs
  exact lv_aload_n C.1 C.2.1 d rfl (hl.2.2 _ _ hi (Nat.ne_of_beq_eq_false rfl)) (k p l e R s m args below meth c C hR H locs ls hH hS hl hL (okc (hL _ (List.mem_of_getElem? hi)) hs))
theorem q_aload {i : Nat} {a : Nat} (d : decode (mC M) pc = .ok (.aload i, 2)) (hi : L[i]? = some (vR a)) (k : Zg g M mc ms Q (pc + 2) L (vR a :: st) E D ca sa) : Zg g M mc ms Q pc L st E D ca sa := by
  intro p l e R s m args below meth c C hR H locs ls hH hS hl hL hs
  exact lv_aload C.1 C.2.1 d (hl.2.2 _ _ hi (Nat.ne_of_beq_eq_false rfl)) (k p l e R s m args below meth c C hR H locs ls hH hS hl hL (okc (hL _ (List.mem_of_getElem? hi)) hs))
theorem q_aload_nN {n : Fin 4} (d : decode (mC M) pc = .ok (.aload_n n, 1)) (hi : L[(n : Nat)]? = some vN) (k : Zg g M mc ms Q (pc + 1) L (vN :: st) E D ca sa) : Zg g M mc ms Q pc L st E D ca sa := by
  intro p l e R s m args below meth c C hR H locs ls hH hS hl hL hs
  exact lv_aload_nN C.1 C.2.1 d rfl (hl.2.2 _ _ hi (Nat.ne_of_beq_eq_false rfl)) (k p l e R s m args below meth c C hR H locs ls hH hS hl hL (okc (hL _ (List.mem_of_getElem? hi)) hs))
theorem q_aload_nS {n : Fin 4} (d : decode (mC M) pc = .ok (.aload_n n, 1)) (hi : L[(n : Nat)]? = some vS) (k : Zg g M mc ms Q (pc + 1) L (vS :: st) E D ca sa) : Zg g M mc ms Q pc L st E D ca sa := by
  intro p l e R s m args below meth c C hR H locs ls hH hS hl hL hs
  exact lv_aload_n C.1 C.2.1 d rfl (hl.2.2 _ _ hi (Nat.ne_of_beq_eq_false rfl)) (k p l e R s m args below meth c C hR H locs ls hH hS hl hL (okc (hL _ (List.mem_of_getElem? hi)) hs))
theorem zg_st1 {len i : Nat} {v : VV} (hc : zcat v = 1) (hn : i < mL M)
    (h : ∀ {p : Program} {l : Launch} {e : Env} {R : Room} {s : State} {m : MethodId} {args : Array Value} {below : List Frame} {meth : Method} {c : Code} {H : Heap} {locs : List Loc} {cells slots : Nat} {Q : State → Prop} {ls ls' : Array Slot} {rest : List Value},
      p.tables.exec = Jvm.exec → c.code = mC M → storeLocals ls i (val g v) = some ls' → W p l e R s m args below meth c H locs cells slots Q (F0 m (pc + len) ls' rest) → W p l e R s m args below meth c H locs cells slots Q (F0 m pc ls (val g v :: rest)))
    (k : Zg g M mc ms Q (pc + len) (lst1 L i v) st E D ca sa) : Zg g M mc ms Q pc L (v :: st) E D ca sa := by
  intro p l e R s m args below meth c C hR H locs ls hH hS hl hL hs
  obtain ⟨ls', e', h'⟩ := lrel_st1 hl hn hc
  exact h C.1 C.2.1 e' (k p l e R s m args below meth c C hR H locs ls' hH hS h' (ok_lst1 hL (ok1 hs).1) (ok1 hs).2)
theorem zg_st2 {len i : Nat} {v : VV} (hc : zcat v = 2) (hn : i + 1 < mL M)
    (h : ∀ {p : Program} {l : Launch} {e : Env} {R : Room} {s : State} {m : MethodId} {args : Array Value} {below : List Frame} {meth : Method} {c : Code} {H : Heap} {locs : List Loc} {cells slots : Nat} {Q : State → Prop} {ls ls' : Array Slot} {rest : List Value},
      p.tables.exec = Jvm.exec → c.code = mC M → storeLocals ls i (val g v) = some ls' → W p l e R s m args below meth c H locs cells slots Q (F0 m (pc + len) ls' rest) → W p l e R s m args below meth c H locs cells slots Q (F0 m pc ls (val g v :: rest)))
    (k : Zg g M mc ms Q (pc + len) (lst2 L i v) st E D ca sa) : Zg g M mc ms Q pc L (v :: st) E D ca sa := by
  intro p l e R s m args below meth c C hR H locs ls hH hS hl hL hs
  obtain ⟨ls', e', h'⟩ := lrel_st2 hl hn hc
  exact h C.1 C.2.1 e' (k p l e R s m args below meth c C hR H locs ls' hH hS h' (ok_lst2 hL (ok1 hs).1) (ok1 hs).2)
theorem q_istore_n {n : Fin 4} {x : Int} (d : decode (mC M) pc = .ok (.istore_n n, 1)) (hn : (n : Nat) < mL M) (hl : lst1 L n (vI x) = L') (k : Zg g M mc ms Q (pc + 1) L' st E D ca sa) : Zg g M mc ms Q pc L (vI x :: st) E D ca sa := by
  subst hl
  refine zg_st1 (len := 1) (i := n) rfl hn ?_ k
  intro p l e R s m args below meth c H locs cells slots Q ls ls' rest hexec hb e' kk T hT X
  obtain ⟨t, a, b⟩ := kk T hT X
  rw [val_I] at e'
  refine ⟨t, ?_, b⟩
  rw [val_I]
  jvm_step X.here [X.here.top, ↓top_set X.here.top, hexec, hb, d, e']
  exact a
theorem q_istore {i : Nat} {x : Int} (d : decode (mC M) pc = .ok (.istore i, 2)) (hn : i < mL M) (hl : lst1 L i (vI x) = L') (k : Zg g M mc ms Q (pc + 2) L' st E D ca sa) : Zg g M mc ms Q pc L (vI x :: st) E D ca sa := by
  subst hl
  refine zg_st1 (len := 2) (i := i) rfl hn ?_ k
  intro p l e R s m args below meth c H locs cells slots Q ls ls' rest hexec hb e' kk T hT X
  obtain ⟨t, a, b⟩ := kk T hT X
  rw [val_I] at e'
  refine ⟨t, ?_, b⟩
  rw [val_I]
  jvm_step X.here [X.here.top, ↓top_set X.here.top, hexec, hb, d, e']
  exact a
theorem q_lstore_n {n : Fin 4} {x : Int} (d : decode (mC M) pc = .ok (.lstore_n n, 1)) (hn : (n : Nat) + 1 < mL M) (hl : lst2 L n (vL x) = L') (k : Zg g M mc ms Q (pc + 1) L' st E D ca sa) : Zg g M mc ms Q pc L (vL x :: st) E D ca sa := by
  subst hl
  refine zg_st2 (len := 1) (i := n) rfl hn ?_ k
  intro p l e R s m args below meth c H locs cells slots Q ls ls' rest hexec hb e' kk T hT X
  obtain ⟨t, a, b⟩ := kk T hT X
  rw [val_L] at e'
  refine ⟨t, ?_, b⟩
  rw [val_L]
  jvm_step X.here [X.here.top, ↓top_set X.here.top, hexec, hb, d, e']
  exact a
theorem q_lstore {i : Nat} {x : Int} (d : decode (mC M) pc = .ok (.lstore i, 2)) (hn : i + 1 < mL M) (hl : lst2 L i (vL x) = L') (k : Zg g M mc ms Q (pc + 2) L' st E D ca sa) : Zg g M mc ms Q pc L (vL x :: st) E D ca sa := by
  subst hl
  refine zg_st2 (len := 2) (i := i) rfl hn ?_ k
  intro p l e R s m args below meth c H locs cells slots Q ls ls' rest hexec hb e' kk T hT X
  obtain ⟨t, a, b⟩ := kk T hT X
  rw [val_L] at e'
  refine ⟨t, ?_, b⟩
  rw [val_L]
  jvm_step X.here [X.here.top, ↓top_set X.here.top, hexec, hb, d, e']
  exact a
theorem q_dstore_n {n : Fin 4} {x : Int} (d : decode (mC M) pc = .ok (.dstore_n n, 1)) (hn : (n : Nat) + 1 < mL M) (hl : lst2 L n (vD x) = L') (k : Zg g M mc ms Q (pc + 1) L' st E D ca sa) : Zg g M mc ms Q pc L (vD x :: st) E D ca sa := by
  subst hl
  refine zg_st2 (len := 1) (i := n) rfl hn ?_ k
  intro p l e R s m args below meth c H locs cells slots Q ls ls' rest hexec hb e' kk T hT X
  obtain ⟨t, a, b⟩ := kk T hT X
  rw [val_D] at e'
  refine ⟨t, ?_, b⟩
  rw [val_D]
  jvm_step X.here [X.here.top, ↓top_set X.here.top, hexec, hb, d, Op.dstore_n.sem, e']
  exact a
theorem q_dstore {i : Nat} {x : Int} (d : decode (mC M) pc = .ok (.dstore i, 2)) (hn : i + 1 < mL M) (hl : lst2 L i (vD x) = L') (k : Zg g M mc ms Q (pc + 2) L' st E D ca sa) : Zg g M mc ms Q pc L (vD x :: st) E D ca sa := by
  subst hl
  refine zg_st2 (len := 2) (i := i) rfl hn ?_ k
  intro p l e R s m args below meth c H locs cells slots Q ls ls' rest hexec hb e' kk T hT X
  obtain ⟨t, a, b⟩ := kk T hT X
  rw [val_D] at e'
  refine ⟨t, ?_, b⟩
  rw [val_D]
  jvm_step X.here [X.here.top, ↓top_set X.here.top, hexec, hb, d, Op.dstore.sem, e']
  exact a
theorem q_astore_n {n : Fin 4} {a0 : Nat} (d : decode (mC M) pc = .ok (.astore_n n, 1)) (hn : (n : Nat) < mL M) (hl : lst1 L n (vR a0) = L') (k : Zg g M mc ms Q (pc + 1) L' st E D ca sa) : Zg g M mc ms Q pc L (vR a0 :: st) E D ca sa := by
  subst hl
  refine zg_st1 (len := 1) (i := n) rfl hn ?_ k
  intro p l e R s m args below meth c H locs cells slots Q ls ls' rest hexec hb e' kk T hT X
  obtain ⟨t, a, b⟩ := kk T hT X
  rw [val_R] at e'
  refine ⟨t, ?_, b⟩
  rw [val_R]
  jvm_step X.here [X.here.top, ↓top_set X.here.top, hexec, hb, d, e', Value.isRef]
  exact a
theorem q_astore {i : Nat} {a0 : Nat} (d : decode (mC M) pc = .ok (.astore i, 2)) (hn : i < mL M) (hl : lst1 L i (vR a0) = L') (k : Zg g M mc ms Q (pc + 2) L' st E D ca sa) : Zg g M mc ms Q pc L (vR a0 :: st) E D ca sa := by
  subst hl
  refine zg_st1 (len := 2) (i := i) rfl hn ?_ k
  intro p l e R s m args below meth c H locs cells slots Q ls ls' rest hexec hb e' kk T hT X
  obtain ⟨t, a, b⟩ := kk T hT X
  rw [val_R] at e'
  refine ⟨t, ?_, b⟩
  rw [val_R]
  jvm_step X.here [X.here.top, ↓top_set X.here.top, hexec, hb, d, e', Value.isRef]
  exact a
theorem q_astore_nN {n : Fin 4} (d : decode (mC M) pc = .ok (.astore_n n, 1)) (hn : (n : Nat) < mL M) (hl : lst1 L n vN = L') (k : Zg g M mc ms Q (pc + 1) L' st E D ca sa) : Zg g M mc ms Q pc L (vN :: st) E D ca sa := by
  subst hl
  refine zg_st1 (len := 1) (i := n) rfl hn ?_ k
  intro p l e R s m args below meth c H locs cells slots Q ls ls' rest hexec hb e' kk T hT X
  obtain ⟨t, a, b⟩ := kk T hT X
  rw [val_N] at e'
  refine ⟨t, ?_, b⟩
  rw [val_N]
  jvm_step X.here [X.here.top, ↓top_set X.here.top, hexec, hb, d, e', Value.isRef]
  exact a
theorem q_iinc {i : Nat} {n x : Int} (d : decode (mC M) pc = .ok (.iinc i n, 3)) (hi : L[i]? = some (vI x)) (hn : i < mL M) (o : R32 (x + n)) (hl : lst1 L i (vI (x + n)) = L') (k : Zg g M mc ms Q (pc + 3) L' st E D ca sa) : Zg g M mc ms Q pc L st E D ca sa := by
  subst hl
  intro p l e R s m args below meth c C hR H locs ls hH hS hl hL hs
  obtain ⟨ls', e', h'⟩ := lrel_st1 (v := vI (x + n)) hl hn rfl
  have hg := hl.2.2 _ _ hi (Nat.ne_of_beq_eq_false rfl)
  rw [val_I] at hg e'
  rw [Int32.ofInt_add] at e'
  intro T hT X
  obtain ⟨t, a, b⟩ := k p l e R s m args below meth c C hR H locs ls' hH hS h' (ok_lst1 (v := vI (x + n)) hL o) hs T hT X
  have hexec := C.1
  have hb := C.2.1
  refine ⟨t, ?_, b⟩
  jvm_step X.here [X.here.top, ↓top_set X.here.top, hexec, hb, d, hg, e']
  exact a
/-! branches -/
theorem zg_br {c0 : Prop} {tgt nx : Nat} {stt : List VV} (h : ∀ {p : Program} {l : Launch} {e : Env} {R : Room} {s : State} {m : MethodId} {args : Array Value} {below : List Frame} {meth : Method} {c : Code} {H : Heap} {locs : List Loc} {cells slots : Nat} {Q : State → Prop} {ls : Array Slot},
      p.tables.exec = Jvm.exec → c.code = mC M → (c0 → W p l e R s m args below meth c H locs cells slots Q (F0 m tgt ls (stt.map (val g)))) → (¬ c0 → W p l e R s m args below meth c H locs cells slots Q (F0 m nx ls (stt.map (val g)))) → W p l e R s m args below meth c H locs cells slots Q (F0 m pc ls (st.map (val g))))
    (hok : (∀ v ∈ st, okv v) → ∀ v ∈ stt, okv v) (kt : c0 → Zg g M mc ms Q tgt L stt E D ca sa) (kf : ¬ c0 → Zg g M mc ms Q nx L stt E D ca sa) : Zg g M mc ms Q pc L st E D ca sa := by
  intro p l e R s m args below meth c C hR H locs ls hH hS hl hL hs
  exact h C.1 C.2.1 (fun q => kt q p l e R s m args below meth c C hR H locs ls hH hS hl hL (hok hs)) (fun q => kf q p l e R s m args below meth c C hR H locs ls hH hS hl hL (hok hs))
theorem q_goto {off : Int} {tgt : Nat} (d : decode (mC M) pc = .ok (.goto off, 3)) (ht : (pc : Int) + off = (tgt : Int)) (k : Zg g M mc ms Q tgt L st E D ca sa) : Zg g M mc ms Q pc L st E D ca sa :=
  zg_pure (fun hx hb kk => lv_goto hx hb d ht kk) (fun h => h) k
theorem q_if_eq {off x : Int} {tgt : Nat} (d : decode (mC M) pc = .ok (.ifCond .eq off, 3)) (ht : (pc : Int) + off = (tgt : Int)) (kt : x = 0 → Zg g M mc ms Q tgt L st E D ca sa) (kf : ¬ x = 0 → Zg g M mc ms Q (pc + 3) L st E D ca sa) : Zg g M mc ms Q pc L (vI x :: st) E D ca sa :=
  zg_ok fun _ h _ => zg_br (c0 := x = 0) (fun hx hb a b => lv_if_eq hx hb d ht (fun q => a ((i32_eq (x := x) (y := 0) (ok1 h).1 (by omega)).mp q)) (fun q => b (fun z => q ((i32_eq (x := x) (y := 0) (ok1 h).1 (by omega)).mpr z)))) (fun h => (ok1 h).2) kt kf
theorem q_if_ne {off x : Int} {tgt : Nat} (d : decode (mC M) pc = .ok (.ifCond .ne off, 3)) (ht : (pc : Int) + off = (tgt : Int)) (kt : ¬ x = 0 → Zg g M mc ms Q tgt L st E D ca sa) (kf : x = 0 → Zg g M mc ms Q (pc + 3) L st E D ca sa) : Zg g M mc ms Q pc L (vI x :: st) E D ca sa :=
  zg_ok fun _ h _ => zg_br (c0 := ¬ x = 0) (fun hx hb a b => lv_if_ne hx hb d ht (fun q => a (fun z => q ((i32_eq (x := x) (y := 0) (ok1 h).1 (by omega)).mpr z))) (fun q => b (fun z => z ((i32_eq (x := x) (y := 0) (ok1 h).1 (by omega)).mp q)))) (fun h => (ok1 h).2) kt (fun q => kf (Classical.not_not.mp q))
theorem q_if_lt {off x : Int} {tgt : Nat} (d : decode (mC M) pc = .ok (.ifCond .lt off, 3)) (ht : (pc : Int) + off = (tgt : Int)) (kt : x < 0 → Zg g M mc ms Q tgt L st E D ca sa) (kf : ¬ x < 0 → Zg g M mc ms Q (pc + 3) L st E D ca sa) : Zg g M mc ms Q pc L (vI x :: st) E D ca sa :=
  zg_ok fun _ h _ => zg_br (c0 := x < 0) (fun hx hb a b => lv_if_lt hx hb d ht (fun q => a ((i32_lt (x := x) (y := 0) (ok1 h).1 (by omega)).mp q)) (fun q => b (fun z => q ((i32_lt (x := x) (y := 0) (ok1 h).1 (by omega)).mpr z)))) (fun h => (ok1 h).2) kt kf
theorem q_if_ge {off x : Int} {tgt : Nat} (d : decode (mC M) pc = .ok (.ifCond .ge off, 3)) (ht : (pc : Int) + off = (tgt : Int)) (kt : 0 ≤ x → Zg g M mc ms Q tgt L st E D ca sa) (kf : ¬ 0 ≤ x → Zg g M mc ms Q (pc + 3) L st E D ca sa) : Zg g M mc ms Q pc L (vI x :: st) E D ca sa :=
  zg_ok fun _ h _ => zg_br (c0 := 0 ≤ x) (fun hx hb a b => lv_if_ge hx hb d ht (fun q => a ((i32_le (x := 0) (y := x) (by omega) (ok1 h).1).mp q)) (fun q => b (fun z => q ((i32_le (x := 0) (y := x) (by omega) (ok1 h).1).mpr z)))) (fun h => (ok1 h).2) kt kf
theorem q_if_gt {off x : Int} {tgt : Nat} (d : decode (mC M) pc = .ok (.ifCond .gt off, 3)) (ht : (pc : Int) + off = (tgt : Int)) (kt : 0 < x → Zg g M mc ms Q tgt L st E D ca sa) (kf : ¬ 0 < x → Zg g M mc ms Q (pc + 3) L st E D ca sa) : Zg g M mc ms Q pc L (vI x :: st) E D ca sa :=
  zg_ok fun _ h _ => zg_br (c0 := 0 < x) (fun hx hb a b => lv_if_gt hx hb d ht (fun q => a ((i32_lt (x := 0) (y := x) (by omega) (ok1 h).1).mp q)) (fun q => b (fun z => q ((i32_lt (x := 0) (y := x) (by omega) (ok1 h).1).mpr z)))) (fun h => (ok1 h).2) kt kf
theorem q_if_le {off x : Int} {tgt : Nat} (d : decode (mC M) pc = .ok (.ifCond .le off, 3)) (ht : (pc : Int) + off = (tgt : Int)) (kt : x ≤ 0 → Zg g M mc ms Q tgt L st E D ca sa) (kf : ¬ x ≤ 0 → Zg g M mc ms Q (pc + 3) L st E D ca sa) : Zg g M mc ms Q pc L (vI x :: st) E D ca sa :=
  zg_ok fun _ h _ => zg_br (c0 := x ≤ 0) (fun hx hb a b => lv_if_le hx hb d ht (fun q => a ((i32_le (x := x) (y := 0) (ok1 h).1 (by omega)).mp q)) (fun q => b (fun z => q ((i32_le (x := x) (y := 0) (ok1 h).1 (by omega)).mpr z)))) (fun h => (ok1 h).2) kt kf
theorem q_icmp_eq {off x y : Int} {tgt : Nat} (d : decode (mC M) pc = .ok (.if_icmp .eq off, 3)) (ht : (pc : Int) + off = (tgt : Int)) (kt : x = y → Zg g M mc ms Q tgt L st E D ca sa) (kf : ¬ x = y → Zg g M mc ms Q (pc + 3) L st E D ca sa) : Zg g M mc ms Q pc L (vI y :: vI x :: st) E D ca sa :=
  zg_ok fun _ h _ => zg_br (c0 := x = y) (fun hx hb a b => lv_icmp_eq hx hb d ht (fun q => a ((i32_eq (x := x) (y := y) (ok2 h).2.1 (ok2 h).1).mp q)) (fun q => b (fun z => q ((i32_eq (x := x) (y := y) (ok2 h).2.1 (ok2 h).1).mpr z)))) (fun h => (ok2 h).2.2) kt kf
theorem q_icmp_ne {off x y : Int} {tgt : Nat} (d : decode (mC M) pc = .ok (.if_icmp .ne off, 3)) (ht : (pc : Int) + off = (tgt : Int)) (kt : ¬ x = y → Zg g M mc ms Q tgt L st E D ca sa) (kf : x = y → Zg g M mc ms Q (pc + 3) L st E D ca sa) : Zg g M mc ms Q pc L (vI y :: vI x :: st) E D ca sa :=
  zg_ok fun _ h _ => zg_br (c0 := ¬ x = y) (fun hx hb a b => lv_icmp_ne hx hb d ht (fun q => a (fun z => q ((i32_eq (x := x) (y := y) (ok2 h).2.1 (ok2 h).1).mpr z))) (fun q => b (fun z => z ((i32_eq (x := x) (y := y) (ok2 h).2.1 (ok2 h).1).mp q)))) (fun h => (ok2 h).2.2) kt (fun q => kf (Classical.not_not.mp q))
theorem q_icmp_lt {off x y : Int} {tgt : Nat} (d : decode (mC M) pc = .ok (.if_icmp .lt off, 3)) (ht : (pc : Int) + off = (tgt : Int)) (kt : x < y → Zg g M mc ms Q tgt L st E D ca sa) (kf : ¬ x < y → Zg g M mc ms Q (pc + 3) L st E D ca sa) : Zg g M mc ms Q pc L (vI y :: vI x :: st) E D ca sa :=
  zg_ok fun _ h _ => zg_br (c0 := x < y) (fun hx hb a b => lv_icmp_lt hx hb d ht (fun q => a ((i32_lt (x := x) (y := y) (ok2 h).2.1 (ok2 h).1).mp q)) (fun q => b (fun z => q ((i32_lt (x := x) (y := y) (ok2 h).2.1 (ok2 h).1).mpr z)))) (fun h => (ok2 h).2.2) kt kf
theorem q_icmp_ge {off x y : Int} {tgt : Nat} (d : decode (mC M) pc = .ok (.if_icmp .ge off, 3)) (ht : (pc : Int) + off = (tgt : Int)) (kt : y ≤ x → Zg g M mc ms Q tgt L st E D ca sa) (kf : ¬ y ≤ x → Zg g M mc ms Q (pc + 3) L st E D ca sa) : Zg g M mc ms Q pc L (vI y :: vI x :: st) E D ca sa :=
  zg_ok fun _ h _ => zg_br (c0 := y ≤ x) (fun hx hb a b => lv_icmp_ge hx hb d ht (fun q => a ((i32_le (x := y) (y := x) (ok2 h).1 (ok2 h).2.1).mp q)) (fun q => b (fun z => q ((i32_le (x := y) (y := x) (ok2 h).1 (ok2 h).2.1).mpr z)))) (fun h => (ok2 h).2.2) kt kf
theorem q_icmp_gt {off x y : Int} {tgt : Nat} (d : decode (mC M) pc = .ok (.if_icmp .gt off, 3)) (ht : (pc : Int) + off = (tgt : Int)) (kt : y < x → Zg g M mc ms Q tgt L st E D ca sa) (kf : ¬ y < x → Zg g M mc ms Q (pc + 3) L st E D ca sa) : Zg g M mc ms Q pc L (vI y :: vI x :: st) E D ca sa :=
  zg_ok fun _ h _ => zg_br (c0 := y < x) (fun hx hb a b => lv_icmp_gt hx hb d ht (fun q => a ((i32_lt (x := y) (y := x) (ok2 h).1 (ok2 h).2.1).mp q)) (fun q => b (fun z => q ((i32_lt (x := y) (y := x) (ok2 h).1 (ok2 h).2.1).mpr z)))) (fun h => (ok2 h).2.2) kt kf
theorem q_icmp_le {off x y : Int} {tgt : Nat} (d : decode (mC M) pc = .ok (.if_icmp .le off, 3)) (ht : (pc : Int) + off = (tgt : Int)) (kt : x ≤ y → Zg g M mc ms Q tgt L st E D ca sa) (kf : ¬ x ≤ y → Zg g M mc ms Q (pc + 3) L st E D ca sa) : Zg g M mc ms Q pc L (vI y :: vI x :: st) E D ca sa :=
  zg_ok fun _ h _ => zg_br (c0 := x ≤ y) (fun hx hb a b => lv_icmp_le hx hb d ht (fun q => a ((i32_le (x := x) (y := y) (ok2 h).2.1 (ok2 h).1).mp q)) (fun q => b (fun z => q ((i32_le (x := x) (y := y) (ok2 h).2.1 (ok2 h).1).mpr z)))) (fun h => (ok2 h).2.2) kt kf
def zcmp (x y : Int) : Int := if y < x then 1 else if x = y then 0 else -1
theorem q_lcmp {x y : Int} (d : decode (mC M) pc = .ok (.lcmp, 1)) (k : Zg g M mc ms Q (pc + 1) L (vI (zcmp x y) :: st) E D ca sa) : Zg g M mc ms Q pc L (vL y :: vL x :: st) E D ca sa :=
  zg_ok fun _ h _ => by
    have e : lg_cmp (Int64.ofInt x) (Int64.ofInt y) = Int32.ofInt (zcmp x y) := by
      unfold lg_cmp zcmp
      by_cases h1 : y < x
      · rw [if_pos h1, if_pos ((i64_lt (x := y) (y := x) (ok2 h).1 (ok2 h).2.1).mpr h1)]; rfl
      · rw [if_neg h1, if_neg (fun q => h1 ((i64_lt (x := y) (y := x) (ok2 h).1 (ok2 h).2.1).mp q))]
        by_cases h2 : x = y
        · rw [if_pos h2, if_pos ((i64_eq (x := x) (y := y) (ok2 h).2.1 (ok2 h).1).mpr h2)]; rfl
        · rw [if_neg h2, if_neg (fun q => h2 ((i64_eq (x := x) (y := y) (ok2 h).2.1 (ok2 h).1).mp q))]; rfl
    refine zg_pure (fun hx hb kk => W.lcmp hx hb d (by rw [e]; exact kk)) (fun h => okI ?_ (ok2 h).2.2) k
    unfold zcmp
    split
    · omega
    · split <;> omega
theorem q_dup {v : VV} (d : decode (mC M) pc = .ok (.dup, 1)) (hc : zcat v = 1) (k : Zg g M mc ms Q (pc + 1) L (v :: v :: st) E D ca sa) : Zg g M mc ms Q pc L (v :: st) E D ca sa :=
  zg_pure (fun hx hb kk => lv_dup hx hb d ((zcat_val g v).trans hc) kk) (fun h => okc (ok1 h).1 h) k
theorem q_dup2 {v w : VV} (d : decode (mC M) pc = .ok (.dup2, 1)) (hc : zcat v = 1 ∧ zcat w = 1) (k : Zg g M mc ms Q (pc + 1) L (v :: w :: v :: w :: st) E D ca sa) : Zg g M mc ms Q pc L (v :: w :: st) E D ca sa :=
  zg_pure (fun hx hb kk => lv_dup2_11 hx hb d ((zcat_val g v).trans hc.1) ((zcat_val g w).trans hc.2) kk) (fun h => okc (ok2 h).1 (okc (ok2 h).2.1 h)) k
theorem q_null (d : decode (mC M) pc = .ok (.aconst_null, 1)) (k : Zg g M mc ms Q (pc + 1) L (vN :: st) E D ca sa) : Zg g M mc ms Q pc L st E D ca sa :=
  zg_pure (fun hx hb kk => lv_null hx hb d kk) (fun h => okc (v := vN) trivial h) k
theorem q_ifnonnull {a : Nat} {off : Int} {tgt : Nat} (d : decode (mC M) pc = .ok (.ifnonnull off, 3)) (ht : (pc : Int) + off = (tgt : Int)) (k : Zg g M mc ms Q tgt L st E D ca sa) : Zg g M mc ms Q pc L (vR a :: st) E D ca sa :=
  zg_pure (fun hx hb kk => lv_ifnonnull hx hb d ht kk) (fun h => (ok1 h).2) k
theorem q_ifnonnullN {off : Int} (d : decode (mC M) pc = .ok (.ifnonnull off, 3)) (k : Zg g M mc ms Q (pc + 3) L st E D ca sa) : Zg g M mc ms Q pc L (vN :: st) E D ca sa :=
  zg_pure (fun hx hb kk => lv_ifnonnullN hx hb d kk) (fun h => (ok1 h).2) k
theorem q_ifnull {a : Nat} {off : Int} (d : decode (mC M) pc = .ok (.ifnull off, 3)) (k : Zg g M mc ms Q (pc + 3) L st E D ca sa) : Zg g M mc ms Q pc L (vR a :: st) E D ca sa :=
  zg_pure (fun hx hb kk => lv_ifnull hx hb d kk) (fun h => (ok1 h).2) k
theorem q_ifnullN {off : Int} {tgt : Nat} (d : decode (mC M) pc = .ok (.ifnull off, 3)) (ht : (pc : Int) + off = (tgt : Int)) (k : Zg g M mc ms Q tgt L st E D ca sa) : Zg g M mc ms Q pc L (vN :: st) E D ca sa :=
  zg_pure (fun hx hb kk => lv_ifnullN hx hb d ht kk) (fun h => (ok1 h).2) k
theorem q_tsOut {dflt lo hi x : Int} {offs : Array Int} {len tgt : Nat} (d : decode (mC M) pc = .ok (.tableswitch dflt lo hi offs, len)) (h : x < lo ∨ hi < x) (ht : (pc : Int) + dflt = (tgt : Int)) (k : Zg g M mc ms Q tgt L st E D ca sa) : Zg g M mc ms Q pc L (vI x :: st) E D ca sa :=
  zg_ok fun _ o _ => zg_pure (fun hx hb kk => lv_tableOut hx hb d (by rw [i32_ti (x := x) (ok1 o).1]; exact h) ht kk) (fun h => (ok1 h).2) k
theorem q_tsIn {dflt lo hi x off : Int} {offs : Array Int} {len tgt : Nat} (d : decode (mC M) pc = .ok (.tableswitch dflt lo hi offs, len)) (h : lo ≤ x ∧ x ≤ hi) (ho : offs[(x - lo).toNat]? = some off) (ht : (pc : Int) + off = (tgt : Int)) (k : Zg g M mc ms Q tgt L st E D ca sa) : Zg g M mc ms Q pc L (vI x :: st) E D ca sa :=
  zg_ok fun _ o _ => zg_pure (fun hx hb kk => lv_tableIn hx hb d (by rw [i32_ti (x := x) (ok1 o).1]; omega) (by rw [i32_ti (x := x) (ok1 o).1]; omega) (by rw [i32_ti (x := x) (ok1 o).1]; exact ho) ht kk) (fun h => (ok1 h).2) k
end RL
end
section
/-! rules: bits, conversions, doubles, constants -/
theorem ipow_le {n m : Nat} (h : n ≤ m) : (2 : Int) ^ n ≤ 2 ^ m := by
  have := Nat.pow_le_pow_right (n := 2) (by decide) h
  exact_mod_cast this
theorem i32_mask (x : Int) {m : Int} (k : Nat) (hm : (Int32.ofInt m).toBitVec.toNat = 2 ^ k - 1) (hk : k ≤ 31) : Int32.ofInt x &&& Int32.ofInt m = Int32.ofInt (x % 2 ^ k) := by
  apply Int32.toBitVec_inj.mp
  apply BitVec.eq_of_toNat_eq
  rw [Int32.toBitVec_and, BitVec.toNat_and, hm, Nat.and_two_pow_sub_one_eq_mod]
  show (BitVec.ofInt 32 x).toNat % 2 ^ k = (BitVec.ofInt 32 (x % 2 ^ k)).toNat
  rw [BitVec.toNat_ofInt, BitVec.toNat_ofInt]
  have hd : ((2 : Int) ^ k) ∣ ((2 ^ 32 : Nat) : Int) := by
    refine ⟨2 ^ (32 - k), ?_⟩
    rw [← Int.pow_add, show k + (32 - k) = 32 by omega]; rfl
  have h1 : 0 ≤ x % ((2 ^ 32 : Nat) : Int) := Int.emod_nonneg _ (by decide)
  have hp : (0 : Int) < 2 ^ k := Int.pow_pos (by decide)
  have h2 : 0 ≤ x % 2 ^ k := Int.emod_nonneg _ (by omega)
  have h3 : x % 2 ^ k < 2 ^ k := Int.emod_lt_of_pos _ hp
  have h4 : (2 : Int) ^ k ≤ ((2 ^ 32 : Nat) : Int) := Int.le_of_dvd (by decide) hd
  rw [Int.emod_eq_of_lt h2 (by omega)]
  apply Int.ofNat_inj.mp
  show ((((x % ((2 ^ 32 : Nat) : Int)).toNat % 2 ^ k : Nat)) : Int) = _
  rw [Int.natCast_emod, Int.toNat_of_nonneg h1, Int.toNat_of_nonneg h2]
  show x % ((2 ^ 32 : Nat) : Int) % ((2 ^ k : Nat) : Int) = _
  rw [Int.natCast_pow]
  exact Int.emod_emod_of_dvd x hd
theorem i64_mask (x : Int) {m : Int} (k : Nat) (hm : (Int64.ofInt m).toBitVec.toNat = 2 ^ k - 1) (hk : k ≤ 63) : Int64.ofInt x &&& Int64.ofInt m = Int64.ofInt (x % 2 ^ k) := by
  apply Int64.toBitVec_inj.mp
  apply BitVec.eq_of_toNat_eq
  rw [Int64.toBitVec_and, BitVec.toNat_and, hm, Nat.and_two_pow_sub_one_eq_mod]
  show (BitVec.ofInt 64 x).toNat % 2 ^ k = (BitVec.ofInt 64 (x % 2 ^ k)).toNat
  rw [BitVec.toNat_ofInt, BitVec.toNat_ofInt]
  have hd : ((2 : Int) ^ k) ∣ ((2 ^ 64 : Nat) : Int) := by
    refine ⟨2 ^ (64 - k), ?_⟩
    rw [← Int.pow_add, show k + (64 - k) = 64 by omega]; rfl
  have h1 : 0 ≤ x % ((2 ^ 64 : Nat) : Int) := Int.emod_nonneg _ (by decide)
  have hp : (0 : Int) < 2 ^ k := Int.pow_pos (by decide)
  have h2 : 0 ≤ x % 2 ^ k := Int.emod_nonneg _ (by omega)
  have h3 : x % 2 ^ k < 2 ^ k := Int.emod_lt_of_pos _ hp
  have h4 : (2 : Int) ^ k ≤ ((2 ^ 64 : Nat) : Int) := Int.le_of_dvd (by decide) hd
  rw [Int.emod_eq_of_lt h2 (by omega)]
  apply Int.ofNat_inj.mp
  show ((((x % ((2 ^ 64 : Nat) : Int)).toNat % 2 ^ k : Nat)) : Int) = _
  rw [Int.natCast_emod, Int.toNat_of_nonneg h1, Int.toNat_of_nonneg h2]
  show x % ((2 ^ 64 : Nat) : Int) % ((2 ^ k : Nat) : Int) = _
  rw [Int.natCast_pow]
  exact Int.emod_emod_of_dvd x hd
theorem i64_nat {x : Int} (h : 0 ≤ x ∧ x ≤ 9223372036854775807) : (Int64.ofInt x).toBitVec.toNat = x.toNat := by
  show (BitVec.ofInt 64 x).toNat = _
  rw [BitVec.toNat_ofInt, Int.emod_eq_of_lt h.1 (by show x < 18446744073709551616; omega)]
theorem i32_nat {x : Int} (h : 0 ≤ x ∧ x ≤ 2147483647) : (Int32.ofInt x).toBitVec.toNat = x.toNat := by
  show (BitVec.ofInt 32 x).toNat = _
  rw [BitVec.toNat_ofInt, Int.emod_eq_of_lt h.1 (by show x < 4294967296; omega)]
def zdis (x y : Int) : Prop := 0 ≤ x ∧ 0 ≤ y ∧ ∃ k : Nat, (x % 2 ^ k = 0 ∧ y < 2 ^ k) ∨ (y % 2 ^ k = 0 ∧ x < 2 ^ k)
theorem zdis_or {x y : Int} (h : zdis x y) : ((x.toNat ||| y.toNat : Nat) : Int) = x + y := by
  obtain ⟨hx, hy, k, h⟩ := h
  have key : ∀ {u v : Int}, 0 ≤ u → 0 ≤ v → u % 2 ^ k = 0 → v < 2 ^ k → ((u.toNat ||| v.toNat : Nat) : Int) = u + v := by
    intro u v hu hv h1 h2
    have e : u = 2 ^ k * (u / 2 ^ k) := by have := Int.mul_ediv_add_emod u (2 ^ k); omega
    have hp : (0 : Int) < 2 ^ k := Int.pow_pos (by decide)
    have h3 : 0 ≤ u / 2 ^ k := Int.ediv_nonneg hu (by omega)
    have e2 : u.toNat = 2 ^ k * (u / 2 ^ k).toNat := by
      apply Int.ofNat_inj.mp
      rw [Int.toNat_of_nonneg hu, Int.natCast_mul, Int.natCast_pow, Int.toNat_of_nonneg h3]
      exact e
    have h4 : v.toNat < 2 ^ k := by
      apply Int.ofNat_lt.mp
      rw [Int.toNat_of_nonneg hv, Int.natCast_pow]
      exact h2
    rw [e2, ← Nat.two_pow_add_eq_or_of_lt h4, ← e2]
    omega
  rcases h with ⟨h1, h2⟩ | ⟨h1, h2⟩
  · exact key hx hy h1 h2
  · rw [Nat.or_comm, key hy hx h1 h2, Int.add_comm]
theorem i64_or {x y : Int} (h : zdis x y) (hx : R64 x) (hy : R64 y) (hz : R64 (x + y)) : Int64.ofInt x ||| Int64.ofInt y = Int64.ofInt (x + y) := by
  have h0 := h.1
  have h1 := h.2.1
  apply Int64.toBitVec_inj.mp
  apply BitVec.eq_of_toNat_eq
  rw [Int64.toBitVec_or, BitVec.toNat_or, i64_nat ⟨h0, hx.2⟩, i64_nat ⟨h1, hy.2⟩, i64_nat ⟨by omega, hz.2⟩]
  apply Int.ofNat_inj.mp
  rw [zdis_or h]
  omega
theorem i32_or {x y : Int} (h : zdis x y) (hx : R32 x) (hy : R32 y) (hz : R32 (x + y)) : Int32.ofInt x ||| Int32.ofInt y = Int32.ofInt (x + y) := by
  have h0 := h.1
  have h1 := h.2.1
  apply Int32.toBitVec_inj.mp
  apply BitVec.eq_of_toNat_eq
  rw [Int32.toBitVec_or, BitVec.toNat_or, i32_nat ⟨h0, hx.2⟩, i32_nat ⟨h1, hy.2⟩, i32_nat ⟨by omega, hz.2⟩]
  apply Int.ofNat_inj.mp
  rw [zdis_or h]
  omega
theorem zsh64 : ∀ n, n < 64 → ((((Int32.ofInt (n : Nat)).toInt64 &&& 63).toBitVec).smod 64).toNat = n := by decide +kernel
theorem zsh32 : ∀ n, n < 32 → (((Int32.ofInt (n : Nat) &&& 31).toBitVec).smod 32).toNat = n := by decide +kernel
theorem mulmod (x p M : Int) : x % M * p % M = x * p % M := by
  rw [Int.mul_emod, Int.emod_emod_of_dvd _ (Int.dvd_refl M), ← Int.mul_emod]
theorem i64_shl (x : Int) {s : Int} (hs : 0 ≤ s ∧ s < 64) : Int64.ofInt x <<< ((Int32.ofInt s).toInt64 &&& 63) = Int64.ofInt (x * 2 ^ s.toNat) := by
  have e := zsh64 s.toNat (by omega)
  rw [Int.toNat_of_nonneg hs.1] at e
  apply Int64.toBitVec_inj.mp
  show (BitVec.ofInt 64 x) <<< ((((Int32.ofInt s).toInt64 &&& 63).toBitVec).smod 64).toNat = BitVec.ofInt 64 (x * 2 ^ s.toNat)
  rw [e]
  apply BitVec.eq_of_toNat_eq
  rw [BitVec.toNat_shiftLeft, Nat.shiftLeft_eq, BitVec.toNat_ofInt, BitVec.toNat_ofInt]
  apply Int.ofNat_inj.mp
  have h1 : 0 ≤ x % ((2 ^ 64 : Nat) : Int) := Int.emod_nonneg _ (by decide)
  have h2 : 0 ≤ (x * 2 ^ s.toNat) % ((2 ^ 64 : Nat) : Int) := Int.emod_nonneg _ (by decide)
  rw [Int.natCast_emod, Int.natCast_mul, Int.toNat_of_nonneg h1, Int.toNat_of_nonneg h2, Int.natCast_pow]
  exact mulmod x (2 ^ s.toNat) _
theorem i32_shl (x : Int) {s : Int} (hs : 0 ≤ s ∧ s < 32) : Int32.ofInt x <<< (Int32.ofInt s &&& 31) = Int32.ofInt (x * 2 ^ s.toNat) := by
  have e := zsh32 s.toNat (by omega)
  rw [Int.toNat_of_nonneg hs.1] at e
  apply Int32.toBitVec_inj.mp
  show (BitVec.ofInt 32 x) <<< (((Int32.ofInt s &&& 31).toBitVec).smod 32).toNat = BitVec.ofInt 32 (x * 2 ^ s.toNat)
  rw [e]
  apply BitVec.eq_of_toNat_eq
  rw [BitVec.toNat_shiftLeft, Nat.shiftLeft_eq, BitVec.toNat_ofInt, BitVec.toNat_ofInt]
  apply Int.ofNat_inj.mp
  have h1 : 0 ≤ x % ((2 ^ 32 : Nat) : Int) := Int.emod_nonneg _ (by decide)
  have h2 : 0 ≤ (x * 2 ^ s.toNat) % ((2 ^ 32 : Nat) : Int) := Int.emod_nonneg _ (by decide)
  rw [Int.natCast_emod, Int.natCast_mul, Int.toNat_of_nonneg h1, Int.toNat_of_nonneg h2, Int.natCast_pow]
  exact mulmod x (2 ^ s.toNat) _
theorem ediv_R {x M : Int} (n : Nat) (hM : 0 ≤ M) (h : -M ≤ x ∧ x ≤ M) : -M ≤ x / 2 ^ n ∧ x / 2 ^ n ≤ M := by
  have hp : (0 : Int) < 2 ^ n := Int.pow_pos (by decide)
  constructor
  · apply (Int.le_ediv_iff_mul_le hp).mpr
    have : -M * 2 ^ n ≤ -M * 1 := Int.mul_le_mul_of_nonpos_left (by omega) (by omega)
    omega
  · apply Int.le_of_lt_add_one
    apply (Int.ediv_lt_iff_lt_mul hp).mpr
    have : (M + 1) * 1 ≤ (M + 1) * 2 ^ n := Int.mul_le_mul_of_nonneg_left (by omega) (by omega)
    omega
theorem i64_shr {x : Int} (hx : R64 x) {s : Int} (hs : 0 ≤ s ∧ s < 64) : Int64.ofInt x >>> ((Int32.ofInt s).toInt64 &&& 63) = Int64.ofInt (x / 2 ^ s.toNat) := by
  have e := zsh64 s.toNat (by omega)
  rw [Int.toNat_of_nonneg hs.1] at e
  apply Int64.toInt_inj.mp
  have hb := ediv_R s.toNat (M := 9223372036854775808) (x := x) (by decide) (by omega)
  have hb2 : x / 2 ^ s.toNat ≤ 9223372036854775807 := by
    have hp : (0 : Int) < 2 ^ s.toNat := Int.pow_pos (by decide)
    apply Int.le_of_lt_add_one
    apply (Int.ediv_lt_iff_lt_mul hp).mpr
    have : (9223372036854775808 : Int) * 1 ≤ 9223372036854775808 * 2 ^ s.toNat := Int.mul_le_mul_of_nonneg_left (by omega) (by omega)
    omega
  rw [i64_ti (x := x / 2 ^ s.toNat) ⟨by omega, hb2⟩]
  show ((Int64.ofInt x).toBitVec.sshiftRight ((((Int32.ofInt s).toInt64 &&& 63).toBitVec).smod 64).toNat).toInt = _
  rw [e, BitVec.toInt_sshiftRight, Int.shiftRight_eq_div_pow]
  show (Int64.ofInt x).toInt / _ = _
  rw [i64_ti hx]
  first | rfl | rw [Int.natCast_pow]; rfl
theorem i32_shr {x : Int} (hx : R32 x) {s : Int} (hs : 0 ≤ s ∧ s < 32) : Int32.ofInt x >>> (Int32.ofInt s &&& 31) = Int32.ofInt (x / 2 ^ s.toNat) := by
  have e := zsh32 s.toNat (by omega)
  rw [Int.toNat_of_nonneg hs.1] at e
  apply Int32.toInt_inj.mp
  have hb := ediv_R s.toNat (M := 2147483648) (x := x) (by decide) (by omega)
  have hb2 : x / 2 ^ s.toNat ≤ 2147483647 := by
    have hp : (0 : Int) < 2 ^ s.toNat := Int.pow_pos (by decide)
    apply Int.le_of_lt_add_one
    apply (Int.ediv_lt_iff_lt_mul hp).mpr
    have : (2147483648 : Int) * 1 ≤ 2147483648 * 2 ^ s.toNat := Int.mul_le_mul_of_nonneg_left (by omega) (by omega)
    omega
  rw [i32_ti (x := x / 2 ^ s.toNat) ⟨by omega, hb2⟩]
  show ((Int32.ofInt x).toBitVec.sshiftRight (((Int32.ofInt s &&& 31).toBitVec).smod 32).toNat).toInt = _
  rw [e, BitVec.toInt_sshiftRight, Int.shiftRight_eq_div_pow]
  show (Int32.ofInt x).toInt / _ = _
  rw [i32_ti hx]
  first | rfl | rw [Int.natCast_pow]; rfl
def zi2d (x : Int) : Int := ((FP.i2d (Int32.ofInt x)).toNat : Int)
def zl2d (x : Int) : Int := ((FP.l2d (Int64.ofInt x)).toNat : Int)
def zdu (x : Int) : UInt64 := UInt64.ofNat x.toNat
def zdadd (x y : Int) : Int := ((FP.dadd (zdu x) (zdu y)).toNat : Int)
def zdmul (x y : Int) : Int := ((FP.dmul (zdu x) (zdu y)).toNat : Int)
def zddiv (x y : Int) : Int := ((FP.ddiv (zdu x) (zdu y)).toNat : Int)
def zdcmp (op : CmpOp) (x y : Int) : Int := (Op.cmpValue (FP.dcmp (zdu x) (zdu y)) op).toInt
theorem zdu_of (u : UInt64) : zdu ((u.toNat : Nat) : Int) = u := by unfold zdu; rw [Int.toNat_natCast, UInt64.ofNat_toNat]
theorem okD_of (u : UInt64) : 0 ≤ ((u.toNat : Nat) : Int) ∧ ((u.toNat : Nat) : Int) < 18446744073709551616 := by have := u.toNat_lt; omega
section RB
variable {g : GG} {M : MI} {mc ms : Nat} {Q : Option VV → EE → DD → Prop} {pc : Nat} {L st : List VV} {E : EE} {D : DD} {ca sa : Nat}
theorem q_iand {x m : Int} (n : Nat) (d : decode (mC M) pc = .ok (.iand, 1)) (hm : (Int32.ofInt m).toBitVec.toNat = 2 ^ n - 1 ∧ n ≤ 31) (k : Zg g M mc ms Q (pc + 1) L (vI (x % 2 ^ n) :: st) E D ca sa) : Zg g M mc ms Q pc L (vI m :: vI x :: st) E D ca sa := by
  refine zg_pure (fun hx hb kk => lv_iand hx hb d (by rw [i32_mask x n hm.1 hm.2]; exact kk)) (fun h => okI ?_ (ok2 h).2.2) k
  have hp : (0 : Int) < 2 ^ n := Int.pow_pos (by decide)
  have h2 : 0 ≤ x % 2 ^ n := Int.emod_nonneg _ (by omega)
  have h3 : x % 2 ^ n < 2 ^ n := Int.emod_lt_of_pos _ hp
  have h4 : (2 : Int) ^ n ≤ 2 ^ 31 := ipow_le hm.2
  omega
theorem q_land {x m : Int} (n : Nat) (d : decode (mC M) pc = .ok (.land, 1)) (hm : (Int64.ofInt m).toBitVec.toNat = 2 ^ n - 1 ∧ n ≤ 63) (k : Zg g M mc ms Q (pc + 1) L (vL (x % 2 ^ n) :: st) E D ca sa) : Zg g M mc ms Q pc L (vL m :: vL x :: st) E D ca sa := by
  refine zg_pure (fun hx hb kk => lv_land hx hb d (by rw [i64_mask x n hm.1 hm.2]; exact kk)) (fun h => okL ?_ (ok2 h).2.2) k
  have hp : (0 : Int) < 2 ^ n := Int.pow_pos (by decide)
  have h2 : 0 ≤ x % 2 ^ n := Int.emod_nonneg _ (by omega)
  have h3 : x % 2 ^ n < 2 ^ n := Int.emod_lt_of_pos _ hp
  have h4 : (2 : Int) ^ n ≤ 2 ^ 63 := ipow_le hm.2
  omega
theorem q_lor {x y : Int} (d : decode (mC M) pc = .ok (.lor, 1)) (o : zdis x y ∧ R64 (x + y)) (k : Zg g M mc ms Q (pc + 1) L (vL (x + y) :: st) E D ca sa) : Zg g M mc ms Q pc L (vL y :: vL x :: st) E D ca sa :=
  zg_ok fun _ h _ => zg_pure (fun hx hb kk => lv_lor hx hb d (by rw [i64_or o.1 (ok2 h).2.1 (ok2 h).1 o.2]; exact kk)) (fun h => okL o.2 (ok2 h).2.2) k
theorem q_ior {x y : Int} (d : decode (mC M) pc = .ok (.ior, 1)) (o : zdis x y ∧ R32 (x + y)) (k : Zg g M mc ms Q (pc + 1) L (vI (x + y) :: st) E D ca sa) : Zg g M mc ms Q pc L (vI y :: vI x :: st) E D ca sa :=
  zg_ok fun _ h _ => zg_pure (fun hx hb kk => lv_ior hx hb d (by rw [i32_or o.1 (ok2 h).2.1 (ok2 h).1 o.2]; exact kk)) (fun h => okI o.2 (ok2 h).2.2) k
theorem q_lshl {x s : Int} (d : decode (mC M) pc = .ok (.lshl, 1)) (o : (0 ≤ s ∧ s < 64) ∧ R64 (x * 2 ^ s.toNat)) (k : Zg g M mc ms Q (pc + 1) L (vL (x * 2 ^ s.toNat) :: st) E D ca sa) : Zg g M mc ms Q pc L (vI s :: vL x :: st) E D ca sa :=
  zg_pure (fun hx hb kk => lv_lshl hx hb d (i64_shl x o.1) kk) (fun h => okL o.2 (ok2 h).2.2) k
theorem q_ishl {x s : Int} (d : decode (mC M) pc = .ok (.ishl, 1)) (o : (0 ≤ s ∧ s < 32) ∧ R32 (x * 2 ^ s.toNat)) (k : Zg g M mc ms Q (pc + 1) L (vI (x * 2 ^ s.toNat) :: st) E D ca sa) : Zg g M mc ms Q pc L (vI s :: vI x :: st) E D ca sa :=
  zg_pure (fun hx hb kk => lv_ishl hx hb d (by rw [i32_shl x o.1]; exact kk)) (fun h => okI o.2 (ok2 h).2.2) k
theorem q_lshr {x s : Int} (d : decode (mC M) pc = .ok (.lshr, 1)) (o : 0 ≤ s ∧ s < 64) (k : Zg g M mc ms Q (pc + 1) L (vL (x / 2 ^ s.toNat) :: st) E D ca sa) : Zg g M mc ms Q pc L (vI s :: vL x :: st) E D ca sa :=
  zg_ok fun _ h _ => by
    have hr : R64 x := (ok2 h).2.1
    refine zg_pure (fun hx hb kk => lv_lshr hx hb d (i64_shr hr o) kk) (fun h => okL ?_ (ok2 h).2.2) k
    have hb := ediv_R s.toNat (M := 9223372036854775808) (x := x) (by decide) (by omega)
    have hp : (0 : Int) < 2 ^ s.toNat := Int.pow_pos (by decide)
    refine ⟨by omega, Int.le_of_lt_add_one ((Int.ediv_lt_iff_lt_mul hp).mpr ?_)⟩
    have : (9223372036854775808 : Int) * 1 ≤ 9223372036854775808 * 2 ^ s.toNat := Int.mul_le_mul_of_nonneg_left (by omega) (by omega)
    omega
theorem q_ishr {x s : Int} (d : decode (mC M) pc = .ok (.ishr, 1)) (o : 0 ≤ s ∧ s < 32) (k : Zg g M mc ms Q (pc + 1) L (vI (x / 2 ^ s.toNat) :: st) E D ca sa) : Zg g M mc ms Q pc L (vI s :: vI x :: st) E D ca sa :=
  zg_ok fun _ h _ => by
    have hr : R32 x := (ok2 h).2.1
    refine zg_pure (fun hx hb kk => lv_ishr hx hb d (by rw [i32_shr hr o]; exact kk)) (fun h => okI ?_ (ok2 h).2.2) k
    have hb := ediv_R s.toNat (M := 2147483648) (x := x) (by decide) (by omega)
    have hp : (0 : Int) < 2 ^ s.toNat := Int.pow_pos (by decide)
    refine ⟨by omega, Int.le_of_lt_add_one ((Int.ediv_lt_iff_lt_mul hp).mpr ?_)⟩
    have : (2147483648 : Int) * 1 ≤ 2147483648 * 2 ^ s.toNat := Int.mul_le_mul_of_nonneg_left (by omega) (by omega)
    omega
theorem q_i2l {x : Int} (d : decode (mC M) pc = .ok (.i2l, 1)) (k : Zg g M mc ms Q (pc + 1) L (vL x :: st) E D ca sa) : Zg g M mc ms Q pc L (vI x :: st) E D ca sa :=
  zg_ok fun _ h _ => by
    have hr : R32 x := (ok1 h).1
    exact zg_pure (fun hx hb kk => lv_i2l hx hb d (Int32.toInt64_ofInt (by show (-2147483648 : Int) ≤ x; omega) (by show x ≤ (2147483647 : Int); omega)) kk) (fun h => okL (by omega) (ok1 h).2) k
theorem q_l2i {x : Int} (d : decode (mC M) pc = .ok (.l2i, 1)) (o : R32 x) (k : Zg g M mc ms Q (pc + 1) L (vI x :: st) E D ca sa) : Zg g M mc ms Q pc L (vL x :: st) E D ca sa :=
  zg_pure (fun hx hb kk => lv_l2i hx hb d Int64.toInt32_ofInt kk) (fun h => okI o (ok1 h).2) k
theorem q_i2c {x : Int} (d : decode (mC M) pc = .ok (.i2c, 1)) (o : 0 ≤ x ∧ x < 65536) (k : Zg g M mc ms Q (pc + 1) L (vI x :: st) E D ca sa) : Zg g M mc ms Q pc L (vI x :: st) E D ca sa := by
  have e : ((Int32.ofInt x).toUInt32 % 65536).toInt32 = Int32.ofInt x := by
    rw [pk_char, i32_nat (by omega), Nat.mod_eq_of_lt (by omega)]
    show Int32.ofNat x.toNat = _
    rw [← Int32.ofInt_eq_ofNat, Int.toNat_of_nonneg o.1]
  exact zg_pure (fun hx hb kk => lv_i2c hx hb d e kk) (fun h => h) k
theorem q_i2d {x : Int} (d : decode (mC M) pc = .ok (.i2d, 1)) (k : Zg g M mc ms Q (pc + 1) L (vD (zi2d x) :: st) E D ca sa) : Zg g M mc ms Q pc L (vI x :: st) E D ca sa :=
  zg_pure (fun hx hb kk => lv_i2d hx hb d (by rw [show FP.i2d (Int32.ofInt x) = zdu (zi2d x) from (zdu_of _).symm]; exact kk)) (fun h => okc (v := vD (zi2d x)) (okD_of _) (ok1 h).2) k
theorem q_l2d {x : Int} (d : decode (mC M) pc = .ok (.l2d, 1)) (k : Zg g M mc ms Q (pc + 1) L (vD (zl2d x) :: st) E D ca sa) : Zg g M mc ms Q pc L (vL x :: st) E D ca sa :=
  zg_pure (fun hx hb kk => lv_l2d hx hb d (by rw [show FP.l2d (Int64.ofInt x) = zdu (zl2d x) from (zdu_of _).symm]; exact kk)) (fun h => okc (v := vD (zl2d x)) (okD_of _) (ok1 h).2) k
theorem q_dadd {x y : Int} (d : decode (mC M) pc = .ok (.dadd, 1)) (o : vf_n64 (FP.dadd (zdu x) (zdu y))) (k : Zg g M mc ms Q (pc + 1) L (vD (zdadd x y) :: st) E D ca sa) : Zg g M mc ms Q pc L (vD y :: vD x :: st) E D ca sa :=
  zg_pure (fun hx hb kk => lv_dadd hx hb d o (by rw [show FP.dadd (UInt64.ofNat x.toNat) (UInt64.ofNat y.toNat) = zdu (zdadd x y) from (zdu_of _).symm]; exact kk)) (fun h => okc (v := vD (zdadd x y)) (okD_of _) (ok2 h).2.2) k
theorem q_dmul {x y : Int} (d : decode (mC M) pc = .ok (.dmul, 1)) (o : vf_n64 (FP.dmul (zdu x) (zdu y))) (k : Zg g M mc ms Q (pc + 1) L (vD (zdmul x y) :: st) E D ca sa) : Zg g M mc ms Q pc L (vD y :: vD x :: st) E D ca sa :=
  zg_pure (fun hx hb kk => lv_dmul hx hb d o (by rw [show FP.dmul (UInt64.ofNat x.toNat) (UInt64.ofNat y.toNat) = zdu (zdmul x y) from (zdu_of _).symm]; exact kk)) (fun h => okc (v := vD (zdmul x y)) (okD_of _) (ok2 h).2.2) k
theorem q_ddiv {x y : Int} (d : decode (mC M) pc = .ok (.ddiv, 1)) (o : vf_n64 (FP.ddiv (zdu x) (zdu y))) (k : Zg g M mc ms Q (pc + 1) L (vD (zddiv x y) :: st) E D ca sa) : Zg g M mc ms Q pc L (vD y :: vD x :: st) E D ca sa :=
  zg_pure (fun hx hb kk => lv_ddiv hx hb d o (by rw [show FP.ddiv (UInt64.ofNat x.toNat) (UInt64.ofNat y.toNat) = zdu (zddiv x y) from (zdu_of _).symm]; exact kk)) (fun h => okc (v := vD (zddiv x y)) (okD_of _) (ok2 h).2.2) k
theorem q_dcmp {x y : Int} {op : CmpOp} (d : decode (mC M) pc = .ok (.dcmp op, 1)) (k : Zg g M mc ms Q (pc + 1) L (vI (zdcmp op x y) :: st) E D ca sa) : Zg g M mc ms Q pc L (vD y :: vD x :: st) E D ca sa := by
  refine zg_pure (fun hx hb kk => lv_dcmp hx hb d (by rw [show Op.cmpValue (FP.dcmp (UInt64.ofNat x.toNat) (UInt64.ofNat y.toNat)) op = Int32.ofInt (zdcmp op x y) from (Int32.ofInt_toInt _).symm]; exact kk)) (fun h => okI ?_ (ok2 h).2.2) k
  have h1 := (Op.cmpValue (FP.dcmp (zdu x) (zdu y)) op).le_toInt
  have h2 := (Op.cmpValue (FP.dcmp (zdu x) (zdu y)) op).toInt_lt
  unfold zdcmp
  omega
theorem q_dconst0 (d : decode (mC M) pc = .ok (.dconst 0, 1)) (k : Zg g M mc ms Q (pc + 1) L (vD 0 :: st) E D ca sa) : Zg g M mc ms Q pc L st E D ca sa :=
  zg_pure (fun hx hb kk => lv_dconst0 hx hb d kk) (fun h => okc (v := vD 0) (show (0 : Int) ≤ 0 ∧ (0 : Int) < 18446744073709551616 by decide) h) k
theorem q_ldc {i : Nat} {x : Int} (hl : Cond.constant (mY M).cls i (Int32.ofInt x) ∈ zT) (d : decode (mC M) pc = .ok (.ldc i, 2)) (o : R32 x) (k : Zg g M mc ms Q (pc + 2) L (vI x :: st) E D ca sa) : Zg g M mc ms Q pc L st E D ca sa := by
  intro p l e R s m args below meth c C hR H locs ls hH hS hl' hL hs
  exact lv_ldc C.1 C.2.1 C.2.2.2.2.1 (C.2.2.2.2.2.1 _ hl) d (k p l e R s m args below meth c C hR H locs ls hH hS hl' hL (okI o hs))
theorem q_ldc2 {i : Nat} {x : Int} (hl : Cond.constantLong (mY M).cls i (Int64.ofInt x) ∈ zT) (d : decode (mC M) pc = .ok (.ldc2_w i, 3)) (o : R64 x) (k : Zg g M mc ms Q (pc + 3) L (vL x :: st) E D ca sa) : Zg g M mc ms Q pc L st E D ca sa := by
  intro p l e R s m args below meth c C hR H locs ls hH hS hl' hL hs
  exact lv_ldc2 C.1 C.2.1 C.2.2.2.2.1 (C.2.2.2.2.2.1 _ hl) d (k p l e R s m args below meth c C hR H locs ls hH hS hl' hL (okL o hs))
theorem q_ldc2d {i : Nat} {x : Int} (hl : Cond.constantDouble (mY M).cls i (zdu x) ∈ zT) (d : decode (mC M) pc = .ok (.ldc2_w i, 3)) (o : 0 ≤ x ∧ x < 18446744073709551616) (k : Zg g M mc ms Q (pc + 3) L (vD x :: st) E D ca sa) : Zg g M mc ms Q pc L st E D ca sa := by
  intro p l e R s m args below meth c C hR H locs ls hH hS hl' hL hs
  exact lv_ldc2d C.1 C.2.1 C.2.2.2.2.1 (C.2.2.2.2.2.1 _ hl) d (k p l e R s m args below meth c C hR H locs ls hH hS hl' hL (okc (v := vD x) o hs))
end RB
end
section
/-! rules: fields, arrays -/
def ZC (ci : Nat) (C : String) (T : u_T) (N : Nat) : Prop := zcl[ci]? = some (C, T, N) ∧ znf ci = N ∧ (∀ w ∈ u_ws C T N, w ∈ zT) ∧ (∃ ty : Nat → FieldType, ∀ k, k < N → parseFieldDescriptor (T k).2.2.1 = some (ty k)) ∧ (∀ a, a < N → ∀ b, b < N → a ≠ b → (T a).2.1 ≠ (T b).2.1)
theorem wld_get {g : GG} {E : EE} {D : DD} {a : Nat} (h : a < E.2.1) : (wld g E D)[a]? = some (gB g + a, cellE g E a (D a)) := by
  unfold wld
  rw [List.getElem?_map, List.getElem?_range h]
  rfl
theorem zw_row {D : DD} {a : Nat} {i x : Int} : zw D a i x a = fun j => if j = i then x else D a j := by
  funext j
  simp [zw]
theorem zw_off {D : DD} {a b : Nat} {i x : Int} (h : b ≠ a) : zw D a i x b = D b := by
  funext j
  simp [zw, h]
theorem wld_set {g : GG} {E : EE} {D D' : DD} {a : Nat} {e : va_E} (h : e = cellE g E a (D' a)) (ho : ∀ b, b ≠ a → D' b = D b) : (wld g E D).set a (gB g + a, e) = wld g E D' := by
  subst h
  apply List.ext_getElem?
  intro i
  unfold wld
  rw [List.getElem?_set]
  split
  · rename_i hi
    subst hi
    split
    · rename_i hl
      rw [List.length_map, List.length_range] at hl
      rw [List.getElem?_map, List.getElem?_range hl]
      rfl
    · rename_i hl
      rw [List.length_map, List.length_range] at hl
      rw [List.getElem?_eq_none (by rw [List.length_map, List.length_range]; omega)]
  · rename_i hi
    rw [List.getElem?_map, List.getElem?_map]
    by_cases hl : i < E.2.1
    · rw [List.getElem?_range hl]
      simp only [Option.map_some]
      rw [ho i (fun q => hi q.symm)]
    · rw [List.getElem?_eq_none (by rw [List.length_range]; omega)]
      rfl
theorem wld_D (g : GG) (E : EE) (D : DD) : va_D (zfr g) (wld g E D) := by
  have key : ∀ (k : Nat) (q : Nat × va_E), (wld g E D)[k]? = some q → q.1 = gB g + k := by
    intro k q h
    have hk : k < E.2.1 := by
      have := (List.getElem?_eq_some_iff.mp h).1
      unfold wld at this
      rwa [List.length_map, List.length_range] at this
    rw [wld_get hk] at h
    cases h
    rfl
  refine ⟨fun i j p q hi hj hpq => ?_, fun k q hk => ?_⟩
  · have h1 := key i p hi
    have h2 := key j q hj
    omega
  · have h1 := key k q hk
    show gB g ≤ q.1
    omega
theorem fval_I {g : GG} {E : EE} {ci i k : Nat} {row : Int → Int} (h : (zft ci k).1 ≠ 2) : fval g E ci i row k = .int (Int32.ofInt (row k)) := by
  unfold fval
  split
  · rename_i off e
    rw [e] at h
    exact absurd rfl h
  · rfl
theorem fval_R {g : GG} {E : EE} {ci i k off : Nat} {row : Int → Int} (h : zft ci k = (2, off)) (hE : E.1 i k = true) : fval g E ci i row k = .ref (gB g + (i + off)) := by
  unfold fval
  rw [h]
  simp only
  rw [if_pos hE]
theorem cell_O {g : GG} {E : EE} {i ci x : Nat} {row : Int → Int} (h : zk i = (0, ci, x)) : cellE g E i row = .inr (ci, (List.range (znf ci)).map (fun k => fval g E ci i row k)) := by unfold cellE; rw [h] <;> rfl
theorem cell_1 {g : GG} {E : EE} {i n x : Nat} {row : Int → Int} (h : zk i = (1, n, x)) : cellE g E i row = .inl (gA g 1, n, .inl (fun j => Int32.ofInt (row j))) := by unfold cellE; rw [h] <;> rfl
theorem cell_2 {g : GG} {E : EE} {i n x : Nat} {row : Int → Int} (h : zk i = (2, n, x)) : cellE g E i row = .inl (gA g 2, n, .inr (.inl (fun j => Int64.ofInt (row j)))) := by unfold cellE; rw [h] <;> rfl
theorem cell_3 {g : GG} {E : EE} {i n x : Nat} {row : Int → Int} (h : zk i = (3, n, x)) : cellE g E i row = .inl (gA g 3, n, .inl (fun j => Int32.ofInt (row j))) := by unfold cellE; rw [h] <;> rfl
theorem cell_4 {g : GG} {E : EE} {i n x : Nat} {row : Int → Int} (h : zk i = (4, n, x)) : cellE g E i row = .inl (gA g 4, n, .inl (fun j => Int32.ofInt (row j))) := by unfold cellE; rw [h] <;> rfl
theorem cell_5 {g : GG} {E : EE} {i n t : Nat} {row : Int → Int} (h : zk i = (5, n, t)) : cellE g E i row = .inl (gA g (zra t).1, n, .inr (.inr (.inr (.inr (fun j => if E.1 i j then some (gB g + (i + (zra t).2.1 + (zra t).2.2 * j)) else none))))) := by unfold cellE; rw [h] <;> rfl
theorem okD_w {E : EE} {D : DD} {a : Nat} {i x : Int} (h : okD E D) (hx : a < E.2.1 → match (zk a).1 with | 2 => R64 x | _ => R32 x) : okD E (zw D a i x) := by
  intro b hb j
  by_cases q : b = a ∧ j = i
  · obtain ⟨rfl, rfl⟩ := q
    rw [zw_eq]
    exact hx hb
  · have : zw D a i x b j = D b j := by unfold zw; rw [if_neg q]
    rw [this]
    exact h b hb j
section RH
variable {g : GG} {M : MI} {mc ms : Nat} {Q : Option VV → EE → DD → Prop} {pc : Nat} {L st : List VV} {E : EE} {D : DD} {ca sa : Nat}
theorem q_getI {ci k N index : Nat} {C : String} {T : u_T} {a : Nat} {i : Int} (hc : ZC ci C T N) (hl : Cond.fieldLink (mY M).cls index (T k).1 (T k).2.1 (T k).2.2.1 ∈ zT) (hk : k < N ∧ (zft ci k).1 ≠ 2 ∧ (k : Int) = i) (d : decode (mC M) pc = .ok (.getfield index, 3)) (ha : zk a = (0, ci, 0)) (hn : a < E.2.1)
    (kk : Zg g M mc ms Q (pc + 3) L (vI (D a i) :: st) E D ca sa) : Zg g M mc ms Q pc L (vR a :: st) E D ca sa := by
  obtain ⟨hk, hf, rfl⟩ := hk
  refine zg_ok fun _ _ hD => ?_
  have hr : R32 (D a k) := by have := hD a hn k; rw [ha] at this; exact this
  intro p l e R s m args below meth c X hR H locs ls hH hS hl' hL hs
  refine va_get (a := gB g + a) (D := gD g) (cl := zcl) (ws := wld g E D) (tys := ztys g) (ci := ci) X.1 X.2.1 X.2.2.2.2.2.1 hc.2.2.1 X.2.2.2.2.1 X.2.2.2.2.2.2.2.2.1 hH.1 a (fs := (List.range (znf ci)).map (fun k => fval g E ci a (D a) k)) (by rw [wld_get hn, cell_O ha]) hc.1 k hk (X.2.2.2.2.2.1 _ hl) (fun _ h => h) (v := .int (Int32.ofInt (D a k))) ?_ d (kk p l e R s m args below meth c X hR H locs ls hH hS hl' hL (okI hr (ok1 hs).2))
  rw [List.getElem?_map, List.getElem?_range (by rw [hc.2.1]; exact hk), Option.map_some, fval_I hf]
theorem q_getIN {ci k N index : Nat} {C h0 : String} {T : u_T} {a : Nat} {i : Int} (hc : ZC ci C T N) (hl : Cond.fieldLinkNest (mY M).cls index (T k).1 (T k).2.1 (T k).2.2.1 h0 ∈ zNest) (hk : k < N ∧ (zft ci k).1 ≠ 2 ∧ (k : Int) = i) (d : decode (mC M) pc = .ok (.getfield index, 3)) (ha : zk a = (0, ci, 0)) (hn : a < E.2.1)
    (kk : Zg g M mc ms Q (pc + 3) L (vI (D a i) :: st) E D ca sa) : Zg g M mc ms Q pc L (vR a :: st) E D ca sa := by
  obtain ⟨hk, hf, rfl⟩ := hk
  refine zg_ok fun _ _ hD => ?_
  have hr : R32 (D a k) := by have := hD a hn k; rw [ha] at this; exact this
  intro p l e R s m args below meth c X hR H locs ls hH hS hl' hL hs
  refine va_getN (a := gB g + a) (D := gD g) (cl := zcl) (ws := wld g E D) (tys := ztys g) (ci := ci) X.1 X.2.1 X.2.2.2.2.2.1 hc.2.2.1 X.2.2.2.2.1 X.2.2.2.2.2.2.2.2.1 hH.1 a (fs := (List.range (znf ci)).map (fun k => fval g E ci a (D a) k)) (by rw [wld_get hn, cell_O ha]) hc.1 k hk (va_Nw.use rfl (X.2.2.2.2.2.2.2.2.2.1 _ hl)) (fun _ h => h) (v := .int (Int32.ofInt (D a k))) ?_ d (kk p l e R s m args below meth c X hR H locs ls hH hS hl' hL (okI hr (ok1 hs).2))
  rw [List.getElem?_map, List.getElem?_range (by rw [hc.2.1]; exact hk), Option.map_some, fval_I hf]
theorem q_getR {ci k N index off : Nat} {C : String} {T : u_T} {a : Nat} (hc : ZC ci C T N) (hl : Cond.fieldLink (mY M).cls index (T k).1 (T k).2.1 (T k).2.2.1 ∈ zT) (hk : k < N ∧ zft ci k = (2, off)) (d : decode (mC M) pc = .ok (.getfield index, 3)) (ha : zk a = (0, ci, 0)) (hn : a < E.2.1) (hE : E.1 a k = true)
    (kk : Zg g M mc ms Q (pc + 3) L (vR (a + off) :: st) E D ca sa) : Zg g M mc ms Q pc L (vR a :: st) E D ca sa := by
  intro p l e R s m args below meth c X hR H locs ls hH hS hl' hL hs
  refine va_get (a := gB g + a) (D := gD g) (cl := zcl) (ws := wld g E D) (tys := ztys g) (ci := ci) X.1 X.2.1 X.2.2.2.2.2.1 hc.2.2.1 X.2.2.2.2.1 X.2.2.2.2.2.2.2.2.1 hH.1 a (fs := (List.range (znf ci)).map (fun k => fval g E ci a (D a) k)) (by rw [wld_get hn, cell_O ha]) hc.1 k hk.1 (X.2.2.2.2.2.1 _ hl) (fun _ h => h) (v := .ref (gB g + (a + off))) ?_ d (kk p l e R s m args below meth c X hR H locs ls hH hS hl' hL (okc (v := vR (a + off)) trivial (ok1 hs).2))
  rw [List.getElem?_map, List.getElem?_range (by rw [hc.2.1]; exact hk.1), Option.map_some, fval_R hk.2 hE]
theorem q_getRN {ci k N index off : Nat} {C h0 : String} {T : u_T} {a : Nat} (hc : ZC ci C T N) (hl : Cond.fieldLinkNest (mY M).cls index (T k).1 (T k).2.1 (T k).2.2.1 h0 ∈ zNest) (hk : k < N ∧ zft ci k = (2, off)) (d : decode (mC M) pc = .ok (.getfield index, 3)) (ha : zk a = (0, ci, 0)) (hn : a < E.2.1) (hE : E.1 a k = true)
    (kk : Zg g M mc ms Q (pc + 3) L (vR (a + off) :: st) E D ca sa) : Zg g M mc ms Q pc L (vR a :: st) E D ca sa := by
  intro p l e R s m args below meth c X hR H locs ls hH hS hl' hL hs
  refine va_getN (a := gB g + a) (D := gD g) (cl := zcl) (ws := wld g E D) (tys := ztys g) (ci := ci) X.1 X.2.1 X.2.2.2.2.2.1 hc.2.2.1 X.2.2.2.2.1 X.2.2.2.2.2.2.2.2.1 hH.1 a (fs := (List.range (znf ci)).map (fun k => fval g E ci a (D a) k)) (by rw [wld_get hn, cell_O ha]) hc.1 k hk.1 (va_Nw.use rfl (X.2.2.2.2.2.2.2.2.2.1 _ hl)) (fun _ h => h) (v := .ref (gB g + (a + off))) ?_ d (kk p l e R s m args below meth c X hR H locs ls hH hS hl' hL (okc (v := vR (a + off)) trivial (ok1 hs).2))
  rw [List.getElem?_map, List.getElem?_range (by rw [hc.2.1]; exact hk.1), Option.map_some, fval_R hk.2 hE]
/-- what a store into an object needs of the tables and of the heap -/
theorem put_world {ci k N : Nat} {C : String} {T : u_T} {a : Nat} {H H1 : Heap} {E E' : EE} {D' : DD} {v : Value} {cell : Cell} (hc : ZC ci C T N) (hk : k < N) (ha : zk a = (0, ci, 0)) (hn : a < E.2.1) (hH : Hp g E D H)
    (q2 : cell.cls = (gD g).1 ci) (q3 : cell.vm = .none) (q4 : ∀ j, j < N → cell.slots[(gD g).2 ci j]? = some (vp_V ((List.range (znf ci)).map (fun k => fval g E ci a (D a) k)) j)) (hap : ∀ x y, x < N → y < N → x ≠ y → (gD g).2 ci x ≠ (gD g).2 ci y)
    (e1 : H1[gB g + a]? = some (cell.setSlot ((gD g).2 ci k) v)) (e3 : ∀ q, q ≠ gB g + a → H1[q]? = H[q]?)
    (hE : E'.2.1 = E.2.1) (hnew : ∀ j, j < N → fval g E' ci a (D' a) j = if j = k then v else fval g E ci a (D a) j) (ho : ∀ b, b ≠ a → b < E.2.1 → cellE g E' b (D' b) = cellE g E b (D b)) : va_P (gD g) zcl (wld g E' D') H1 := by
  intro j q hj
  have hjl : j < E'.2.1 := by
    have := (List.getElem?_eq_some_iff.mp hj).1
    unfold wld at this
    rwa [List.length_map, List.length_range] at this
  rw [wld_get hjl] at hj
  cases hj
  by_cases hja : j = a
  · subst hja
    rw [cell_O ha]
    refine ⟨_, hc.1, t_OB.to (V := updV (vp_V ((List.range (znf ci)).map (fun k => fval g E ci j (D j) k))) k v) ⟨_, e1, q2, q3, t_set q4 hap hk v⟩ (fun y hy => ?_)⟩
    have hy' : y < znf ci := by rw [hc.2.1]; exact hy
    unfold updV vp_V
    simp only [List.getD_eq_getElem?_getD, List.getElem?_map, List.getElem?_range hy', Option.map_some, Option.getD_some]
    rw [hnew y hy]
  · rw [ho j hja (by omega)]
    exact va_at.kept (hH.1 j _ (wld_get (by omega))) (e3 _ (by show gB g + j ≠ gB g + a; omega))
theorem q_putI {ci k N index : Nat} {C : String} {T : u_T} {a : Nat} {i x : Int} (hc : ZC ci C T N) (hl : Cond.fieldLink (mY M).cls index (T k).1 (T k).2.1 (T k).2.2.1 ∈ zT) (hk : k < N ∧ (zft ci k).1 ≠ 2 ∧ (k : Int) = i ∧ (T k).2.2.2 = false) (hd : (T k).2.2.1 = "I" ∨ ((T k).2.2.1 = "Z" ∧ 0 ≤ x ∧ x ≤ 1)) (d : decode (mC M) pc = .ok (.putfield index, 3)) (ha : zk a = (0, ci, 0)) (hn : a < E.2.1)
    (kk : ∀ D', D' = zw D a i x → Zg g M mc ms Q (pc + 3) L st E D' ca sa) : Zg g M mc ms Q pc L (vI x :: vR a :: st) E D ca sa := by
  obtain ⟨hk, hf, rfl, hfin⟩ := hk
  replace kk := kk _ rfl
  intro p l e R s m args below meth c X hR H locs ls hH hS hl' hL hs
  obtain ⟨ty0, hty⟩ := hc.2.2.2.1
  have hts := X.2.2.2.2.2.1
  have hown := X.2.2.2.2.1
  have hK := X.2.2.2.2.2.2.2.2.1
  have hap := va_apart (own := (mY M).cls) hts hc.2.2.1 ty0 hty hc.2.2.2.2 hK hc.1
  have he := hH.1 a _ (wld_get hn)
  rw [cell_O ha] at he
  obtain ⟨r, h1, cell, q1, q2, q3, q4⟩ := he
  have hr : r = (C, T, N) := Option.some.inj (h1.symm.trans hc.1)
  subst hr
  obtain ⟨hSl, hfc, kC, hkC, hkind⟩ := hK.1 ci _ hc.1
  obtain ⟨cf, kf, fi, f, hi, hsl⟩ := hSl k hk
  have hlay := hts _ (hc.2.2.1 _ (u_in_lay hk))
  unfold u_lay at hlay
  rw [if_neg (by rw [hfin]; decide)] at hlay
  have hst := (u_facts hfc hkC (u_lays hts hc.2.2.1 hk) hi).1
  have hx32 : R32 x := (ok2 hs).1
  have h6 : k2_Sd s f ((gD g).1 ci) (.int (Int32.ofInt x)) := by
    rcases hd with hd | ⟨hd, hx0, hx1⟩
    · exact u_store hfc hkC hkind hlay hi (ty := .int) (by rw [hd]; decide +kernel) rfl rfl
    · rcases (show x = 0 ∨ x = 1 by omega) with rfl | rfl
      · exact u_store hfc hkC hkind hlay hi (ty := .boolean) (by rw [hd]; decide +kernel) (by decide +kernel) (by decide +kernel)
      · exact u_store hfc hkC hkind hlay hi (ty := .boolean) (by rw [hd]; decide +kernel) (by decide +kernel) (by decide +kernel)
  refine W.putK X.1 X.2.1 (f := f) ⟨hown, hts _ hl, ⟨_, _, _, hi⟩, hst⟩ (by rw [q2]; exact h6) q1 q3 (by rw [hsl]; exact k2_hasslot (q4 k hk)) rfl rfl d fun H' e1 e2 e3 => ?_
  rw [hsl] at e1 ⊢
  refine kk p l e R s m args below meth c X hR H' _ ls ⟨?_, by rw [e2]; exact hH.2.1, fun t => by rw [e2]; exact hH.2.2.1 t, okD_w hH.2.2.2 (fun _ => by rw [ha]; exact hx32)⟩ (hS.put e2 e3 (by show gB g ≤ gB g + a; omega)) hl' hL (ok2 hs).2.2
  refine put_world (H := H) hc hk ha hn hH q2 q3 q4 hap e1 e3 rfl (fun j hj => ?_) (fun b hb _ => by rw [zw_off hb])
  rw [zw_row]
  by_cases hjk : j = k
  · subst hjk
    rw [if_pos rfl, fval_I hf]
    show Value.int (Int32.ofInt (if (j : Int) = (j : Int) then x else D a j)) = _
    rw [if_pos rfl]
    rfl
  · rw [if_neg hjk]
    unfold fval
    split
    · rfl
    · show Value.int (Int32.ofInt (if (j : Int) = (k : Int) then x else D a j)) = _
      rw [if_neg (by omega)]
theorem q_putIN {ci k N index : Nat} {C h0 : String} {T : u_T} {a : Nat} {i x : Int} (hc : ZC ci C T N) (hl : Cond.fieldLinkNest (mY M).cls index (T k).1 (T k).2.1 (T k).2.2.1 h0 ∈ zNest) (hk : k < N ∧ (zft ci k).1 ≠ 2 ∧ (k : Int) = i ∧ (T k).2.2.2 = false) (hd : (T k).2.2.1 = "I" ∨ ((T k).2.2.1 = "Z" ∧ 0 ≤ x ∧ x ≤ 1)) (d : decode (mC M) pc = .ok (.putfield index, 3)) (ha : zk a = (0, ci, 0)) (hn : a < E.2.1)
    (kk : ∀ D', D' = zw D a i x → Zg g M mc ms Q (pc + 3) L st E D' ca sa) : Zg g M mc ms Q pc L (vI x :: vR a :: st) E D ca sa := by
  obtain ⟨hk, hf, rfl, hfin⟩ := hk
  replace kk := kk _ rfl
  intro p l e R s m args below meth c X hR H locs ls hH hS hl' hL hs
  obtain ⟨ty0, hty⟩ := hc.2.2.2.1
  have hts := X.2.2.2.2.2.1
  have hown := X.2.2.2.2.1
  have hK := X.2.2.2.2.2.2.2.2.1
  have hap := va_apart (own := (mY M).cls) hts hc.2.2.1 ty0 hty hc.2.2.2.2 hK hc.1
  have he := hH.1 a _ (wld_get hn)
  rw [cell_O ha] at he
  obtain ⟨r, h1, cell, q1, q2, q3, q4⟩ := he
  have hr : r = (C, T, N) := Option.some.inj (h1.symm.trans hc.1)
  subst hr
  obtain ⟨hSl, hfc, kC, hkC, hkind⟩ := hK.1 ci _ hc.1
  obtain ⟨cf, kf, fi, f, hi, hsl⟩ := hSl k hk
  have hlay := hts _ (hc.2.2.1 _ (u_in_lay hk))
  unfold u_lay at hlay
  rw [if_neg (by rw [hfin]; decide)] at hlay
  have hst := (u_facts hfc hkC (u_lays hts hc.2.2.1 hk) hi).1
  have hx32 : R32 x := (ok2 hs).1
  have h6 : k2_Sd s f ((gD g).1 ci) (.int (Int32.ofInt x)) := by
    rcases hd with hd | ⟨hd, hx0, hx1⟩
    · exact u_store hfc hkC hkind hlay hi (ty := .int) (by rw [hd]; decide +kernel) rfl rfl
    · rcases (show x = 0 ∨ x = 1 by omega) with rfl | rfl
      · exact u_store hfc hkC hkind hlay hi (ty := .boolean) (by rw [hd]; decide +kernel) (by decide +kernel) (by decide +kernel)
      · exact u_store hfc hkC hkind hlay hi (ty := .boolean) (by rw [hd]; decide +kernel) (by decide +kernel) (by decide +kernel)
  refine va_WputK X.1 X.2.1 (f := f) hown (va_Nw.use rfl (X.2.2.2.2.2.2.2.2.2.1 _ hl)) hi hst (by rw [q2]; exact h6) q1 q3 (by rw [hsl]; exact k2_hasslot (q4 k hk)) rfl rfl d fun H' e1 e2 e3 => ?_
  rw [hsl] at e1 ⊢
  refine kk p l e R s m args below meth c X hR H' _ ls ⟨?_, by rw [e2]; exact hH.2.1, fun t => by rw [e2]; exact hH.2.2.1 t, okD_w hH.2.2.2 (fun _ => by rw [ha]; exact hx32)⟩ (hS.put e2 e3 (by show gB g ≤ gB g + a; omega)) hl' hL (ok2 hs).2.2
  refine put_world (H := H) hc hk ha hn hH q2 q3 q4 hap e1 e3 rfl (fun j hj => ?_) (fun b hb _ => by rw [zw_off hb])
  rw [zw_row]
  by_cases hjk : j = k
  · subst hjk
    rw [if_pos rfl, fval_I hf]
    show Value.int (Int32.ofInt (if (j : Int) = (j : Int) then x else D a j)) = _
    rw [if_pos rfl]
    rfl
  · rw [if_neg hjk]
    unfold fval
    split
    · rfl
    · show Value.int (Int32.ofInt (if (j : Int) = (k : Int) then x else D a j)) = _
      rw [if_neg (by omega)]

/-! arrays -/
theorem z_nar_b {x : Int} (ox : 0 ≤ x ∧ x ≤ 1) : narrow .boolean (.int (Int32.ofInt x)) = .int (Int32.ofInt x) := by
  rcases (show x = 0 ∨ x = 1 by omega) with rfl | rfl <;> decide +kernel
theorem z_nar_c {x : Int} (ox : 0 ≤ x ∧ x < 65536) : narrow .char (.int (Int32.ofInt x)) = .int (Int32.ofInt x) := by
  have e : Int32.ofInt x = nI x.toNat := by
    show _ = Int32.ofNat x.toNat
    rw [← Int32.ofInt_eq_ofNat, Int.toNat_of_nonneg ox.1]
  rw [e]
  exact (pk_charN (by omega)).1

theorem ix_in {i : Int} {n : Nat} (hi : 0 ≤ i ∧ i < n) (hr : R32 i) : vp_in (Int32.ofInt i) n ∧ (Int32.ofInt i).toNatClampNeg = i.toNat := by
  have h1 : (Int32.ofInt i).toNatClampNeg = i.toNat := by
    show (Int32.ofInt i).toInt.toNat = _
    rw [i32_ti hr]
  refine ⟨?_, h1⟩
  unfold vp_in
  rw [h1, i32_0, i32_lt hr (by omega)]
  omega
theorem arr_world {a n : Nat} {i x : Int} {H H1 : Heap} (hn : a < E.2.1) (hH : Hp g E D H) {E' : EE} {D' : DD} (he : va_at (gD g) zcl (gB g + a, cellE g E' a (D' a)) H1) (e3 : ∀ q, q ≠ gB g + a → H1[q]? = H[q]?) (hE : E'.2.1 = E.2.1) (ho : ∀ b, b ≠ a → b < E.2.1 → cellE g E' b (D' b) = cellE g E b (D b)) : va_P (gD g) zcl (wld g E' D') H1 := by
  intro j q hj
  have hjl : j < E'.2.1 := by
    have := (List.getElem?_eq_some_iff.mp hj).1
    unfold wld at this
    rwa [List.length_map, List.length_range] at this
  rw [wld_get hjl] at hj
  cases hj
  by_cases hja : j = a
  · subst hja
    exact he
  · rw [ho j hja (by omega)]
    exact va_at.kept (hH.1 j _ (wld_get (by omega))) (e3 _ (by show gB g + j ≠ gB g + a; omega))
theorem row_up {row : Int → Int} {i x : Int} (hi : 0 ≤ i) {α : Type} (f : Int → α) : (fun q : Nat => if q = i.toNat then f x else f (row q)) = (fun q : Nat => f (if (q : Int) = i then x else row q)) := by
  funext q
  by_cases h : q = i.toNat
  · rw [if_pos h, if_pos (by omega)]
  · rw [if_neg h, if_neg (by omega)]
theorem q_iald {a n : Nat} {i : Int} (d : decode (mC M) pc = .ok (.iaload, 1)) (ha : zk a = (1, n, 0)) (hn : a < E.2.1) (hi : 0 ≤ i ∧ i < n) (kk : Zg g M mc ms Q (pc + 1) L (vI (D a i) :: st) E D ca sa) : Zg g M mc ms Q pc L (vI i :: vR a :: st) E D ca sa := by
  refine zg_ok fun _ h hD => ?_
  have hr : R32 (D a i) := by have := hD a hn i; rw [ha] at this; exact this
  obtain ⟨h1, h2⟩ := ix_in hi (ok2 h).1
  intro p l e R s m args below meth c X hR H locs ls hH hS hl' hL hs
  refine va_iald (a := gB g + a) (D := gD g) (cl := zcl) (ws := wld g E D) (tys := ztys g) X.1 X.2.1 X.2.2.2.2.2.2.2.2.1 hH.1 a 0 (by rw [wld_get hn, cell_1 ha]) rfl h1 d ?_
  rw [h2, Int.toNat_of_nonneg hi.1]
  exact kk p l e R s m args below meth c X hR H locs ls hH hS hl' hL (okI hr (ok2 hs).2.2)
theorem q_zald {a n : Nat} {i : Int} (d : decode (mC M) pc = .ok (.baload, 1)) (ha : zk a = (3, n, 0)) (hn : a < E.2.1) (hi : 0 ≤ i ∧ i < n) (kk : Zg g M mc ms Q (pc + 1) L (vI (D a i) :: st) E D ca sa) : Zg g M mc ms Q pc L (vI i :: vR a :: st) E D ca sa := by
  refine zg_ok fun _ h hD => ?_
  have hr : R32 (D a i) := by have := hD a hn i; rw [ha] at this; exact this
  obtain ⟨h1, h2⟩ := ix_in hi (ok2 h).1
  intro p l e R s m args below meth c X hR H locs ls hH hS hl' hL hs
  refine va_zald (a := gB g + a) (D := gD g) (cl := zcl) (ws := wld g E D) (tys := ztys g) X.1 X.2.1 X.2.2.2.2.2.2.2.2.1 hH.1 a 2 (by rw [wld_get hn, cell_3 ha]) rfl h1 d ?_
  rw [h2, Int.toNat_of_nonneg hi.1]
  exact kk p l e R s m args below meth c X hR H locs ls hH hS hl' hL (okI hr (ok2 hs).2.2)
theorem q_cald {a n : Nat} {i : Int} (d : decode (mC M) pc = .ok (.caload, 1)) (ha : zk a = (4, n, 0)) (hn : a < E.2.1) (hi : 0 ≤ i ∧ i < n) (kk : Zg g M mc ms Q (pc + 1) L (vI (D a i) :: st) E D ca sa) : Zg g M mc ms Q pc L (vI i :: vR a :: st) E D ca sa := by
  refine zg_ok fun _ h hD => ?_
  have hr : R32 (D a i) := by have := hD a hn i; rw [ha] at this; exact this
  obtain ⟨h1, h2⟩ := ix_in hi (ok2 h).1
  intro p l e R s m args below meth c X hR H locs ls hH hS hl' hL hs
  refine va_cald (a := gB g + a) (D := gD g) (cl := zcl) (ws := wld g E D) (tys := ztys g) X.1 X.2.1 X.2.2.2.2.2.2.2.2.1 hH.1 a 3 (by rw [wld_get hn, cell_4 ha]) rfl h1 d ?_
  rw [h2, Int.toNat_of_nonneg hi.1]
  exact kk p l e R s m args below meth c X hR H locs ls hH hS hl' hL (okI hr (ok2 hs).2.2)
theorem q_lald {a n : Nat} {i : Int} (d : decode (mC M) pc = .ok (.laload, 1)) (ha : zk a = (2, n, 0)) (hn : a < E.2.1) (hi : 0 ≤ i ∧ i < n) (kk : Zg g M mc ms Q (pc + 1) L (vL (D a i) :: st) E D ca sa) : Zg g M mc ms Q pc L (vI i :: vR a :: st) E D ca sa := by
  refine zg_ok fun _ h hD => ?_
  have hr : R64 (D a i) := by have := hD a hn i; rw [ha] at this; exact this
  obtain ⟨h1, h2⟩ := ix_in hi (ok2 h).1
  intro p l e R s m args below meth c X hR H locs ls hH hS hl' hL hs
  refine va_lald (a := gB g + a) (D := gD g) (cl := zcl) (ws := wld g E D) (tys := ztys g) X.1 X.2.1 X.2.2.2.2.2.2.2.2.1 hH.1 a 1 (by rw [wld_get hn, cell_2 ha]) rfl h1 d ?_
  rw [h2, Int.toNat_of_nonneg hi.1]
  exact kk p l e R s m args below meth c X hR H locs ls hH hS hl' hL (okL hr (ok2 hs).2.2)
theorem q_iast {a n : Nat} {i x : Int} (d : decode (mC M) pc = .ok (.iastore, 1)) (ha : zk a = (1, n, 0)) (hn : a < E.2.1) (hi : 0 ≤ i ∧ i < n) (kk : ∀ D', D' = zw D a i x → Zg g M mc ms Q (pc + 1) L st E D' ca sa) : Zg g M mc ms Q pc L (vI x :: vI i :: vR a :: st) E D ca sa := by
  replace kk := kk _ rfl
  refine zg_ok fun _ h _ => ?_
  have hx : R32 x := (ok1 h).1
  have hsr : ∀ w ∈ st, okv w := (ok2 (ok1 h).2).2.2
  obtain ⟨h1, h2⟩ := ix_in hi (ok1 (ok1 h).2).1
  intro p l e R s m args below meth c X hR H locs ls hH hS hl' hL hs
  have ha0 := hH.1 a _ (wld_get hn)
  rw [cell_1 ha] at ha0
  refine W.iast X.1 X.2.1 ha0 ((X.2.2.2.2.2.2.2.2.1.2 0 _ rfl).1 n (fun j => .int (Int32.ofInt (D a j)))) (fun q => by cases q) (by show ¬ (_ < 0 ∨ (arrV _ _ _).slots.size ≤ _); rw [arrV_size]; exact h1) rfl rfl d fun H1 e1 z oq => ?_
  refine kk p l e R s m args below meth c X hR H1 _ ls ⟨?_, by rw [z]; exact hH.2.1, fun t => by rw [z]; exact hH.2.2.1 t, okD_w hH.2.2.2 (fun _ => by rw [ha]; exact hx)⟩ (hS.put z oq (by show gB g ≤ gB g + a; omega)) hl' hL hsr
  refine arr_world (n := n) (i := i) (x := x) hn hH ?_ oq rfl (fun b hb _ => by rw [zw_off hb])
  rw [cell_1 ha]
  show H1[gB g + a]? = some (vp_cell _ _)
  rw [e1]
  show some (Cell.setSlot (vp_cell _ (n, _)) _ _) = _
  rw [vp_cell_i, vp_cell_i, arrV_store]
  congr 2
  funext q
  rw [zw_row]
  show (updV _ _ _ q) = .int (Int32.ofInt (if (q : Int) = i then x else D a q))
  unfold updV
  rw [h2]
  by_cases hq : q = i.toNat
  · rw [if_pos hq, if_pos (by omega)]
  · rw [if_neg hq, if_neg (by omega)]
theorem q_zast {a n : Nat} {i x : Int} (d : decode (mC M) pc = .ok (.bastore, 1)) (ha : zk a = (3, n, 0)) (hn : a < E.2.1) (hi : 0 ≤ i ∧ i < n) (ox : 0 ≤ x ∧ x ≤ 1) (kk : ∀ D', D' = zw D a i x → Zg g M mc ms Q (pc + 1) L st E D' ca sa) : Zg g M mc ms Q pc L (vI x :: vI i :: vR a :: st) E D ca sa := by
  replace kk := kk _ rfl
  refine zg_ok fun _ h _ => ?_
  have hx : R32 x := (ok1 h).1
  have hsr : ∀ w ∈ st, okv w := (ok2 (ok1 h).2).2.2
  obtain ⟨h1, h2⟩ := ix_in hi (ok1 (ok1 h).2).1
  intro p l e R s m args below meth c X hR H locs ls hH hS hl' hL hs
  have ha0 := hH.1 a _ (wld_get hn)
  rw [cell_3 ha] at ha0
  refine W.zast X.1 X.2.1 ha0 ((X.2.2.2.2.2.2.2.2.1.2 2 _ rfl).1 n (fun j => .int (Int32.ofInt (D a j)))) (fun q => by cases q) (by show ¬ (_ < 0 ∨ (arrV _ _ _).slots.size ≤ _); rw [arrV_size]; exact h1) rfl rfl d fun H1 e1 z oq => ?_
  refine kk p l e R s m args below meth c X hR H1 _ ls ⟨?_, by rw [z]; exact hH.2.1, fun t => by rw [z]; exact hH.2.2.1 t, okD_w hH.2.2.2 (fun _ => by rw [ha]; exact hx)⟩ (hS.put z oq (by show gB g ≤ gB g + a; omega)) hl' hL hsr
  refine arr_world (n := n) (i := i) (x := x) hn hH ?_ oq rfl (fun b hb _ => by rw [zw_off hb])
  rw [cell_3 ha]
  show H1[gB g + a]? = some (vp_cell _ _)
  rw [e1]
  show some (Cell.setSlot (vp_cell _ (n, _)) _ _) = _
  rw [vp_cell_i, vp_cell_i, arrV_store]
  congr 2
  funext q
  rw [zw_row]
  show (updV _ _ _ q) = .int (Int32.ofInt (if (q : Int) = i then x else D a q))
  unfold updV
  rw [h2]
  by_cases hq : q = i.toNat
  · rw [if_pos hq, if_pos (by omega)]
    exact z_nar_b ox
  · rw [if_neg hq, if_neg (by omega)]
theorem q_cast {a n : Nat} {i x : Int} (d : decode (mC M) pc = .ok (.castore, 1)) (ha : zk a = (4, n, 0)) (hn : a < E.2.1) (hi : 0 ≤ i ∧ i < n) (ox : 0 ≤ x ∧ x < 65536) (kk : ∀ D', D' = zw D a i x → Zg g M mc ms Q (pc + 1) L st E D' ca sa) : Zg g M mc ms Q pc L (vI x :: vI i :: vR a :: st) E D ca sa := by
  replace kk := kk _ rfl
  refine zg_ok fun _ h _ => ?_
  have hx : R32 x := (ok1 h).1
  have hsr : ∀ w ∈ st, okv w := (ok2 (ok1 h).2).2.2
  obtain ⟨h1, h2⟩ := ix_in hi (ok1 (ok1 h).2).1
  intro p l e R s m args below meth c X hR H locs ls hH hS hl' hL hs
  have ha0 := hH.1 a _ (wld_get hn)
  rw [cell_4 ha] at ha0
  refine W.cast X.1 X.2.1 ha0 ((X.2.2.2.2.2.2.2.2.1.2 3 _ rfl).1 n (fun j => .int (Int32.ofInt (D a j)))) (fun q => by cases q) (by show ¬ (_ < 0 ∨ (arrV _ _ _).slots.size ≤ _); rw [arrV_size]; exact h1) rfl rfl d fun H1 e1 z oq => ?_
  refine kk p l e R s m args below meth c X hR H1 _ ls ⟨?_, by rw [z]; exact hH.2.1, fun t => by rw [z]; exact hH.2.2.1 t, okD_w hH.2.2.2 (fun _ => by rw [ha]; exact hx)⟩ (hS.put z oq (by show gB g ≤ gB g + a; omega)) hl' hL hsr
  refine arr_world (n := n) (i := i) (x := x) hn hH ?_ oq rfl (fun b hb _ => by rw [zw_off hb])
  rw [cell_4 ha]
  show H1[gB g + a]? = some (vp_cell _ _)
  rw [e1]
  show some (Cell.setSlot (vp_cell _ (n, _)) _ _) = _
  rw [vp_cell_i, vp_cell_i, arrV_store]
  congr 2
  funext q
  rw [zw_row]
  show (updV _ _ _ q) = .int (Int32.ofInt (if (q : Int) = i then x else D a q))
  unfold updV
  rw [h2]
  by_cases hq : q = i.toNat
  · rw [if_pos hq, if_pos (by omega)]
    exact z_nar_c ox
  · rw [if_neg hq, if_neg (by omega)]
theorem q_last {a n : Nat} {i x : Int} (d : decode (mC M) pc = .ok (.lastore, 1)) (ha : zk a = (2, n, 0)) (hn : a < E.2.1) (hi : 0 ≤ i ∧ i < n) (kk : ∀ D', D' = zw D a i x → Zg g M mc ms Q (pc + 1) L st E D' ca sa) : Zg g M mc ms Q pc L (vL x :: vI i :: vR a :: st) E D ca sa := by
  replace kk := kk _ rfl
  refine zg_ok fun _ h _ => ?_
  have hx : R64 x := (ok1 h).1
  have hsr : ∀ w ∈ st, okv w := (ok2 (ok1 h).2).2.2
  obtain ⟨h1, h2⟩ := ix_in hi (ok1 (ok1 h).2).1
  intro p l e R s m args below meth c X hR H locs ls hH hS hl' hL hs
  have ha0 := hH.1 a _ (wld_get hn)
  rw [cell_2 ha] at ha0
  refine W.last X.1 X.2.1 ha0 ((X.2.2.2.2.2.2.2.2.1.2 1 _ rfl).1 n (fun j => .long (Int64.ofInt (D a j)))) (fun q => by cases q) (by show ¬ (_ < 0 ∨ (arrV _ _ _).slots.size ≤ _); rw [arrV_size]; exact h1) rfl rfl d fun H1 e1 z oq => ?_
  refine kk p l e R s m args below meth c X hR H1 _ ls ⟨?_, by rw [z]; exact hH.2.1, fun t => by rw [z]; exact hH.2.2.1 t, okD_w hH.2.2.2 (fun _ => by rw [ha]; exact hx)⟩ (hS.put z oq (by show gB g ≤ gB g + a; omega)) hl' hL hsr
  refine arr_world (n := n) (i := i) (x := x) hn hH ?_ oq rfl (fun b hb _ => by rw [zw_off hb])
  rw [cell_2 ha]
  show H1[gB g + a]? = some (vp_cell _ _)
  rw [e1]
  show some (Cell.setSlot (vp_cell _ (n, _)) _ _) = _
  rw [vp_cell_l, vp_cell_l, arrV_store]
  congr 2
  funext q
  rw [zw_row]
  show (updV _ _ _ q) = .long (Int64.ofInt (if (q : Int) = i then x else D a q))
  unfold updV
  rw [h2]
  by_cases hq : q = i.toNat
  · rw [if_pos hq, if_pos (by omega)]
  · rw [if_neg hq, if_neg (by omega)]
theorem q_aald {a n t : Nat} {i : Int} (d : decode (mC M) pc = .ok (.aaload, 1)) (ha : zk a = (5, n, t)) (ht : (zra t).1 = 5 ∨ (zra t).1 = 6) (hn : a < E.2.1) (hi : 0 ≤ i ∧ i < n) (hE : E.1 a i.toNat = true) (kk : Zg g M mc ms Q (pc + 1) L (vR (a + (zra t).2.1 + (zra t).2.2 * i.toNat) :: st) E D ca sa) : Zg g M mc ms Q pc L (vI i :: vR a :: st) E D ca sa := by
  refine zg_ok fun _ h hD => ?_
  obtain ⟨h1, h2⟩ := ix_in hi (ok2 h).1
  intro p l e R s m args below meth c X hR H locs ls hH hS hl' hL hs
  have key : ∀ (t0 : Nat) (C : String), (ztys g)[t0]? = some (gA g (zra t).1, .object C) → W p l e R s m args below meth c H locs ca sa (MQ below (Qp g Q) args s mc ms (zfr g)) (F0 m pc ls ((vI i :: vR a :: st).map (val g))) := by
    intro t0 C hty
    refine va_aldq (a := gB g + a) (D := gD g) (cl := zcl) (ws := wld g E D) (tys := ztys g) X.1 X.2.1 X.2.2.2.2.2.2.2.2.1 hH.1 a t0 (by rw [wld_get hn, cell_5 ha]) hty h1 d ?_
    rw [h2, if_pos hE]
    exact kk p l e R s m args below meth c X hR H locs ls hH hS hl' hL (okc (v := vR _) trivial (ok2 hs).2.2)
  rcases ht with ht | ht
  · exact key 4 "SpeedKernel$Natural" (by rw [ht]; rfl)
  · exact key 5 "SpeedKernel$Fraction" (by rw [ht]; rfl)
theorem q_alen {a n kc : Nat} (d : decode (mC M) pc = .ok (.arraylength, 1)) (ha : zk a = (kc, n, 0)) (hk : kc = 1 ∧ n ≤ 2147483647) (hn : a < E.2.1) (kk : Zg g M mc ms Q (pc + 1) L (vI n :: st) E D ca sa) : Zg g M mc ms Q pc L (vR a :: st) E D ca sa := by
  obtain ⟨rfl, hk⟩ := hk
  intro p l e R s m args below meth c X hR H locs ls hH hS hl' hL hs
  exact va_alen (a := gB g + a) (D := gD g) (cl := zcl) (ws := wld g E D) (tys := ztys g) X.1 X.2.1 X.2.2.2.2.2.2.2.2.1 hH.1 a 0 (by rw [wld_get hn, cell_1 ha]) rfl (v := Int32.ofInt n) (by rw [Int32.ofInt_eq_ofNat]) d (kk p l e R s m args below meth c X hR H locs ls hH hS hl' hL (okI (by omega) (ok1 hs).2))
theorem q_slen (d : decode (mC M) pc = .ok (.arraylength, 1)) (hk : gL g ≤ 2147483647) (kk : Zg g M mc ms Q (pc + 1) L (vI (gL g) :: st) E D ca sa) : Zg g M mc ms Q pc L (vS :: st) E D ca sa := by
  intro p l e R s m args below meth c X hR H locs ls hH hS hl' hL hs
  obtain ⟨hX, hb, hs0⟩ := X.2.2.2.2.2.2.2.2.2.2.2
  refine va_slen (b := gb g) (A := zfr g) X.1 X.2.1 hX (by omega) (by show ¬ gB g ≤ gb g; omega) hS d ?_
  rw [← Int32.ofInt_eq_ofNat]
  exact kk p l e R s m args below meth c X hR H locs ls hH hS hl' hL (okI (by omega) (ok1 hs).2)
theorem q_sld {i : Int} (d : decode (mC M) pc = .ok (.iaload, 1)) (hi : 0 ≤ i ∧ i < gL g) (kk : Zg g M mc ms Q (pc + 1) L (vI ((gx g) i.toNat).toInt :: st) E D ca sa) : Zg g M mc ms Q pc L (vI i :: vS :: st) E D ca sa := by
  refine zg_ok fun _ h _ => ?_
  obtain ⟨h1, h2⟩ := ix_in hi (ok2 h).1
  intro p l e R s m args below meth c X hR H locs ls hH hS hl' hL hs
  obtain ⟨hX, hb, hs0⟩ := X.2.2.2.2.2.2.2.2.2.2.2
  refine va_sld (b := gb g) (A := zfr g) X.1 X.2.1 hX (by omega) (by show ¬ gB g ≤ gb g; omega) hS h1 d ?_
  rw [h2]
  have e9 : Value.int ((gx g) i.toNat) = val g (vI ((gx g) i.toNat).toInt) := by rw [val_I, Int32.ofInt_toInt]
  rw [e9]
  have b1 := ((gx g) i.toNat).le_toInt
  have b2 := ((gx g) i.toNat).toInt_lt
  exact kk p l e R s m args below meth c X hR H locs ls hH hS hl' hL (okI (by omega) (ok2 hs).2.2)
end RH
end
section
/-! rules: returns, calls; from a walk to a contract -/
def zE : EE := (fun _ _ => true, zN, False)
section RC
variable {g : GG} {M M' : MI} {mc ms mc' ms' : Nat} {Q Q' : Option VV → EE → DD → Prop} {pc : Nat} {L st : List VV} {E : EE} {D : DD} {ca sa : Nat}
theorem qp_ret {s t : State} {H : Heap} {locs : List Loc} {args : Array Value} {v : VV} (hH : Hp g E D H) (hS : va_S (zfr g) s.heap H locs) (hv : okv v) (hq : Q (some v) E D) (ht : t.heap = H) : Qp g Q args s (.returned (some (val g v))) t :=
  ⟨⟨some v, E, D, rfl, fun w hw => by cases hw; exact hv, by rw [ht]; exact hH, hq⟩, hS.F ht⟩
theorem qp_retv {s t : State} {H : Heap} {locs : List Loc} {args : Array Value} (hH : Hp g E D H) (hS : va_S (zfr g) s.heap H locs) (hq : Q none E D) (ht : t.heap = H) : Qp g Q args s (.returned none) t :=
  ⟨⟨none, E, D, rfl, fun w hw => (by cases hw), by rw [ht]; exact hH, hq⟩, hS.F ht⟩
theorem q_iret {x : Int} (d : decode (mC M) pc = .ok (.ireturn, 1)) (hr : mR M = some .int ∨ (mR M = some .boolean ∧ 0 ≤ x ∧ x ≤ 1)) (hc : ca ≤ mc ∧ sa ≤ ms) (hq : Q (some (vI x)) E D) : Zg g M mc ms Q pc L [vI x] E D ca sa := by
  intro p l e R s m args below meth c X hR H locs ls hH hS hl hL hs
  refine W.widen hc.1 hc.2 ?_
  have hlocks := X.2.2.2.2.2.2.1
  rcases hr with hr | ⟨hr, hx⟩
  · exact W.iret (v := Int32.ofInt x) X.1 X.2.1 (X.2.2.2.1.trans hr) (fun t ht _ => qp_ret (v := vI x) hH hS (ok1 hs).1 hq ht) hS.2.2 d
  · exact W.zret (v := Int32.ofInt x) (ty := .boolean) X.1 X.2.1 (X.2.2.2.1.trans hr) (z_nar_b hx) (fun t ht _ => qp_ret (v := vI x) hH hS (ok1 hs).1 hq ht) hS.2.2 d
theorem q_lret {x : Int} (d : decode (mC M) pc = .ok (.lreturn, 1)) (hr : mR M = some .long) (hc : ca ≤ mc ∧ sa ≤ ms) (hq : Q (some (vL x)) E D) : Zg g M mc ms Q pc L [vL x] E D ca sa := by
  intro p l e R s m args below meth c X hR H locs ls hH hS hl hL hs
  refine W.widen hc.1 hc.2 ?_
  have hlocks := X.2.2.2.2.2.2.1
  exact W.lret (v := Int64.ofInt x) X.1 X.2.1 (X.2.2.2.1.trans hr) (fun t ht _ => qp_ret (v := vL x) hH hS (ok1 hs).1 hq ht) hS.2.2 d
theorem q_dret {x : Int} (d : decode (mC M) pc = .ok (.dreturn, 1)) (hr : mR M = some .double) (hc : ca ≤ mc ∧ sa ≤ ms) (hq : Q (some (vD x)) E D) : Zg g M mc ms Q pc L [vD x] E D ca sa := by
  intro p l e R s m args below meth c X hR H locs ls hH hS hl hL hs
  refine W.widen hc.1 hc.2 ?_
  have hlocks := X.2.2.2.2.2.2.1
  exact W.dret (v := zdu x) X.1 X.2.1 (X.2.2.2.1.trans hr) (fun t ht _ => qp_ret (v := vD x) hH hS (ok1 hs).1 hq ht) hS.2.2 d
theorem q_vret (d : decode (mC M) pc = .ok (.return_, 1)) (hr : mR M = none) (hc : ca ≤ mc ∧ sa ≤ ms) (hq : Q none E D) : Zg g M mc ms Q pc L [] E D ca sa := by
  intro p l e R s m args below meth c X hR H locs ls hH hS hl hL hs
  refine W.widen hc.1 hc.2 ?_
  have hlocks := X.2.2.2.2.2.2.1
  exact W.vret X.1 X.2.1 (X.2.2.2.1.trans hr) (fun t ht _ => qp_retv hH hS hq ht) hS.2.2 d
theorem q_aret {a : Nat} {C : String} (d : decode (mC M) pc = .ok (.areturn, 1)) (hr : mR M = some (.object C)) (hc : ca ≤ mc ∧ sa ≤ ms) (hq : Q (some (vR a)) E D) : Zg g M mc ms Q pc L [vR a] E D ca sa := by
  intro p l e R s m args below meth c X hR H locs ls hH hS hl hL hs
  refine W.widen hc.1 hc.2 ?_
  have hlocks := X.2.2.2.2.2.2.1
  exact W.aret (v := .ref (gB g + a)) X.1 X.2.1 (X.2.2.2.1.trans hr) (Or.inl ⟨_, rfl⟩) (Or.inr ⟨_, rfl⟩) (fun t ht _ => qp_ret (v := vR a) hH hS trivial hq ht) hS.2.2 d
theorem q_aretN {C : String} (d : decode (mC M) pc = .ok (.areturn, 1)) (hr : mR M = some (.object C)) (hc : ca ≤ mc ∧ sa ≤ ms) (hq : Q (some vN) E D) : Zg g M mc ms Q pc L [vN] E D ca sa := by
  intro p l e R s m args below meth c X hR H locs ls hH hS hl hL hs
  refine W.widen hc.1 hc.2 ?_
  have hlocks := X.2.2.2.2.2.2.1
  exact W.aret (v := .null) X.1 X.2.1 (X.2.2.2.1.trans hr) (Or.inl ⟨_, rfl⟩) (Or.inl rfl) (fun t ht _ => qp_ret (v := vN) hH hS trivial hq ht) hS.2.2 d
theorem zT_good : ∀ w ∈ zT, goodWord w = true := fun _ h => (List.mem_filter.mp h).2
theorem Kn.moved {s U : State} (hW : s.WarmedH U.vm) (hh : gB g ≤ U.heap.size) (hb : ∀ q, q < gB g → U.heap[q]? = s.heap[q]?) (h : Kn g s) : Kn g U := by
  obtain ⟨h1, h2, h3, h4, h5, h6⟩ := h
  refine ⟨va_K.moved hW.alike h1, fun w hw => ?_, fun C hC => (h3 C hC).moved hW.alike, (h4.kept (hb _ h5)).moved hW.alike, h5, hh⟩
  have hz := h2 w hw
  have ho := zNest_ok w hw
  cases w <;> first | (cases ho; done) | exact hz.warmF hW | exact hz.warmM hW
theorem Kn.calling {U : State} {f : JFrame} {mk : MethodId} {a : Array Value} (h : Kn g U) : Kn g (U.calling f mk a) := by
  obtain ⟨h1, h2, h3, h4, h5, h6⟩ := h
  refine ⟨va_K.moved (u := U) (U := U.calling f mk a) (Vm.Alike.refl U.vm) h1, fun w hw => ?_, fun C hC => va_AO.moved (u := U) (U := U.calling f mk a) (Vm.Alike.refl U.vm) (h3 C hC), va_X.moved (u := U) (U := U.calling f mk a) (Vm.Alike.refl U.vm) h4, h5, h6⟩
  have hz := h2 w hw
  have ho := zNest_ok w hw
  cases w <;> first | (cases ho; done) | exact va_Nw.same rfl rfl hz
theorem blind_Pc {as : List VV} : FrameBlind (zPc g as E D) := fun a U f mk h => ⟨h.1, h.2.1, h.2.2.1, h.2.2.2.calling⟩
theorem goodIn_ws (hM : Cond.code (mY M') (mC M') (mL M') (mR M') ∈ zT) : GoodIn zT (zws M') := by
  intro w hw
  have hw' : w ∈ zT := by
    rcases List.mem_cons.mp hw with h | h
    · rw [h]; exact hM
    · exact h
  exact ⟨hw', good_of_word (zT_good w hw')⟩
/-- a walk from a method's entry gives its contract -/
def entL : List VV → List VV
  | [] => []
  | v :: l => if zcat v = 2 then v :: vU :: entL l else v :: entL l
def ent (as : List VV) (n : Nat) : List VV := entL as ++ List.replicate (n - (entL as).length) vU
theorem entL_sl (as : List VV) : (lg_sl (as.map (val g))).length = (entL as).length ∧ ∀ (i : Nat) (v : VV), (entL as)[i]? = some v → v.1 ≠ 5 → (lg_sl (as.map (val g)))[i]? = some (.val (val g v)) := by
  induction as with
  | nil => exact ⟨rfl, fun i v h => by simp [entL] at h⟩
  | cons a as ih =>
    unfold lg_sl at ih ⊢
    rw [List.map_cons, List.flatMap_cons, zcat_val]
    unfold entL
    by_cases hc : zcat a = 2
    · rw [if_pos hc, if_pos hc]
      refine ⟨by simp [ih.1], fun i v h hv => ?_⟩
      match i, h with
      | 0, h => simp at h; subst h; rfl
      | 1, h => simp at h; subst h; exact absurd rfl hv
      | i + 2, h => simp at h; simpa using ih.2 i v h hv
    · rw [if_neg hc, if_neg hc]
      refine ⟨by simp [ih.1], fun i v h hv => ?_⟩
      match i, h with
      | 0, h => simp at h; subst h; rfl
      | i + 1, h => simp at h; simpa using ih.2 i v h hv
theorem ent_rel {as : List VV} {n : Nat} (h : (entL as).length ≤ n) : lrel g n (ent as n) ((lg_sl (as.map (val g)) ++ List.replicate (n - (lg_sl (as.map (val g))).length) Slot.unset).toArray) := by
  obtain ⟨e1, e2⟩ := entL_sl (g := g) as
  have h0 := lv_entry (as.map (val g)) (n := n) (by rw [e1]; exact h)
  refine ⟨h0.1, h0.2.1, fun i v hi hv => ?_⟩
  unfold ent at hi
  by_cases hl : i < (entL as).length
  · rw [List.getElem?_append_left hl] at hi
    have := e2 i v hi hv
    rw [List.getElem?_toArray, List.getElem?_append_left (by rw [e1]; exact hl)]
    exact this
  · rw [List.getElem?_append_right (by omega), List.getElem?_replicate] at hi
    split at hi
    · cases hi; exact absurd rfl hv
    · cases hi
theorem ok_entL {as : List VV} (h : ∀ v ∈ as, okv v) : ∀ v ∈ entL as, okv v := by
  induction as with
  | nil => exact fun v h => by cases h
  | cons a as ih =>
    unfold entL
    split
    · exact okc (ok1 h).1 (okc ok_vU (ih (ok1 h).2))
    · exact okc (ok1 h).1 (ih (ok1 h).2)
theorem at_intro {as L0 : List VV} {n : Nat} (hM : MOK M n) (hL : (entL as).length ≤ mL M) (h0 : ent as (mL M) = L0) (h : Zg g M mc ms Q 0 L0 [] E D 0 0) : AT g M mc ms as E D Q := by
  subst h0
  intro l
  refine Met.ofW (cc := mC M) (maxL := mL M) (ret := mR M) hM.2.2.1 rfl ?_
  intro p e s m args below meth c s₁ B hml hv
  obtain ⟨rfl, hok, hH, hK⟩ := hv
  have hts0 := atoms_spec (ws := zws M) B.pre
  have hts : ∀ w ∈ zT, w.before (as.map (val g)).toArray s = true := fun w hw => hts0 w (List.mem_cons_of_mem _ hw)
  rw [lg_entry_eq]
  exact h p l e (headSpec (zws M) (zrm M mc ms)).room s m _ below meth c ⟨B.exec, B.bytes, hml, B.returns, findClass_of_methodNamed B.named, hts, B.notSynchronized, fun hn => ((name_of_methodNamed B.named B.method).1).trans hn, hK⟩
    ⟨Nat.le_refl _, Nat.le_refl _, Nat.le_refl _, Nat.le_refl _⟩ s.heap [] _ hH va_S.rf (ent_rel hL) (fun v hv => by
      rcases List.mem_append.mp hv with h | h
      · exact ok_entL hok v h
      · rw [(List.mem_replicate.mp h).2]; exact ok_vU) (fun v h => by cases h)
theorem AT.mono {as : List VV} (h : AT g M mc ms as E D Q) (hq : ∀ r E' D', Q r E' D' → Q' r E' D') : AT g M mc ms as E D Q' := by
  intro l p e ha hc hk s m args below hf happ hP hT
  obtain ⟨t, o, h1, h2, h3, ⟨⟨⟨r, E', D', a1, a2, a3, a4⟩, a5⟩, hL⟩⟩ := h l p e ha hc hk s m args below hf happ hP hT
  exact ⟨t, o, h1, h2, h3, ⟨⟨⟨r, E', D', a1, a2, a3, hq r E' D' a4⟩, a5⟩, hL⟩⟩
/-- behind a call -/
theorem call_core {p : Program} {l : Launch} {e : Env} {R : Room} {s : State} {m : MethodId} {args : Array Value} {below : List Frame} {meth : Method} {c : Code} (X : Cx g M p s m args meth c) (hR : mdp M ≤ R.frames ∧ 48 * mdp M ≤ R.locals ∧ mc ≤ R.cells ∧ ms ≤ R.slots)
    {H : Heap} {locs : List Loc} {ls : Array Slot} {a : Array Value} {st0 : List Value} (hr : va_Run p l e R s m args below meth c H locs ca sa mc' ms' (F0 m pc ls st0) (st.map (val g)) (Qp g Q' a) (zfr g))
    (hS : va_S (zfr g) s.heap H locs) (hl : lrel g (mL M) L ls) (hL : ∀ v ∈ L, okv v) (hs : ∀ v ∈ st, okv v)
    (kk : ∀ r E' D', Q' r E' D' → Zg g M mc ms Q (pc + 3) L (r.toList ++ st) E' D' (ca + mc') (sa + ms')) : W p l e R s m args below meth c H locs ca sa (MQ below (Qp g Q) args s mc ms (zfr g)) (F0 m pc ls st0) := by
  intro T hT X0
  obtain ⟨v, st₀, t, T', L1, h0, X', hL1, e1, e2, ⟨⟨r, E', D', a1, a2, a3, a4⟩, a5, a6⟩, hst⟩ := hr T hT X0
  have hv : v = r.map (val g) := Outcome.returned.inj a1
  subst hv
  rw [h0] at a5 a6
  have hS' : va_S (zfr g) s.heap T'.heap (locs ++ L1) := ⟨Nat.le_trans hS.1 (by rw [e1]; exact a5), fun q h1 h2 => by rw [e1, a6 q (Nat.lt_of_lt_of_le h1 hS.1) h2]; exact hS.2.1 q h1 h2, fun q hq => by
    rcases List.mem_append.mp hq with h | h
    · exact hS.2.2 q h
    · exact hL1 q h⟩
  obtain ⟨t2, b1, b2⟩ := kk r E' D' a4 p l e R s m args below meth c X hR T'.heap (locs ++ L1) ls (by rw [e1]; exact a3) hS' hl hL (fun w hw => by
    rcases List.mem_append.mp hw with h | h
    · cases r with
      | none => cases h
      | some z => rw [Option.toList_some, List.mem_singleton] at h; rw [h]; exact a2 z rfl
    · exact hs w h) T' rfl X'
  refine ⟨t2, hst t2 ?_, b2⟩
  have e3 : (r.map (val g)).toList ++ st.map (val g) = (r.toList ++ st).map (val g) := by cases r <;> simp
  rw [e3]
  exact b1
theorem pre_call {p : Program} {s : State} {m : MethodId} {args : Array Value} {meth : Method} {c : Code} (X : Cx g M p s m args meth c) {H : Heap} {locs : List Loc} (hH : Hp g E D H) (hS : va_S (zfr g) s.heap H locs) {as : List VV} (hok : ∀ v ∈ as, okv v) : ∀ U : State, U.heap = H → s.WarmedH U.vm → zPc g as E D (as.map (val g)).toArray U := by
  intro U hU hW
  have h0 := X.2.2.2.2.2.2.2.2.2.2.2.2.2
  refine ⟨rfl, hok, by rw [hU]; exact hH, X.2.2.2.2.2.2.2.2.moved hW (by rw [hU]; exact Nat.le_trans h0 hS.1) (fun q hq => ?_)⟩
  rw [hU]
  exact hS.2.1 q (Nat.lt_of_lt_of_le hq h0) (by show ¬ gB g ≤ q; omega)
theorem ok_split {as : List VV} {v : VV} (h : ∀ w ∈ as.reverse ++ v :: st, okv w) : (∀ w ∈ v :: as, okv w) ∧ ∀ w ∈ st, okv w := by
  refine ⟨fun w hw => ?_, fun w hw => h w (List.mem_append_right _ (List.mem_cons_of_mem _ hw))⟩
  rcases List.mem_cons.mp hw with q | q
  · exact h w (List.mem_append_right _ (by rw [q]; exact List.mem_cons_self))
  · exact h w (List.mem_append_left _ (List.mem_reverse.mpr q))
theorem ok_splitS {as : List VV} (h : ∀ w ∈ as.reverse ++ st, okv w) : (∀ w ∈ as, okv w) ∧ ∀ w ∈ st, okv w :=
  ⟨fun w hw => h w (List.mem_append_left _ (List.mem_reverse.mpr hw)), fun w hw => h w (List.mem_append_right _ hw)⟩
theorem map_rev {as : List VV} {v : VV} : (as.reverse ++ v :: st).map (val g) = (as.map (val g)).reverse ++ val g v :: st.map (val g) := by rw [List.map_append, List.map_reverse, List.map_cons]
theorem map_revS {as : List VV} : (as.reverse ++ st).map (val g) = (as.map (val g)).reverse ++ st.map (val g) := by rw [List.map_append, List.map_reverse]
theorem zrecv_of {s : State} {ci N : Nat} {C : String} {T : u_T} {a : Nat} {H : Heap} (hc : ZC ci C T N) (hK : va_K (gD g) zcl (ztys g) s) (hH : Hp g E D H) (ha : zk a = (0, ci, 0)) (hn : a < E.2.1) : ∃ cell : Cell, H[gB g + a]? = some cell ∧ cell.vm.isStatics = false ∧ s.vm.findClass C = some cell.cls := by
  have h := va_recv (a := gB g + a) hK hH.1 (ci := ci) (q0 := a) (fs := (List.range (znf ci)).map (fun k => fval g E ci a (D a) k)) hc.1 (by rw [wld_get hn, cell_O ha])
  exact h
/-- side numbers of a call: the callee is less deep; its locals are few; what stays on the stack -/
def callok (M M' : MI) (st : List VV) : Bool := decide (mdp M' + 1 ≤ mdp M) && decide (mL M' ≤ 29) && decide (zcats st ≤ 8)
theorem callok_R {R : Room} (h : callok M M' st = true) (hR : mdp M ≤ R.frames ∧ 48 * mdp M ≤ R.locals ∧ mc ≤ R.cells ∧ ms ≤ R.slots) : (zrm M' mc' ms').frames + 1 ≤ R.frames ∧ 8 + (mL M' + 11) + (zrm M' mc' ms').locals ≤ R.locals := by
  unfold callok at h
  simp only [Bool.and_eq_true, decide_eq_true_eq] at h
  obtain ⟨⟨h1, h2⟩, h3⟩ := h
  show mdp M' + 1 ≤ R.frames ∧ 8 + (mL M' + 11) + 48 * mdp M' ≤ R.locals
  omega
theorem callok_W {m : MethodId} {ls : Array Slot} {st0 : List Value} (h : callok M M' st = true) : 2 * (F0 m pc ls st0).monitorRoom + ((st.map (val g)).map fun v => v.category).sum ≤ 8 := by
  unfold callok at h
  simp only [Bool.and_eq_true, decide_eq_true_eq] at h
  rw [zcats_sum]
  show 2 * 0 + _ ≤ 8
  omega
theorem q_callV {n index ci N : Nat} {C : String} {T : u_T} {a : Nat} {as stk : List VV} (hM : MOK M' n) (hV : MVV M') (hl : Cond.methodLink (mY M).cls index (mY M') ∈ zT) (hc : ZC ci C T N) (hC : (mY M').cls = C) (d : decode (mC M) pc = .ok (.invokevirtual index, 3)) (hk : callok M M' st = true) (hn : as.length = n) (hstk : stk = as.reverse ++ vR a :: st)
    (ha : zk a = (0, ci, 0)) (hna : a < E.2.1) (hcs : ca + mc' ≤ mc ∧ sa + ms' ≤ ms) (hA : AT g M' mc' ms' (vR a :: as) E D Q') (kk : ∀ r E' D', Q' r E' D' → Zg g M mc ms Q (pc + 3) L (r.toList ++ st) E' D' (ca + mc') (sa + ms')) : Zg g M mc ms Q pc L stk E D ca sa := by
  subst hstk
  intro p l e R s m args below meth c X hR H locs ls hH hS hl' hL hs
  have hts := X.2.2.2.2.2.1
  obtain ⟨hsa, hss⟩ := ok_split hs
  rw [map_rev]
  subst hC
  have hr := va_runV (p := p) (l := l) (e := e) (R := R) (s := s) (m := m) (args := args) (below := below) (meth := meth) (c := c) (H := H) (locs := locs) (cells := ca) (slots := sa) (C := (mY M').cls) (b := gB g + a) (As := as.map (val g)) (rest := st.map (val g)) (g := F0 m pc ls ((as.map (val g)).reverse ++ val g (vR a) :: st.map (val g))) (nL := mL M) ⟨X.1, X.2.1, X.2.2.1, X.2.2.2.2.1, hts⟩ (hA l)
    (⟨callB_of n hts (goodIn_ws hM.1) rfl rfl rfl (hts _ hM.2.1) (hts _ hl) ⟨hM.2.2.2.1, hM.2.2.2.2.1, hM.2.2.2.2.2⟩ (callok_R hk hR), hts _ hV.1, hts _ hV.2⟩)
    ⟨blind_Pc, zrecv_of hc X.2.2.2.2.2.2.2.2.1 hH ha hna, fun U hU hW => pre_call X hH hS hsa U hU hW⟩ rfl (by rw [List.length_map]; exact hn) hl'.1 rfl (callok_W hk) d ⟨Nat.le_trans hcs.1 hR.2.2.1, Nat.le_trans hcs.2 hR.2.2.2⟩
  exact call_core X hR hr hS hl' hL hss kk
theorem q_callVN {n index ci N : Nat} {C h0 : String} {T : u_T} {a : Nat} {as stk : List VV} (hM : MOK M' n) (hV : MVV M') (hl : Cond.methodLinkNest (mY M).cls index (mY M') h0 ∈ zNest) (hc : ZC ci C T N) (hC : (mY M').cls = C) (d : decode (mC M) pc = .ok (.invokevirtual index, 3)) (hk : callok M M' st = true) (hn : as.length = n) (hstk : stk = as.reverse ++ vR a :: st)
    (ha : zk a = (0, ci, 0)) (hna : a < E.2.1) (hcs : ca + mc' ≤ mc ∧ sa + ms' ≤ ms) (hA : AT g M' mc' ms' (vR a :: as) E D Q') (kk : ∀ r E' D', Q' r E' D' → Zg g M mc ms Q (pc + 3) L (r.toList ++ st) E' D' (ca + mc') (sa + ms')) : Zg g M mc ms Q pc L stk E D ca sa := by
  subst hstk
  intro p l e R s m args below meth c X hR H locs ls hH hS hl' hL hs
  have hts := X.2.2.2.2.2.1
  obtain ⟨hsa, hss⟩ := ok_split hs
  rw [map_rev]
  subst hC
  have hr := va_runVN (p := p) (l := l) (e := e) (R := R) (s := s) (m := m) (args := args) (below := below) (meth := meth) (c := c) (H := H) (locs := locs) (cells := ca) (slots := sa) (C := (mY M').cls) (b := gB g + a) (As := as.map (val g)) (rest := st.map (val g)) (g := F0 m pc ls ((as.map (val g)).reverse ++ val g (vR a) :: st.map (val g))) (nL := mL M) (Ts := zT) ⟨X.1, X.2.1, X.2.2.1, X.2.2.2.2.1, hts⟩ (hA l)
    (⟨va_cnB n hts (goodIn_ws hM.1) rfl rfl rfl (X.2.2.2.2.2.2.2.2.2.1 _ hl) (hts _ hM.2.1) ⟨hM.2.2.2.1, hM.2.2.2.2.1, hM.2.2.2.2.2⟩ (callok_R hk hR), hts _ hV.1, hts _ hV.2⟩)
    ⟨blind_Pc, zrecv_of hc X.2.2.2.2.2.2.2.2.1 hH ha hna, fun U hU hW => pre_call X hH hS hsa U hU hW⟩ rfl (by rw [List.length_map]; exact hn) hl'.1 rfl (callok_W hk) d ⟨Nat.le_trans hcs.1 hR.2.2.1, Nat.le_trans hcs.2 hR.2.2.2⟩
  exact call_core X hR hr hS hl' hL hss kk
theorem q_callS {n index : Nat} {as stk : List VV} (hM : MOK M' n) (hV : MSS M') (hl : Cond.methodLink (mY M).cls index (mY M') ∈ zT) (d : decode (mC M) pc = .ok (.invokestatic index, 3)) (hk : callok M M' st = true) (hn : as.length = n) (hstk : stk = as.reverse ++ st)
    (hcs : ca + mc' ≤ mc ∧ sa + ms' ≤ ms) (hA : AT g M' mc' ms' as E D Q') (kk : ∀ r E' D', Q' r E' D' → Zg g M mc ms Q (pc + 3) L (r.toList ++ st) E' D' (ca + mc') (sa + ms')) : Zg g M mc ms Q pc L stk E D ca sa := by
  subst hstk
  intro p l e R s m args below meth c X hR H locs ls hH hS hl' hL hs
  have hts := X.2.2.2.2.2.1
  obtain ⟨hsa, hss⟩ := ok_splitS hs
  rw [map_revS]
  have hr := va_runS (p := p) (l := l) (e := e) (R := R) (s := s) (m := m) (args := args) (below := below) (meth := meth) (c := c) (H := H) (locs := locs) (cells := ca) (slots := sa) (As := as.map (val g)) (rest := st.map (val g)) (g := F0 m pc ls ((as.map (val g)).reverse ++ st.map (val g))) (nL := mL M) ⟨X.1, X.2.1, X.2.2.1, X.2.2.2.2.1, hts⟩ (hA l)
    (⟨callB_of n hts (goodIn_ws hM.1) rfl rfl rfl (hts _ hM.2.1) (hts _ hl) ⟨hM.2.2.2.1, hM.2.2.2.2.1, hM.2.2.2.2.2⟩ (callok_R hk hR), hts _ hV⟩)
    ⟨blind_Pc, fun U hU hW => pre_call X hH hS hsa U hU hW⟩ rfl (by rw [List.length_map]; exact hn) hl'.1 rfl (callok_W hk) d ⟨Nat.le_trans hcs.1 hR.2.2.1, Nat.le_trans hcs.2 hR.2.2.2⟩
  exact call_core X hR hr hS hl' hL hss kk
theorem q_callSN {n index : Nat} {h0 : String} {as stk : List VV} (hM : MOK M' n) (hV : MSS M') (hl : Cond.methodLinkNest (mY M).cls index (mY M') h0 ∈ zNest) (d : decode (mC M) pc = .ok (.invokestatic index, 3)) (hk : callok M M' st = true) (hn : as.length = n) (hstk : stk = as.reverse ++ st)
    (hcs : ca + mc' ≤ mc ∧ sa + ms' ≤ ms) (hA : AT g M' mc' ms' as E D Q') (kk : ∀ r E' D', Q' r E' D' → Zg g M mc ms Q (pc + 3) L (r.toList ++ st) E' D' (ca + mc') (sa + ms')) : Zg g M mc ms Q pc L stk E D ca sa := by
  subst hstk
  intro p l e R s m args below meth c X hR H locs ls hH hS hl' hL hs
  have hts := X.2.2.2.2.2.1
  obtain ⟨hsa, hss⟩ := ok_splitS hs
  rw [map_revS]
  have hr := va_runSN (p := p) (l := l) (e := e) (R := R) (s := s) (m := m) (args := args) (below := below) (meth := meth) (c := c) (H := H) (locs := locs) (cells := ca) (slots := sa) (As := as.map (val g)) (rest := st.map (val g)) (g := F0 m pc ls ((as.map (val g)).reverse ++ st.map (val g))) (nL := mL M) (Ts := zT) ⟨X.1, X.2.1, X.2.2.1, X.2.2.2.2.1, hts⟩ (hA l)
    (⟨va_cnB n hts (goodIn_ws hM.1) rfl rfl rfl (X.2.2.2.2.2.2.2.2.2.1 _ hl) (hts _ hM.2.1) ⟨hM.2.2.2.1, hM.2.2.2.2.1, hM.2.2.2.2.2⟩ (callok_R hk hR), hts _ hV, trivial⟩)
    ⟨blind_Pc, fun U hU hW => pre_call X hH hS hsa U hU hW⟩ rfl (by rw [List.length_map]; exact hn) hl'.1 rfl (callok_W hk) d ⟨Nat.le_trans hcs.1 hR.2.2.1, Nat.le_trans hcs.2 hR.2.2.2⟩
  exact call_core X hR hr hS hl' hL hss kk
theorem q_max {x y : Int} {index : Nat} (hl : Cond.methodLink (mY M).cls index Lib.Math.max.name ∈ zT) (d : decode (mC M) pc = .ok (.invokestatic index, 3)) (hk : (decide (1 ≤ mdp M) && decide (zcats st ≤ 8)) = true) (hcs : ca ≤ mc ∧ sa ≤ ms) (kk : Zg g M mc ms Q (pc + 3) L (vI (if x < y then y else x) :: st) E D ca sa) : Zg g M mc ms Q pc L (vI y :: vI x :: st) E D ca sa := by
  simp only [Bool.and_eq_true, decide_eq_true_eq] at hk
  refine zg_ok fun _ h _ => ?_
  have hx : R32 x := (ok2 h).2.1
  have hy : R32 y := (ok2 h).1
  intro p l e R s m args below meth c X hR H locs ls hH hS hl' hL hs
  have hts := X.2.2.2.2.2.1
  refine va_mmax X.1 X.2.1 (X.2.2.1.trans hl'.1.symm) X.2.2.2.2.1 (hts _ hl) (hts _ zx_max_s) (hts _ zx_copy.2.2.2) (hts _ zx_max_c) (by omega) (by rw [zcats_sum]; omega) (by omega) (by omega) d ?_
  have e9 : (if Int32.ofInt x < Int32.ofInt y then Int32.ofInt y else Int32.ofInt x) = Int32.ofInt (if x < y then y else x) := by
    by_cases hxy : x < y
    · rw [if_pos hxy, if_pos ((i32_lt hx hy).mpr hxy)]
    · rw [if_neg hxy, if_neg (fun q => hxy ((i32_lt hx hy).mp q))]
  rw [e9]
  exact kk p l e R s m args below meth c X hR H locs ls hH hS hl' hL (okI (by split <;> omega) (ok2 hs).2.2)
theorem q_min {x y : Int} {index : Nat} (hl : Cond.methodLink (mY M).cls index Lib.Math.min.name ∈ zT) (d : decode (mC M) pc = .ok (.invokestatic index, 3)) (hk : (decide (1 ≤ mdp M) && decide (zcats st ≤ 8)) = true) (hcs : ca ≤ mc ∧ sa ≤ ms) (kk : Zg g M mc ms Q (pc + 3) L (vI (if y < x then y else x) :: st) E D ca sa) : Zg g M mc ms Q pc L (vI y :: vI x :: st) E D ca sa := by
  simp only [Bool.and_eq_true, decide_eq_true_eq] at hk
  refine zg_ok fun _ h _ => ?_
  have hx : R32 x := (ok2 h).2.1
  have hy : R32 y := (ok2 h).1
  intro p l e R s m args below meth c X hR H locs ls hH hS hl' hL hs
  have hts := X.2.2.2.2.2.1
  refine va_mmin X.1 X.2.1 (X.2.2.1.trans hl'.1.symm) X.2.2.2.2.1 (hts _ hl) (hts _ zx_min_s) (hts _ zx_copy.2.2.2) (hts _ zx_min_c) (by omega) (by rw [zcats_sum]; omega) (by omega) (by omega) d ?_
  have e9 : (if Int32.ofInt y < Int32.ofInt x then Int32.ofInt y else Int32.ofInt x) = Int32.ofInt (if y < x then y else x) := by
    by_cases hxy : y < x
    · rw [if_pos hxy, if_pos ((i32_lt hy hx).mpr hxy)]
    · rw [if_neg hxy, if_neg (fun q => hxy ((i32_lt hy hx).mp q))]
  rw [e9]
  exact kk p l e R s m args below meth c X hR H locs ls hH hS hl' hL (okI (by split <;> omega) (ok2 hs).2.2)
end RC
end
section
/-! behind the constructors: all cells are there; contracts of whole methods -/
def Sg (g : GG) (M : MI) (Q : Option VV → EE → DD → Prop) (pc : Nat) (L st : List VV) (D : DD) : Prop := Zg g M 0 0 Q pc L st zE D 0 0
def rV (P : DD → Prop) : Option VV → EE → DD → Prop := fun r E D => r = none ∧ E = zE ∧ P D
def rI (P : Int → DD → Prop) : Option VV → EE → DD → Prop := fun r E D => E = zE ∧ ∃ x, r = some (vI x) ∧ P x D
def rL (P : Int → DD → Prop) : Option VV → EE → DD → Prop := fun r E D => E = zE ∧ ∃ x, r = some (vL x) ∧ P x D
def rD (P : Int → DD → Prop) : Option VV → EE → DD → Prop := fun r E D => E = zE ∧ ∃ x, r = some (vD x) ∧ P x D
def rR (P : Nat → DD → Prop) : Option VV → EE → DD → Prop := fun r E D => E = zE ∧ ∃ x, r = some (vR x) ∧ P x D
def rN (P : Option Nat → DD → Prop) : Option VV → EE → DD → Prop := fun r E D => E = zE ∧ ((r = some vN ∧ P none D) ∨ ∃ x, r = some (vR x) ∧ P (some x) D)
def CV (g : GG) (M : MI) (as : List VV) (D : DD) (P : DD → Prop) : Prop := AT g M 0 0 as zE D (rV P)
def CI (g : GG) (M : MI) (as : List VV) (D : DD) (P : Int → DD → Prop) : Prop := AT g M 0 0 as zE D (rI P)
def CL (g : GG) (M : MI) (as : List VV) (D : DD) (P : Int → DD → Prop) : Prop := AT g M 0 0 as zE D (rL P)
def CD (g : GG) (M : MI) (as : List VV) (D : DD) (P : Int → DD → Prop) : Prop := AT g M 0 0 as zE D (rD P)
def CR (g : GG) (M : MI) (as : List VV) (D : DD) (P : Nat → DD → Prop) : Prop := AT g M 0 0 as zE D (rR P)
def CN (g : GG) (M : MI) (as : List VV) (D : DD) (P : Option Nat → DD → Prop) : Prop := AT g M 0 0 as zE D (rN P)
theorem zk_lt {a t n x : Nat} (h : zk a = (t, n, x)) (ht : t < 9) : a < zE.2.1 := by
  show a < 735
  apply Nat.lt_of_not_le
  intro hl
  have hlen : zKT.length = 735 := by decide +kernel
  have : zk a = (9, 0, 0) := by
    unfold zk
    rw [List.getD_eq_getElem?_getD, List.getElem?_eq_none (by omega)]
    rfl
  rw [this] at h
  cases h
  omega
section SM
variable {g : GG} {M M' : MI} {Q : Option VV → EE → DD → Prop} {pc n : Nat} {L st L0 as : List VV} {D : DD}
theorem sg_ok (k : (∀ v ∈ L, okv v) → (∀ v ∈ st, okv v) → okD zE D → Sg g M Q pc L st D) : Sg g M Q pc L st D := zg_ok k
theorem CV.mono {P P' : DD → Prop} (h : CV g M as D P) (hp : ∀ D', P D' → P' D') : CV g M as D P' := AT.mono h fun _ _ D' q => ⟨q.1, q.2.1, hp D' q.2.2⟩
theorem CI.mono {P P' : Int → DD → Prop} (h : CI g M as D P) (hp : ∀ x D', P x D' → P' x D') : CI g M as D P' := AT.mono h fun _ _ D' ⟨e, x, q, r⟩ => ⟨e, x, q, hp x D' r⟩
theorem CL.mono {P P' : Int → DD → Prop} (h : CL g M as D P) (hp : ∀ x D', P x D' → P' x D') : CL g M as D P' := AT.mono h fun _ _ D' ⟨e, x, q, r⟩ => ⟨e, x, q, hp x D' r⟩
theorem CD.mono {P P' : Int → DD → Prop} (h : CD g M as D P) (hp : ∀ x D', P x D' → P' x D') : CD g M as D P' := AT.mono h fun _ _ D' ⟨e, x, q, r⟩ => ⟨e, x, q, hp x D' r⟩
theorem CR.mono {P P' : Nat → DD → Prop} (h : CR g M as D P) (hp : ∀ x D', P x D' → P' x D') : CR g M as D P' := AT.mono h fun _ _ D' ⟨e, x, q, r⟩ => ⟨e, x, q, hp x D' r⟩
theorem CN.mono {P P' : Option Nat → DD → Prop} (h : CN g M as D P) (hp : ∀ x D', P x D' → P' x D') : CN g M as D P' := AT.mono h fun _ _ D' ⟨e, q⟩ => ⟨e, q.elim (fun q => Or.inl ⟨q.1, hp _ _ q.2⟩) fun ⟨x, q, r⟩ => Or.inr ⟨x, q, hp _ _ r⟩⟩
theorem CV.intro {P : DD → Prop} (hM : MOK M n) (hL : (entL as).length ≤ mL M) (h0 : ent as (mL M) = L0) (h : Sg g M (rV P) 0 L0 [] D) : CV g M as D P := at_intro hM hL h0 h
theorem CI.intro {P : Int → DD → Prop} (hM : MOK M n) (hL : (entL as).length ≤ mL M) (h0 : ent as (mL M) = L0) (h : Sg g M (rI P) 0 L0 [] D) : CI g M as D P := at_intro hM hL h0 h
theorem CL.intro {P : Int → DD → Prop} (hM : MOK M n) (hL : (entL as).length ≤ mL M) (h0 : ent as (mL M) = L0) (h : Sg g M (rL P) 0 L0 [] D) : CL g M as D P := at_intro hM hL h0 h
theorem CD.intro {P : Int → DD → Prop} (hM : MOK M n) (hL : (entL as).length ≤ mL M) (h0 : ent as (mL M) = L0) (h : Sg g M (rD P) 0 L0 [] D) : CD g M as D P := at_intro hM hL h0 h
theorem CR.intro {P : Nat → DD → Prop} (hM : MOK M n) (hL : (entL as).length ≤ mL M) (h0 : ent as (mL M) = L0) (h : Sg g M (rR P) 0 L0 [] D) : CR g M as D P := at_intro hM hL h0 h
theorem CN.intro {P : Option Nat → DD → Prop} (hM : MOK M n) (hL : (entL as).length ≤ mL M) (h0 : ent as (mL M) = L0) (h : Sg g M (rN P) 0 L0 [] D) : CN g M as D P := at_intro hM hL h0 h
theorem retV {P : DD → Prop} (h : P D) : rV P none zE D := ⟨rfl, rfl, h⟩
theorem retI {P : Int → DD → Prop} {x : Int} (h : P x D) : rI P (some (vI x)) zE D := ⟨rfl, x, rfl, h⟩
theorem retL {P : Int → DD → Prop} {x : Int} (h : P x D) : rL P (some (vL x)) zE D := ⟨rfl, x, rfl, h⟩
theorem retD {P : Int → DD → Prop} {x : Int} (h : P x D) : rD P (some (vD x)) zE D := ⟨rfl, x, rfl, h⟩
theorem retR {P : Nat → DD → Prop} {x : Nat} (h : P x D) : rR P (some (vR x)) zE D := ⟨rfl, x, rfl, h⟩
theorem retN0 {P : Option Nat → DD → Prop} (h : P none D) : rN P (some vN) zE D := ⟨rfl, Or.inl ⟨rfl, h⟩⟩
theorem retNS {P : Option Nat → DD → Prop} {x : Nat} (h : P (some x) D) : rN P (some (vR x)) zE D := ⟨rfl, Or.inr ⟨x, rfl, h⟩⟩
/-- what stands behind a call, in the words of the callee's contract -/
abbrev Kt (g : GG) (M : MI) (Q : Option VV → EE → DD → Prop) (pc : Nat) (L st : List VV) : Option VV → EE → DD → Prop := fun r E' D' => Zg g M 0 0 Q pc L (r.toList ++ st) E' D' (0 + 0) (0 + 0)
theorem CV.to (h : CV g M' as D (fun D' => Sg g M Q pc L st D')) : AT g M' 0 0 as zE D (Kt g M Q pc L st) := AT.mono h fun r E' D' ⟨a, b, c⟩ => by subst a; subst b; exact c
theorem CI.to (h : CI g M' as D (fun x D' => Sg g M Q pc L (vI x :: st) D')) : AT g M' 0 0 as zE D (Kt g M Q pc L st) := AT.mono h fun r E' D' ⟨b, x, a, c⟩ => by subst a; subst b; exact c
theorem CL.to (h : CL g M' as D (fun x D' => Sg g M Q pc L (vL x :: st) D')) : AT g M' 0 0 as zE D (Kt g M Q pc L st) := AT.mono h fun r E' D' ⟨b, x, a, c⟩ => by subst a; subst b; exact c
theorem CD.to (h : CD g M' as D (fun x D' => Sg g M Q pc L (vD x :: st) D')) : AT g M' 0 0 as zE D (Kt g M Q pc L st) := AT.mono h fun r E' D' ⟨b, x, a, c⟩ => by subst a; subst b; exact c
theorem CR.to (h : CR g M' as D (fun x D' => Sg g M Q pc L (vR x :: st) D')) : AT g M' 0 0 as zE D (Kt g M Q pc L st) := AT.mono h fun r E' D' ⟨b, x, a, c⟩ => by subst a; subst b; exact c
def vO (o : Option Nat) : VV := match o with
  | none => vN
  | some a => vR a
theorem CN.to (h : CN g M' as D (fun o D' => Sg g M Q pc L (vO o :: st) D')) : AT g M' 0 0 as zE D (Kt g M Q pc L st) := AT.mono h fun r E' D' ⟨b, c⟩ => by
  subst b
  rcases c with ⟨rfl, c⟩ | ⟨x, rfl, c⟩
  · exact c
  · exact c
theorem p_callV {M' : MI} {n index ci N : Nat} {C : String} {T : u_T} {a : Nat} {as stk : List VV} (hM : MOK M' n) (hV : MVV M') (hl : Cond.methodLink (mY M).cls index (mY M') ∈ zT) (hc : ZC ci C T N) (hC : (mY M').cls = C) (d : decode (mC M) pc = .ok (.invokevirtual index, 3)) (hk : callok M M' st = true) (hn : as.length = n) (hstk : stk = as.reverse ++ vR a :: st)
    (ha : zk a = (0, ci, 0)) (hA : AT g M' 0 0 (vR a :: as) zE D (Kt g M Q (pc + 3) L st)) : Sg g M Q pc L stk D := q_callV hM hV hl hc hC d hk hn hstk ha (zk_lt ha (by decide)) ⟨Nat.le_refl _, Nat.le_refl _⟩ hA (fun _ _ _ h => h)
theorem p_callVN {M' : MI} {n index ci N : Nat} {C h0 : String} {T : u_T} {a : Nat} {as stk : List VV} (hM : MOK M' n) (hV : MVV M') (hl : Cond.methodLinkNest (mY M).cls index (mY M') h0 ∈ zNest) (hc : ZC ci C T N) (hC : (mY M').cls = C) (d : decode (mC M) pc = .ok (.invokevirtual index, 3)) (hk : callok M M' st = true) (hn : as.length = n) (hstk : stk = as.reverse ++ vR a :: st)
    (ha : zk a = (0, ci, 0)) (hA : AT g M' 0 0 (vR a :: as) zE D (Kt g M Q (pc + 3) L st)) : Sg g M Q pc L stk D := q_callVN hM hV hl hc hC d hk hn hstk ha (zk_lt ha (by decide)) ⟨Nat.le_refl _, Nat.le_refl _⟩ hA (fun _ _ _ h => h)
theorem p_callS {M' : MI} {n index : Nat} {as stk : List VV} (hM : MOK M' n) (hV : MSS M') (hl : Cond.methodLink (mY M).cls index (mY M') ∈ zT) (d : decode (mC M) pc = .ok (.invokestatic index, 3)) (hk : callok M M' st = true) (hn : as.length = n) (hstk : stk = as.reverse ++ st)
    (hA : AT g M' 0 0 as zE D (Kt g M Q (pc + 3) L st)) : Sg g M Q pc L stk D := q_callS hM hV hl d hk hn hstk ⟨Nat.le_refl _, Nat.le_refl _⟩ hA (fun _ _ _ h => h)
theorem p_callSN {M' : MI} {n index : Nat} {h0 : String} {as stk : List VV} (hM : MOK M' n) (hV : MSS M') (hl : Cond.methodLinkNest (mY M).cls index (mY M') h0 ∈ zNest) (d : decode (mC M) pc = .ok (.invokestatic index, 3)) (hk : callok M M' st = true) (hn : as.length = n) (hstk : stk = as.reverse ++ st)
    (hA : AT g M' 0 0 as zE D (Kt g M Q (pc + 3) L st)) : Sg g M Q pc L stk D := q_callSN hM hV hl d hk hn hstk ⟨Nat.le_refl _, Nat.le_refl _⟩ hA (fun _ _ _ h => h)
theorem p_getI {ci k N index : Nat} {C : String} {T : u_T} {a : Nat} {i : Int} (hc : ZC ci C T N) (hl : Cond.fieldLink (mY M).cls index (T k).1 (T k).2.1 (T k).2.2.1 ∈ zT) (hk : k < N ∧ (zft ci k).1 ≠ 2 ∧ (k : Int) = i) (d : decode (mC M) pc = .ok (.getfield index, 3)) (ha : zk a = (0, ci, 0)) (kk : Sg g M Q (pc + 3) L (vI (D a i) :: st) D) : Sg g M Q pc L (vR a :: st) D := q_getI hc hl hk d ha (zk_lt ha (by decide)) kk
theorem p_getIN {ci k N index : Nat} {C h0 : String} {T : u_T} {a : Nat} {i : Int} (hc : ZC ci C T N) (hl : Cond.fieldLinkNest (mY M).cls index (T k).1 (T k).2.1 (T k).2.2.1 h0 ∈ zNest) (hk : k < N ∧ (zft ci k).1 ≠ 2 ∧ (k : Int) = i) (d : decode (mC M) pc = .ok (.getfield index, 3)) (ha : zk a = (0, ci, 0)) (kk : Sg g M Q (pc + 3) L (vI (D a i) :: st) D) : Sg g M Q pc L (vR a :: st) D := q_getIN hc hl hk d ha (zk_lt ha (by decide)) kk
theorem p_getR {ci k N index off : Nat} {C : String} {T : u_T} {a b : Nat} (hc : ZC ci C T N) (hl : Cond.fieldLink (mY M).cls index (T k).1 (T k).2.1 (T k).2.2.1 ∈ zT) (hk : k < N ∧ zft ci k = (2, off)) (d : decode (mC M) pc = .ok (.getfield index, 3)) (ha : zk a = (0, ci, 0)) (hb : a + off = b) (kk : Sg g M Q (pc + 3) L (vR b :: st) D) : Sg g M Q pc L (vR a :: st) D := by subst hb; exact q_getR hc hl hk d ha (zk_lt ha (by decide)) rfl kk
theorem p_getRN {ci k N index off : Nat} {C h0 : String} {T : u_T} {a b : Nat} (hc : ZC ci C T N) (hl : Cond.fieldLinkNest (mY M).cls index (T k).1 (T k).2.1 (T k).2.2.1 h0 ∈ zNest) (hk : k < N ∧ zft ci k = (2, off)) (d : decode (mC M) pc = .ok (.getfield index, 3)) (ha : zk a = (0, ci, 0)) (hb : a + off = b) (kk : Sg g M Q (pc + 3) L (vR b :: st) D) : Sg g M Q pc L (vR a :: st) D := by subst hb; exact q_getRN hc hl hk d ha (zk_lt ha (by decide)) rfl kk
theorem p_putI {ci k N index : Nat} {C : String} {T : u_T} {a : Nat} {i x : Int} (hc : ZC ci C T N) (hl : Cond.fieldLink (mY M).cls index (T k).1 (T k).2.1 (T k).2.2.1 ∈ zT) (hk : k < N ∧ (zft ci k).1 ≠ 2 ∧ (k : Int) = i ∧ (T k).2.2.2 = false) (hd : (T k).2.2.1 = "I" ∨ ((T k).2.2.1 = "Z" ∧ 0 ≤ x ∧ x ≤ 1)) (d : decode (mC M) pc = .ok (.putfield index, 3)) (ha : zk a = (0, ci, 0)) (kk : ∀ D', D' = zw D a i x → Sg g M Q (pc + 3) L st D') : Sg g M Q pc L (vI x :: vR a :: st) D := q_putI hc hl hk hd d ha (zk_lt ha (by decide)) kk
theorem p_putIN {ci k N index : Nat} {C h0 : String} {T : u_T} {a : Nat} {i x : Int} (hc : ZC ci C T N) (hl : Cond.fieldLinkNest (mY M).cls index (T k).1 (T k).2.1 (T k).2.2.1 h0 ∈ zNest) (hk : k < N ∧ (zft ci k).1 ≠ 2 ∧ (k : Int) = i ∧ (T k).2.2.2 = false) (hd : (T k).2.2.1 = "I" ∨ ((T k).2.2.1 = "Z" ∧ 0 ≤ x ∧ x ≤ 1)) (d : decode (mC M) pc = .ok (.putfield index, 3)) (ha : zk a = (0, ci, 0)) (kk : ∀ D', D' = zw D a i x → Sg g M Q (pc + 3) L st D') : Sg g M Q pc L (vI x :: vR a :: st) D := q_putIN hc hl hk hd d ha (zk_lt ha (by decide)) kk
theorem p_iald {a n : Nat} {i : Int} (d : decode (mC M) pc = .ok (.iaload, 1)) (ha : zk a = (1, n, 0)) (hi : 0 ≤ i ∧ i < n) (kk : Sg g M Q (pc + 1) L (vI (D a i) :: st) D) : Sg g M Q pc L (vI i :: vR a :: st) D := q_iald d ha (zk_lt ha (by decide)) hi kk
theorem p_zald {a n : Nat} {i : Int} (d : decode (mC M) pc = .ok (.baload, 1)) (ha : zk a = (3, n, 0)) (hi : 0 ≤ i ∧ i < n) (kk : Sg g M Q (pc + 1) L (vI (D a i) :: st) D) : Sg g M Q pc L (vI i :: vR a :: st) D := q_zald d ha (zk_lt ha (by decide)) hi kk
theorem p_cald {a n : Nat} {i : Int} (d : decode (mC M) pc = .ok (.caload, 1)) (ha : zk a = (4, n, 0)) (hi : 0 ≤ i ∧ i < n) (kk : Sg g M Q (pc + 1) L (vI (D a i) :: st) D) : Sg g M Q pc L (vI i :: vR a :: st) D := q_cald d ha (zk_lt ha (by decide)) hi kk
theorem p_lald {a n : Nat} {i : Int} (d : decode (mC M) pc = .ok (.laload, 1)) (ha : zk a = (2, n, 0)) (hi : 0 ≤ i ∧ i < n) (kk : Sg g M Q (pc + 1) L (vL (D a i) :: st) D) : Sg g M Q pc L (vI i :: vR a :: st) D := q_lald d ha (zk_lt ha (by decide)) hi kk
theorem p_iast {a n : Nat} {i x : Int} (d : decode (mC M) pc = .ok (.iastore, 1)) (ha : zk a = (1, n, 0)) (hi : 0 ≤ i ∧ i < n) (kk : ∀ D', D' = zw D a i x → Sg g M Q (pc + 1) L st D') : Sg g M Q pc L (vI x :: vI i :: vR a :: st) D := q_iast d ha (zk_lt ha (by decide)) hi kk
theorem p_zast {a n : Nat} {i x : Int} (d : decode (mC M) pc = .ok (.bastore, 1)) (ha : zk a = (3, n, 0)) (hi : 0 ≤ i ∧ i < n) (ox : 0 ≤ x ∧ x ≤ 1) (kk : ∀ D', D' = zw D a i x → Sg g M Q (pc + 1) L st D') : Sg g M Q pc L (vI x :: vI i :: vR a :: st) D := q_zast d ha (zk_lt ha (by decide)) hi ox kk
theorem p_cast {a n : Nat} {i x : Int} (d : decode (mC M) pc = .ok (.castore, 1)) (ha : zk a = (4, n, 0)) (hi : 0 ≤ i ∧ i < n) (ox : 0 ≤ x ∧ x < 65536) (kk : ∀ D', D' = zw D a i x → Sg g M Q (pc + 1) L st D') : Sg g M Q pc L (vI x :: vI i :: vR a :: st) D := q_cast d ha (zk_lt ha (by decide)) hi ox kk
theorem p_last {a n : Nat} {i x : Int} (d : decode (mC M) pc = .ok (.lastore, 1)) (ha : zk a = (2, n, 0)) (hi : 0 ≤ i ∧ i < n) (kk : ∀ D', D' = zw D a i x → Sg g M Q (pc + 1) L st D') : Sg g M Q pc L (vL x :: vI i :: vR a :: st) D := q_last d ha (zk_lt ha (by decide)) hi kk
theorem p_aald {a n t b : Nat} {i : Int} (d : decode (mC M) pc = .ok (.aaload, 1)) (ha : zk a = (5, n, t)) (ht : (zra t).1 = 5 ∨ (zra t).1 = 6) (hi : 0 ≤ i ∧ i < n) (hb : a + (zra t).2.1 + (zra t).2.2 * i.toNat = b) (kk : Sg g M Q (pc + 1) L (vR b :: st) D) : Sg g M Q pc L (vI i :: vR a :: st) D := by subst hb; exact q_aald d ha ht (zk_lt ha (by decide)) hi rfl kk
theorem p_alen {a n : Nat} (d : decode (mC M) pc = .ok (.arraylength, 1)) (ha : zk a = (1, n, 0)) (hk : n ≤ 2147483647) (kk : Sg g M Q (pc + 1) L (vI n :: st) D) : Sg g M Q pc L (vR a :: st) D := q_alen d ha ⟨rfl, hk⟩ (zk_lt ha (by decide)) kk
end SM
theorem zcmp_lt {x y : Int} : zcmp x y < 0 ↔ x < y := by unfold zcmp; split <;> (try split) <;> omega
theorem zcmp_le {x y : Int} : zcmp x y ≤ 0 ↔ x ≤ y := by unfold zcmp; split <;> (try split) <;> omega
theorem zcmp_gt {x y : Int} : 0 < zcmp x y ↔ y < x := by unfold zcmp; split <;> (try split) <;> omega
theorem zcmp_ge {x y : Int} : 0 ≤ zcmp x y ↔ y ≤ x := by unfold zcmp; split <;> (try split) <;> omega
theorem zcmp_eq {x y : Int} : zcmp x y = 0 ↔ x = y := by unfold zcmp; split <;> (try split) <;> omega
theorem zcmp_ne {x y : Int} : ¬ zcmp x y = 0 ↔ ¬ x = y := not_congr zcmp_eq
theorem zc_Ke : ZC 0 R_Ke F_Ke 9 := ⟨rfl, by decide +kernel, i_Ke, ⟨t_Ke, t_Ke_ok⟩, n_Ke⟩
theorem zc_Jo : ZC 1 R_Jo F_Jo 5 := ⟨rfl, by decide +kernel, i_Jo, ⟨t_Jo, t_Jo_ok⟩, n_Jo⟩
theorem zc_Le : ZC 2 R_Le F_Le 3 := ⟨rfl, by decide +kernel, i_Le, ⟨t_Le, t_Le_ok⟩, n_Le⟩
theorem zc_Na : ZC 3 R_Na F_Na 2 := ⟨rfl, by decide +kernel, i_Na, ⟨t_Na, t_Na_ok⟩, n_Na⟩
theorem zc_Fr : ZC 4 R_Fr F_Fr 2 := ⟨rfl, by decide +kernel, i_Fr, ⟨t_Fr, t_Fr_ok⟩, n_Fr⟩
theorem zc_Pr : ZC 5 R_Pr F_Pr 8 := ⟨rfl, by decide +kernel, i_Pr, ⟨t_Pr, t_Pr_ok⟩, n_Pr⟩
theorem zc_Re : ZC 6 R_Re F_Re 9 := ⟨rfl, by decide +kernel, i_Re, ⟨t_Re, t_Re_ok⟩, n_Re⟩
theorem zc_Pl : ZC 7 R_Pl F_Pl 13 := ⟨rfl, by decide +kernel, i_Pl, ⟨t_Pl, t_Pl_ok⟩, n_Pl⟩
theorem zc_Fo : ZC 8 R_Fo F_Fo 9 := ⟨rfl, by decide +kernel, i_Fo, ⟨t_Fo, t_Fo_ok⟩, n_Fo⟩
theorem zc_Sp : ZC 9 R_Sp F_Sp 6 := ⟨rfl, by decide +kernel, i_Sp, ⟨t_Sp, t_Sp_ok⟩, n_Sp⟩
theorem zc_Te : ZC 10 R_Te F_Te 4 := ⟨rfl, by decide +kernel, i_Te, ⟨t_Te, t_Te_ok⟩, n_Te⟩
theorem zc_Mo : ZC 11 R_Mo F_Mo 34 := ⟨rfl, by decide +kernel, i_Mo, ⟨t_Mo, t_Mo_ok⟩, n_Mo⟩
def zch (k : Nat × Nat × Nat) (f : List (Nat × Nat × Nat) → Bool) : List (Nat × Nat × Nat) → Bool
  | [] => true
  | x :: l => (if x == k then f (x :: l) else true) && zch k f l
theorem zch_ok {k : Nat × Nat × Nat} {f : List (Nat × Nat × Nat) → Bool} {l : List (Nat × Nat × Nat)} (h : zch k f l = true) : ∀ a, l[a]? = some k → f (l.drop a) = true := by
  induction l with
  | nil => intro a ha; simp at ha
  | cons x l ih =>
    unfold zch at h
    rw [Bool.and_eq_true] at h
    intro a ha
    cases a with
    | zero =>
      simp at ha
      subst ha
      simpa using h.1
    | succ a =>
      rw [List.drop_succ_cons]
      exact ih h.2 a (by simpa using ha)
theorem zk_at {a t n x : Nat} (h : zk a = (t, n, x)) (ht : t < 9) : zKT[a]? = some (t, n, x) := by
  have hl := zk_lt h ht
  have hlen : zKT.length = 735 := by decide +kernel
  have hl' : a < zKT.length := by rw [hlen]; exact hl
  rw [List.getElem?_eq_getElem hl']
  unfold zk at h
  rw [List.getD_eq_getElem?_getD, List.getElem?_eq_getElem hl'] at h
  exact congrArg some h
theorem zk_off {a off t n x : Nat} {v : Nat × Nat × Nat} (h : zk a = (t, n, x)) (ht : t < 9) (hc : zch (t, n, x) (fun l => l.getD off (9, 0, 0) == v) zKT = true) : zk (a + off) = v := by
  have h1 := zch_ok hc a (zk_at h ht)
  have h2 := eq_of_beq h1
  unfold zk
  rw [← h2, List.getD_eq_getElem?_getD, List.getD_eq_getElem?_getD, List.getElem?_drop]
theorem zk_el {a c s i t n x : Nat} {v : Nat × Nat × Nat} (h : zk a = (t, n, x)) (ht : t < 9) (hi : i < n) (hc : zch (t, n, x) (fun l => (List.range n).all fun i => l.getD (c + s * i) (9, 0, 0) == v) zKT = true) : zk (a + c + s * i) = v := by
  have h1 := zch_ok hc a (zk_at h ht)
  have h2 := eq_of_beq (List.all_eq_true.mp h1 i (List.mem_range.mpr hi))
  unfold zk
  rw [← h2, List.getD_eq_getElem?_getD, List.getD_eq_getElem?_getD, List.getElem?_drop, Nat.add_assoc]
theorem zs_Na_digits {a : Nat} (h : zk a = (0, 3, 0)) : zk (a + 1) = (1, 32, 0) := zk_off h (by decide) (by decide +kernel)
theorem zs_Fr_top {a : Nat} (h : zk a = (0, 4, 0)) : zk (a + 1) = (0, 3, 0) := zk_off h (by decide) (by decide +kernel)
theorem zs_Fr_below {a : Nat} (h : zk a = (0, 4, 0)) : zk (a + 3) = (0, 3, 0) := zk_off h (by decide) (by decide +kernel)
theorem zs_Pr_begin {a : Nat} (h : zk a = (0, 5, 0)) : zk (a + 1) = (1, 24, 0) := zk_off h (by decide) (by decide +kernel)
theorem zs_Pr_end {a : Nat} (h : zk a = (0, 5, 0)) : zk (a + 2) = (1, 24, 0) := zk_off h (by decide) (by decide +kernel)
theorem zs_Pr_rate {a : Nat} (h : zk a = (0, 5, 0)) : zk (a + 3) = (5, 24, 0) := zk_off h (by decide) (by decide +kernel)
theorem zs_Pr_done {a : Nat} (h : zk a = (0, 5, 0)) : zk (a + 4) = (5, 12, 1) := zk_off h (by decide) (by decide +kernel)
theorem zs_Pr_worker {a : Nat} (h : zk a = (0, 5, 0)) : zk (a + 5) = (1, 200, 0) := zk_off h (by decide) (by decide +kernel)
theorem zs_Pr_cost {a : Nat} (h : zk a = (0, 5, 0)) : zk (a + 6) = (0, 4, 0) := zk_off h (by decide) (by decide +kernel)
theorem ze_0 {a : Nat} {i : Nat} (h : zk a = (5, 24, 0)) (hi : i < 24) : zk (a + 8 + 5 * i) = (0, 4, 0) := zk_el h (by decide) hi (by decide +kernel)
theorem ze_1 {a : Nat} {i : Nat} (h : zk a = (5, 12, 1)) (hi : i < 12) : zk (a + 127 + 5 * i) = (0, 4, 0) := zk_el h (by decide) hi (by decide +kernel)
theorem ze_2 {a : Nat} {i : Nat} (h : zk a = (5, 24, 2)) (hi : i < 24) : zk (a + 1 + 2 * i) = (0, 3, 0) := zk_el h (by decide) hi (by decide +kernel)
theorem ze_3 {a : Nat} {i : Nat} (h : zk a = (5, 12, 3)) (hi : i < 12) : zk (a + 10 + 5 * i) = (0, 4, 0) := zk_el h (by decide) hi (by decide +kernel)
theorem ze_4 {a : Nat} {i : Nat} (h : zk a = (5, 12, 4)) (hi : i < 12) : zk (a + 18 + 2 * i) = (0, 3, 0) := zk_el h (by decide) hi (by decide +kernel)
theorem ze_5 {a : Nat} {i : Nat} (h : zk a = (5, 12, 5)) (hi : i < 12) : zk (a + 7 + 10 * i) = (0, 4, 0) := zk_el h (by decide) hi (by decide +kernel)
theorem ze_6 {a : Nat} {i : Nat} (h : zk a = (5, 12, 6)) (hi : i < 12) : zk (a + 11 + 10 * i) = (0, 4, 0) := zk_el h (by decide) hi (by decide +kernel)
end
