section
-- ===== PART A: goes FIRST, ahead of the names: the tables' words, and 'selects' of the private methods out of them =====
/-- a private method of a class that the tables say can be made, by its rows of tables_1 -/
def lw_okq (q : MethodName × Nat) : Prop := (q.1.cls ≠ "java/lang/invoke/MethodHandle" ∧ q.1.cls ≠ "java/lang/invoke/VarHandle") ∧ Cond.instantiable q.1.cls q.2 ∈ tables_1 ∧ Cond.privateMethod q.1 ∈ tables_1 ∧ Cond.instanceMethod q.1 ∈ tables_1
theorem lw_p0 : lw_okq (⟨"PledgeMonitor$Text", "readClause", "(LPledgeMonitor$Clause;)Z"⟩, 6) := ⟨⟨by decide +kernel, by decide +kernel⟩, List.mem_of_getElem? (i := 28) (by decide +kernel), List.mem_of_getElem? (i := 399) (by decide +kernel), List.mem_of_getElem? (i := 400) (by decide +kernel)⟩
theorem lw_p1 : lw_okq (⟨"PledgeMonitor$Text", "readTrigger", "(LPledgeMonitor$Clause;)Z"⟩, 6) := ⟨⟨by decide +kernel, by decide +kernel⟩, List.mem_of_getElem? (i := 28) (by decide +kernel), List.mem_of_getElem? (i := 403) (by decide +kernel), List.mem_of_getElem? (i := 404) (by decide +kernel)⟩
theorem lw_p2 : lw_okq (⟨"PledgeMonitor$Text", "takes", "(C)Z"⟩, 6) := ⟨⟨by decide +kernel, by decide +kernel⟩, List.mem_of_getElem? (i := 28) (by decide +kernel), List.mem_of_getElem? (i := 407) (by decide +kernel), List.mem_of_getElem? (i := 408) (by decide +kernel)⟩
theorem lw_p3 : lw_okq (⟨"PledgeMonitor$Text", "isNext", "(C)Z"⟩, 6) := ⟨⟨by decide +kernel, by decide +kernel⟩, List.mem_of_getElem? (i := 28) (by decide +kernel), List.mem_of_getElem? (i := 411) (by decide +kernel), List.mem_of_getElem? (i := 412) (by decide +kernel)⟩
theorem lw_p4 : lw_okq (⟨"PledgeMonitor$Text", "readTriggerNumber", "(LPledgeMonitor$Clause;)Z"⟩, 6) := ⟨⟨by decide +kernel, by decide +kernel⟩, List.mem_of_getElem? (i := 28) (by decide +kernel), List.mem_of_getElem? (i := 415) (by decide +kernel), List.mem_of_getElem? (i := 416) (by decide +kernel)⟩
theorem lw_p5 : lw_okq (⟨"PledgeMonitor$Text", "takeDigit", "()I"⟩, 6) := ⟨⟨by decide +kernel, by decide +kernel⟩, List.mem_of_getElem? (i := 28) (by decide +kernel), List.mem_of_getElem? (i := 419) (by decide +kernel), List.mem_of_getElem? (i := 420) (by decide +kernel)⟩
theorem lw_p6 : lw_okq (⟨"PledgeMonitor$Text", "takeFrom", "(CI)I"⟩, 6) := ⟨⟨by decide +kernel, by decide +kernel⟩, List.mem_of_getElem? (i := 28) (by decide +kernel), List.mem_of_getElem? (i := 423) (by decide +kernel), List.mem_of_getElem? (i := 424) (by decide +kernel)⟩
theorem lw_p7 : lw_okq (⟨"PledgeMonitor$Text", "takeParty", "()I"⟩, 6) := ⟨⟨by decide +kernel, by decide +kernel⟩, List.mem_of_getElem? (i := 28) (by decide +kernel), List.mem_of_getElem? (i := 427) (by decide +kernel), List.mem_of_getElem? (i := 428) (by decide +kernel)⟩
theorem lw_p8 : lw_okq (⟨"PledgeMonitor$Text", "takeKind", "()I"⟩, 6) := ⟨⟨by decide +kernel, by decide +kernel⟩, List.mem_of_getElem? (i := 28) (by decide +kernel), List.mem_of_getElem? (i := 431) (by decide +kernel), List.mem_of_getElem? (i := 432) (by decide +kernel)⟩
theorem lw_p9 : lw_okq (⟨"PledgeMonitor$Text", "readCondition", "(LPledgeMonitor$Clause;)Z"⟩, 6) := ⟨⟨by decide +kernel, by decide +kernel⟩, List.mem_of_getElem? (i := 28) (by decide +kernel), List.mem_of_getElem? (i := 435) (by decide +kernel), List.mem_of_getElem? (i := 436) (by decide +kernel)⟩
theorem lw_p10 : lw_okq (⟨"PledgeMonitor$Text", "readTwoParties", "()Z"⟩, 6) := ⟨⟨by decide +kernel, by decide +kernel⟩, List.mem_of_getElem? (i := 28) (by decide +kernel), List.mem_of_getElem? (i := 439) (by decide +kernel), List.mem_of_getElem? (i := 440) (by decide +kernel)⟩
theorem lw_p11 : lw_okq (⟨"PledgeMonitor$Text", "readDigit", "()Z"⟩, 6) := ⟨⟨by decide +kernel, by decide +kernel⟩, List.mem_of_getElem? (i := 28) (by decide +kernel), List.mem_of_getElem? (i := 443) (by decide +kernel), List.mem_of_getElem? (i := 444) (by decide +kernel)⟩
theorem lw_p12 : lw_okq (⟨"PledgeMonitor$Text", "readAction", "(LPledgeMonitor$Clause;)Z"⟩, 6) := ⟨⟨by decide +kernel, by decide +kernel⟩, List.mem_of_getElem? (i := 28) (by decide +kernel), List.mem_of_getElem? (i := 447) (by decide +kernel), List.mem_of_getElem? (i := 448) (by decide +kernel)⟩
theorem lw_p13 : lw_okq (⟨"PledgeMonitor$Text", "readTermSign", "(LPledgeMonitor$Clause;)Z"⟩, 6) := ⟨⟨by decide +kernel, by decide +kernel⟩, List.mem_of_getElem? (i := 28) (by decide +kernel), List.mem_of_getElem? (i := 451) (by decide +kernel), List.mem_of_getElem? (i := 452) (by decide +kernel)⟩
theorem lw_p14 : lw_okq (⟨"PledgeMonitor$Text", "readPartyAndKind", "()Z"⟩, 6) := ⟨⟨by decide +kernel, by decide +kernel⟩, List.mem_of_getElem? (i := 28) (by decide +kernel), List.mem_of_getElem? (i := 455) (by decide +kernel), List.mem_of_getElem? (i := 456) (by decide +kernel)⟩
theorem lw_p15 : lw_okq (⟨"PledgeMonitor$Agreement", "refersRightly", "(LPledgeMonitor$Clause;)Z"⟩, 2) := ⟨⟨by decide +kernel, by decide +kernel⟩, List.mem_of_getElem? (i := 55) (by decide +kernel), List.mem_of_getElem? (i := 463) (by decide +kernel), List.mem_of_getElem? (i := 464) (by decide +kernel)⟩
def lw_privs_1 : List (MethodName × Nat) := [(⟨"PledgeMonitor$Text", "readClause", "(LPledgeMonitor$Clause;)Z"⟩, 6), (⟨"PledgeMonitor$Text", "readTrigger", "(LPledgeMonitor$Clause;)Z"⟩, 6), (⟨"PledgeMonitor$Text", "takes", "(C)Z"⟩, 6), (⟨"PledgeMonitor$Text", "isNext", "(C)Z"⟩, 6), (⟨"PledgeMonitor$Text", "readTriggerNumber", "(LPledgeMonitor$Clause;)Z"⟩, 6), (⟨"PledgeMonitor$Text", "takeDigit", "()I"⟩, 6), (⟨"PledgeMonitor$Text", "takeFrom", "(CI)I"⟩, 6), (⟨"PledgeMonitor$Text", "takeParty", "()I"⟩, 6), (⟨"PledgeMonitor$Text", "takeKind", "()I"⟩, 6), (⟨"PledgeMonitor$Text", "readCondition", "(LPledgeMonitor$Clause;)Z"⟩, 6), (⟨"PledgeMonitor$Text", "readTwoParties", "()Z"⟩, 6), (⟨"PledgeMonitor$Text", "readDigit", "()Z"⟩, 6), (⟨"PledgeMonitor$Text", "readAction", "(LPledgeMonitor$Clause;)Z"⟩, 6), (⟨"PledgeMonitor$Text", "readTermSign", "(LPledgeMonitor$Clause;)Z"⟩, 6), (⟨"PledgeMonitor$Text", "readPartyAndKind", "()Z"⟩, 6), (⟨"PledgeMonitor$Agreement", "refersRightly", "(LPledgeMonitor$Clause;)Z"⟩, 2)]
theorem lw_r1 : ∀ q ∈ lw_privs_1, lw_okq q := List.forall_mem_cons.mpr ⟨lw_p0, List.forall_mem_cons.mpr ⟨lw_p1, List.forall_mem_cons.mpr ⟨lw_p2, List.forall_mem_cons.mpr ⟨lw_p3, List.forall_mem_cons.mpr ⟨lw_p4, List.forall_mem_cons.mpr ⟨lw_p5, List.forall_mem_cons.mpr ⟨lw_p6, List.forall_mem_cons.mpr ⟨lw_p7, List.forall_mem_cons.mpr ⟨lw_p8, List.forall_mem_cons.mpr ⟨lw_p9, List.forall_mem_cons.mpr ⟨lw_p10, List.forall_mem_cons.mpr ⟨lw_p11, List.forall_mem_cons.mpr ⟨lw_p12, List.forall_mem_cons.mpr ⟨lw_p13, List.forall_mem_cons.mpr ⟨lw_p14, List.forall_mem_cons.mpr ⟨lw_p15, fun _ h => absurd h List.not_mem_nil⟩⟩⟩⟩⟩⟩⟩⟩⟩⟩⟩⟩⟩⟩⟩⟩
theorem lw_p16 : lw_okq (⟨"PledgeMonitor$Agreement", "liesOnRound", "(I)Z"⟩, 2) := ⟨⟨by decide +kernel, by decide +kernel⟩, List.mem_of_getElem? (i := 55) (by decide +kernel), List.mem_of_getElem? (i := 467) (by decide +kernel), List.mem_of_getElem? (i := 468) (by decide +kernel)⟩
theorem lw_p17 : lw_okq (⟨"java/lang/Throwable", "fillInStackTrace", "(I)Ljava/lang/Throwable;"⟩, 6) := ⟨⟨by decide +kernel, by decide +kernel⟩, List.mem_of_getElem? (i := 509) (by decide +kernel), List.mem_of_getElem? (i := 507) (by decide +kernel), List.mem_of_getElem? (i := 508) (by decide +kernel)⟩
theorem lw_p18 : lw_okq (⟨"PledgeMonitor$Runner", "await", "(I)V"⟩, 3) := ⟨⟨by decide +kernel, by decide +kernel⟩, List.mem_of_getElem? (i := 224) (by decide +kernel), List.mem_of_getElem? (i := 542) (by decide +kernel), List.mem_of_getElem? (i := 543) (by decide +kernel)⟩
theorem lw_p19 : lw_okq (⟨"PledgeMonitor$Runner", "runWaiting", "(LPledgeMonitor$Agreement;LPledgeMonitor$State;)Z"⟩, 3) := ⟨⟨by decide +kernel, by decide +kernel⟩, List.mem_of_getElem? (i := 224) (by decide +kernel), List.mem_of_getElem? (i := 546) (by decide +kernel), List.mem_of_getElem? (i := 547) (by decide +kernel)⟩
theorem lw_p20 : lw_okq (⟨"PledgeMonitor$Runner", "act", "(LPledgeMonitor$Clause;ILPledgeMonitor$State;)Z"⟩, 3) := ⟨⟨by decide +kernel, by decide +kernel⟩, List.mem_of_getElem? (i := 224) (by decide +kernel), List.mem_of_getElem? (i := 555) (by decide +kernel), List.mem_of_getElem? (i := 556) (by decide +kernel)⟩
theorem lw_p21 : lw_okq (⟨"PledgeMonitor$Runner", "businessDay", "(II)I"⟩, 3) := ⟨⟨by decide +kernel, by decide +kernel⟩, List.mem_of_getElem? (i := 224) (by decide +kernel), List.mem_of_getElem? (i := 559) (by decide +kernel), List.mem_of_getElem? (i := 560) (by decide +kernel)⟩
theorem lw_p22 : lw_okq (⟨"PledgeMonitor$Runner", "breachBans", "(LPledgeMonitor$Agreement;LPledgeMonitor$State;II)I"⟩, 3) := ⟨⟨by decide +kernel, by decide +kernel⟩, List.mem_of_getElem? (i := 224) (by decide +kernel), List.mem_of_getElem? (i := 619) (by decide +kernel), List.mem_of_getElem? (i := 620) (by decide +kernel)⟩
theorem lw_p23 : lw_okq (⟨"PledgeMonitor$Runner", "awaitAllOn", "(LPledgeMonitor$Agreement;III)V"⟩, 3) := ⟨⟨by decide +kernel, by decide +kernel⟩, List.mem_of_getElem? (i := 224) (by decide +kernel), List.mem_of_getElem? (i := 633) (by decide +kernel), List.mem_of_getElem? (i := 634) (by decide +kernel)⟩
theorem lw_p24 : lw_okq (⟨"PledgeMonitor$Runner", "fulfilDuty", "(LPledgeMonitor$Agreement;LPledgeMonitor$State;II)V"⟩, 3) := ⟨⟨by decide +kernel, by decide +kernel⟩, List.mem_of_getElem? (i := 224) (by decide +kernel), List.mem_of_getElem? (i := 645) (by decide +kernel), List.mem_of_getElem? (i := 646) (by decide +kernel)⟩
theorem lw_p25 : lw_okq (⟨"PledgeMonitor", "moveToTrial", "()V"⟩, 10) := ⟨⟨by decide +kernel, by decide +kernel⟩, List.mem_of_getElem? (i := 20) (by decide +kernel), List.mem_of_getElem? (i := 650) (by decide +kernel), List.mem_of_getElem? (i := 651) (by decide +kernel)⟩
theorem lw_p26 : lw_okq (⟨"PledgeMonitor", "canSearch", "(II)Z"⟩, 10) := ⟨⟨by decide +kernel, by decide +kernel⟩, List.mem_of_getElem? (i := 20) (by decide +kernel), List.mem_of_getElem? (i := 684) (by decide +kernel), List.mem_of_getElem? (i := 685) (by decide +kernel)⟩
theorem lw_p27 : lw_okq (⟨"PledgeMonitor$Search", "firstCourse", "(LPledgeMonitor$Agreement;LPledgeMonitor$State;II)I"⟩, 4) := ⟨⟨by decide +kernel, by decide +kernel⟩, List.mem_of_getElem? (i := 218) (by decide +kernel), List.mem_of_getElem? (i := 688) (by decide +kernel), List.mem_of_getElem? (i := 689) (by decide +kernel)⟩
theorem lw_p28 : lw_okq (⟨"PledgeMonitor$Search", "isKeptByEndOfDay", "(LPledgeMonitor$Agreement;LPledgeMonitor$State;II)Z"⟩, 4) := ⟨⟨by decide +kernel, by decide +kernel⟩, List.mem_of_getElem? (i := 218) (by decide +kernel), List.mem_of_getElem? (i := 692) (by decide +kernel), List.mem_of_getElem? (i := 693) (by decide +kernel)⟩
theorem lw_p29 : lw_okq (⟨"PledgeMonitor$Search", "changes", "(LPledgeMonitor$Agreement;LPledgeMonitor$State;LPledgeMonitor$State;II)Z"⟩, 4) := ⟨⟨by decide +kernel, by decide +kernel⟩, List.mem_of_getElem? (i := 218) (by decide +kernel), List.mem_of_getElem? (i := 704) (by decide +kernel), List.mem_of_getElem? (i := 705) (by decide +kernel)⟩
theorem lw_p30 : lw_okq (⟨"PledgeMonitorModel", "readAll", "(I)I"⟩, 26) := ⟨⟨by decide +kernel, by decide +kernel⟩, List.mem_of_getElem? (i := 723) (by decide +kernel), List.mem_of_getElem? (i := 829) (by decide +kernel), List.mem_of_getElem? (i := 830) (by decide +kernel)⟩
theorem lw_p31 : lw_okq (⟨"PledgeMonitorModel", "readClause", "(II)I"⟩, 26) := ⟨⟨by decide +kernel, by decide +kernel⟩, List.mem_of_getElem? (i := 723) (by decide +kernel), List.mem_of_getElem? (i := 833) (by decide +kernel), List.mem_of_getElem? (i := 834) (by decide +kernel)⟩
def lw_privs_2 : List (MethodName × Nat) := [(⟨"PledgeMonitor$Agreement", "liesOnRound", "(I)Z"⟩, 2), (⟨"java/lang/Throwable", "fillInStackTrace", "(I)Ljava/lang/Throwable;"⟩, 6), (⟨"PledgeMonitor$Runner", "await", "(I)V"⟩, 3), (⟨"PledgeMonitor$Runner", "runWaiting", "(LPledgeMonitor$Agreement;LPledgeMonitor$State;)Z"⟩, 3), (⟨"PledgeMonitor$Runner", "act", "(LPledgeMonitor$Clause;ILPledgeMonitor$State;)Z"⟩, 3), (⟨"PledgeMonitor$Runner", "businessDay", "(II)I"⟩, 3), (⟨"PledgeMonitor$Runner", "breachBans", "(LPledgeMonitor$Agreement;LPledgeMonitor$State;II)I"⟩, 3), (⟨"PledgeMonitor$Runner", "awaitAllOn", "(LPledgeMonitor$Agreement;III)V"⟩, 3), (⟨"PledgeMonitor$Runner", "fulfilDuty", "(LPledgeMonitor$Agreement;LPledgeMonitor$State;II)V"⟩, 3), (⟨"PledgeMonitor", "moveToTrial", "()V"⟩, 10), (⟨"PledgeMonitor", "canSearch", "(II)Z"⟩, 10), (⟨"PledgeMonitor$Search", "firstCourse", "(LPledgeMonitor$Agreement;LPledgeMonitor$State;II)I"⟩, 4), (⟨"PledgeMonitor$Search", "isKeptByEndOfDay", "(LPledgeMonitor$Agreement;LPledgeMonitor$State;II)Z"⟩, 4), (⟨"PledgeMonitor$Search", "changes", "(LPledgeMonitor$Agreement;LPledgeMonitor$State;LPledgeMonitor$State;II)Z"⟩, 4), (⟨"PledgeMonitorModel", "readAll", "(I)I"⟩, 26), (⟨"PledgeMonitorModel", "readClause", "(II)I"⟩, 26)]
theorem lw_r2 : ∀ q ∈ lw_privs_2, lw_okq q := List.forall_mem_cons.mpr ⟨lw_p16, List.forall_mem_cons.mpr ⟨lw_p17, List.forall_mem_cons.mpr ⟨lw_p18, List.forall_mem_cons.mpr ⟨lw_p19, List.forall_mem_cons.mpr ⟨lw_p20, List.forall_mem_cons.mpr ⟨lw_p21, List.forall_mem_cons.mpr ⟨lw_p22, List.forall_mem_cons.mpr ⟨lw_p23, List.forall_mem_cons.mpr ⟨lw_p24, List.forall_mem_cons.mpr ⟨lw_p25, List.forall_mem_cons.mpr ⟨lw_p26, List.forall_mem_cons.mpr ⟨lw_p27, List.forall_mem_cons.mpr ⟨lw_p28, List.forall_mem_cons.mpr ⟨lw_p29, List.forall_mem_cons.mpr ⟨lw_p30, List.forall_mem_cons.mpr ⟨lw_p31, fun _ h => absurd h List.not_mem_nil⟩⟩⟩⟩⟩⟩⟩⟩⟩⟩⟩⟩⟩⟩⟩⟩
theorem lw_p32 : lw_okq (⟨"PledgeMonitorModel", "readTrigger", "(II)I"⟩, 26) := ⟨⟨by decide +kernel, by decide +kernel⟩, List.mem_of_getElem? (i := 723) (by decide +kernel), List.mem_of_getElem? (i := 837) (by decide +kernel), List.mem_of_getElem? (i := 838) (by decide +kernel)⟩
theorem lw_p33 : lw_okq (⟨"PledgeMonitorModel", "charAt", "(I)I"⟩, 26) := ⟨⟨by decide +kernel, by decide +kernel⟩, List.mem_of_getElem? (i := 723) (by decide +kernel), List.mem_of_getElem? (i := 841) (by decide +kernel), List.mem_of_getElem? (i := 842) (by decide +kernel)⟩
theorem lw_p34 : lw_okq (⟨"PledgeMonitorModel", "party", "(I)I"⟩, 26) := ⟨⟨by decide +kernel, by decide +kernel⟩, List.mem_of_getElem? (i := 723) (by decide +kernel), List.mem_of_getElem? (i := 845) (by decide +kernel), List.mem_of_getElem? (i := 846) (by decide +kernel)⟩
theorem lw_p35 : lw_okq (⟨"PledgeMonitorModel", "digit", "(I)I"⟩, 26) := ⟨⟨by decide +kernel, by decide +kernel⟩, List.mem_of_getElem? (i := 723) (by decide +kernel), List.mem_of_getElem? (i := 849) (by decide +kernel), List.mem_of_getElem? (i := 850) (by decide +kernel)⟩
theorem lw_p36 : lw_okq (⟨"PledgeMonitorModel", "kind", "(I)I"⟩, 26) := ⟨⟨by decide +kernel, by decide +kernel⟩, List.mem_of_getElem? (i := 723) (by decide +kernel), List.mem_of_getElem? (i := 853) (by decide +kernel), List.mem_of_getElem? (i := 854) (by decide +kernel)⟩
theorem lw_p37 : lw_okq (⟨"PledgeMonitorModel", "readBound", "(II)I"⟩, 26) := ⟨⟨by decide +kernel, by decide +kernel⟩, List.mem_of_getElem? (i := 723) (by decide +kernel), List.mem_of_getElem? (i := 857) (by decide +kernel), List.mem_of_getElem? (i := 858) (by decide +kernel)⟩
theorem lw_p38 : lw_okq (⟨"PledgeMonitorModel", "overPair", "(I)I"⟩, 26) := ⟨⟨by decide +kernel, by decide +kernel⟩, List.mem_of_getElem? (i := 723) (by decide +kernel), List.mem_of_getElem? (i := 861) (by decide +kernel), List.mem_of_getElem? (i := 862) (by decide +kernel)⟩
theorem lw_p39 : lw_okq (⟨"PledgeMonitorModel", "readAction", "(II)I"⟩, 26) := ⟨⟨by decide +kernel, by decide +kernel⟩, List.mem_of_getElem? (i := 723) (by decide +kernel), List.mem_of_getElem? (i := 865) (by decide +kernel), List.mem_of_getElem? (i := 866) (by decide +kernel)⟩
theorem lw_p40 : lw_okq (⟨"PledgeMonitorModel", "faultOf", "(II)I"⟩, 26) := ⟨⟨by decide +kernel, by decide +kernel⟩, List.mem_of_getElem? (i := 723) (by decide +kernel), List.mem_of_getElem? (i := 869) (by decide +kernel), List.mem_of_getElem? (i := 870) (by decide +kernel)⟩
theorem lw_p41 : lw_okq (⟨"PledgeMonitorModel", "refersWell", "(III)Z"⟩, 26) := ⟨⟨by decide +kernel, by decide +kernel⟩, List.mem_of_getElem? (i := 723) (by decide +kernel), List.mem_of_getElem? (i := 873) (by decide +kernel), List.mem_of_getElem? (i := 874) (by decide +kernel)⟩
theorem lw_p42 : lw_okq (⟨"PledgeMonitorModel", "goesRound", "(II)Z"⟩, 26) := ⟨⟨by decide +kernel, by decide +kernel⟩, List.mem_of_getElem? (i := 723) (by decide +kernel), List.mem_of_getElem? (i := 877) (by decide +kernel), List.mem_of_getElem? (i := 878) (by decide +kernel)⟩
theorem lw_p43 : lw_okq (⟨"PledgeMonitorModel", "start", "()V"⟩, 26) := ⟨⟨by decide +kernel, by decide +kernel⟩, List.mem_of_getElem? (i := 723) (by decide +kernel), List.mem_of_getElem? (i := 881) (by decide +kernel), List.mem_of_getElem? (i := 882) (by decide +kernel)⟩
theorem lw_p44 : lw_okq (⟨"PledgeMonitorModel", "await", "(III)V"⟩, 26) := ⟨⟨by decide +kernel, by decide +kernel⟩, List.mem_of_getElem? (i := 723) (by decide +kernel), List.mem_of_getElem? (i := 885) (by decide +kernel), List.mem_of_getElem? (i := 886) (by decide +kernel)⟩
theorem lw_p45 : lw_okq (⟨"PledgeMonitorModel", "run", "(I)V"⟩, 26) := ⟨⟨by decide +kernel, by decide +kernel⟩, List.mem_of_getElem? (i := 723) (by decide +kernel), List.mem_of_getElem? (i := 889) (by decide +kernel), List.mem_of_getElem? (i := 890) (by decide +kernel)⟩
theorem lw_p46 : lw_okq (⟨"PledgeMonitorModel", "act", "(II)V"⟩, 26) := ⟨⟨by decide +kernel, by decide +kernel⟩, List.mem_of_getElem? (i := 723) (by decide +kernel), List.mem_of_getElem? (i := 893) (by decide +kernel), List.mem_of_getElem? (i := 894) (by decide +kernel)⟩
theorem lw_p47 : lw_okq (⟨"PledgeMonitorModel", "dayAfter", "(II)I"⟩, 26) := ⟨⟨by decide +kernel, by decide +kernel⟩, List.mem_of_getElem? (i := 723) (by decide +kernel), List.mem_of_getElem? (i := 897) (by decide +kernel), List.mem_of_getElem? (i := 898) (by decide +kernel)⟩
def lw_privs_3 : List (MethodName × Nat) := [(⟨"PledgeMonitorModel", "readTrigger", "(II)I"⟩, 26), (⟨"PledgeMonitorModel", "charAt", "(I)I"⟩, 26), (⟨"PledgeMonitorModel", "party", "(I)I"⟩, 26), (⟨"PledgeMonitorModel", "digit", "(I)I"⟩, 26), (⟨"PledgeMonitorModel", "kind", "(I)I"⟩, 26), (⟨"PledgeMonitorModel", "readBound", "(II)I"⟩, 26), (⟨"PledgeMonitorModel", "overPair", "(I)I"⟩, 26), (⟨"PledgeMonitorModel", "readAction", "(II)I"⟩, 26), (⟨"PledgeMonitorModel", "faultOf", "(II)I"⟩, 26), (⟨"PledgeMonitorModel", "refersWell", "(III)Z"⟩, 26), (⟨"PledgeMonitorModel", "goesRound", "(II)Z"⟩, 26), (⟨"PledgeMonitorModel", "start", "()V"⟩, 26), (⟨"PledgeMonitorModel", "await", "(III)V"⟩, 26), (⟨"PledgeMonitorModel", "run", "(I)V"⟩, 26), (⟨"PledgeMonitorModel", "act", "(II)V"⟩, 26), (⟨"PledgeMonitorModel", "dayAfter", "(II)I"⟩, 26)]
theorem lw_r3 : ∀ q ∈ lw_privs_3, lw_okq q := List.forall_mem_cons.mpr ⟨lw_p32, List.forall_mem_cons.mpr ⟨lw_p33, List.forall_mem_cons.mpr ⟨lw_p34, List.forall_mem_cons.mpr ⟨lw_p35, List.forall_mem_cons.mpr ⟨lw_p36, List.forall_mem_cons.mpr ⟨lw_p37, List.forall_mem_cons.mpr ⟨lw_p38, List.forall_mem_cons.mpr ⟨lw_p39, List.forall_mem_cons.mpr ⟨lw_p40, List.forall_mem_cons.mpr ⟨lw_p41, List.forall_mem_cons.mpr ⟨lw_p42, List.forall_mem_cons.mpr ⟨lw_p43, List.forall_mem_cons.mpr ⟨lw_p44, List.forall_mem_cons.mpr ⟨lw_p45, List.forall_mem_cons.mpr ⟨lw_p46, List.forall_mem_cons.mpr ⟨lw_p47, fun _ h => absurd h List.not_mem_nil⟩⟩⟩⟩⟩⟩⟩⟩⟩⟩⟩⟩⟩⟩⟩⟩
theorem lw_p48 : lw_okq (⟨"PledgeMonitorModel", "put", "(IIII)V"⟩, 26) := ⟨⟨by decide +kernel, by decide +kernel⟩, List.mem_of_getElem? (i := 723) (by decide +kernel), List.mem_of_getElem? (i := 901) (by decide +kernel), List.mem_of_getElem? (i := 902) (by decide +kernel)⟩
theorem lw_p49 : lw_okq (⟨"PledgeMonitorModel", "copy", "(II)V"⟩, 26) := ⟨⟨by decide +kernel, by decide +kernel⟩, List.mem_of_getElem? (i := 723) (by decide +kernel), List.mem_of_getElem? (i := 905) (by decide +kernel), List.mem_of_getElem? (i := 906) (by decide +kernel)⟩
theorem lw_p50 : lw_okq (⟨"PledgeMonitorModel", "eventIn", "(III)V"⟩, 26) := ⟨⟨by decide +kernel, by decide +kernel⟩, List.mem_of_getElem? (i := 723) (by decide +kernel), List.mem_of_getElem? (i := 927) (by decide +kernel), List.mem_of_getElem? (i := 928) (by decide +kernel)⟩
theorem lw_p51 : lw_okq (⟨"PledgeMonitorModel", "first", "(IIII)I"⟩, 26) := ⟨⟨by decide +kernel, by decide +kernel⟩, List.mem_of_getElem? (i := 723) (by decide +kernel), List.mem_of_getElem? (i := 931) (by decide +kernel), List.mem_of_getElem? (i := 932) (by decide +kernel)⟩
theorem lw_p52 : lw_okq (⟨"PledgeMonitorModel", "clauseAt", "(III)I"⟩, 26) := ⟨⟨by decide +kernel, by decide +kernel⟩, List.mem_of_getElem? (i := 723) (by decide +kernel), List.mem_of_getElem? (i := 935) (by decide +kernel), List.mem_of_getElem? (i := 936) (by decide +kernel)⟩
theorem lw_p53 : lw_okq (⟨"PledgeMonitorModel", "isOf", "(III)Z"⟩, 26) := ⟨⟨by decide +kernel, by decide +kernel⟩, List.mem_of_getElem? (i := 723) (by decide +kernel), List.mem_of_getElem? (i := 939) (by decide +kernel), List.mem_of_getElem? (i := 940) (by decide +kernel)⟩
theorem lw_p54 : lw_okq (⟨"PledgeMonitorModel", "dayAt", "(III)I"⟩, 26) := ⟨⟨by decide +kernel, by decide +kernel⟩, List.mem_of_getElem? (i := 723) (by decide +kernel), List.mem_of_getElem? (i := 943) (by decide +kernel), List.mem_of_getElem? (i := 944) (by decide +kernel)⟩
theorem lw_p55 : lw_okq (⟨"PledgeMonitorModel", "takeOut", "(III)V"⟩, 26) := ⟨⟨by decide +kernel, by decide +kernel⟩, List.mem_of_getElem? (i := 723) (by decide +kernel), List.mem_of_getElem? (i := 947) (by decide +kernel), List.mem_of_getElem? (i := 948) (by decide +kernel)⟩
theorem lw_p56 : lw_okq (⟨"PledgeMonitorModel", "breach", "(II)V"⟩, 26) := ⟨⟨by decide +kernel, by decide +kernel⟩, List.mem_of_getElem? (i := 723) (by decide +kernel), List.mem_of_getElem? (i := 951) (by decide +kernel), List.mem_of_getElem? (i := 952) (by decide +kernel)⟩
theorem lw_p57 : lw_okq (⟨"PledgeMonitorModel", "settle", "()I"⟩, 26) := ⟨⟨by decide +kernel, by decide +kernel⟩, List.mem_of_getElem? (i := 723) (by decide +kernel), List.mem_of_getElem? (i := 955) (by decide +kernel), List.mem_of_getElem? (i := 956) (by decide +kernel)⟩
theorem lw_p58 : lw_okq (⟨"PledgeMonitorModel", "endIn", "(I)V"⟩, 26) := ⟨⟨by decide +kernel, by decide +kernel⟩, List.mem_of_getElem? (i := 723) (by decide +kernel), List.mem_of_getElem? (i := 963) (by decide +kernel), List.mem_of_getElem? (i := 964) (by decide +kernel)⟩
theorem lw_p59 : lw_okq (⟨"PledgeMonitorModel", "passOver", "(II)V"⟩, 26) := ⟨⟨by decide +kernel, by decide +kernel⟩, List.mem_of_getElem? (i := 723) (by decide +kernel), List.mem_of_getElem? (i := 967) (by decide +kernel), List.mem_of_getElem? (i := 968) (by decide +kernel)⟩
theorem lw_p60 : lw_okq (⟨"PledgeMonitorModel", "askCode", "(II)I"⟩, 26) := ⟨⟨by decide +kernel, by decide +kernel⟩, List.mem_of_getElem? (i := 723) (by decide +kernel), List.mem_of_getElem? (i := 1003) (by decide +kernel), List.mem_of_getElem? (i := 1004) (by decide +kernel)⟩
theorem lw_p61 : lw_okq (⟨"PledgeMonitorModel", "firstCourse", "(III)I"⟩, 26) := ⟨⟨by decide +kernel, by decide +kernel⟩, List.mem_of_getElem? (i := 723) (by decide +kernel), List.mem_of_getElem? (i := 1007) (by decide +kernel), List.mem_of_getElem? (i := 1008) (by decide +kernel)⟩
theorem lw_p62 : lw_okq (⟨"PledgeMonitorModel", "goes", "(IIII)Z"⟩, 26) := ⟨⟨by decide +kernel, by decide +kernel⟩, List.mem_of_getElem? (i := 723) (by decide +kernel), List.mem_of_getElem? (i := 1011) (by decide +kernel), List.mem_of_getElem? (i := 1012) (by decide +kernel)⟩
theorem lw_p63 : lw_okq (⟨"PledgeMonitorModel", "hasOne", "(III)Z"⟩, 26) := ⟨⟨by decide +kernel, by decide +kernel⟩, List.mem_of_getElem? (i := 723) (by decide +kernel), List.mem_of_getElem? (i := 1015) (by decide +kernel), List.mem_of_getElem? (i := 1016) (by decide +kernel)⟩
def lw_privs_4 : List (MethodName × Nat) := [(⟨"PledgeMonitorModel", "put", "(IIII)V"⟩, 26), (⟨"PledgeMonitorModel", "copy", "(II)V"⟩, 26), (⟨"PledgeMonitorModel", "eventIn", "(III)V"⟩, 26), (⟨"PledgeMonitorModel", "first", "(IIII)I"⟩, 26), (⟨"PledgeMonitorModel", "clauseAt", "(III)I"⟩, 26), (⟨"PledgeMonitorModel", "isOf", "(III)Z"⟩, 26), (⟨"PledgeMonitorModel", "dayAt", "(III)I"⟩, 26), (⟨"PledgeMonitorModel", "takeOut", "(III)V"⟩, 26), (⟨"PledgeMonitorModel", "breach", "(II)V"⟩, 26), (⟨"PledgeMonitorModel", "settle", "()I"⟩, 26), (⟨"PledgeMonitorModel", "endIn", "(I)V"⟩, 26), (⟨"PledgeMonitorModel", "passOver", "(II)V"⟩, 26), (⟨"PledgeMonitorModel", "askCode", "(II)I"⟩, 26), (⟨"PledgeMonitorModel", "firstCourse", "(III)I"⟩, 26), (⟨"PledgeMonitorModel", "goes", "(IIII)Z"⟩, 26), (⟨"PledgeMonitorModel", "hasOne", "(III)Z"⟩, 26)]
theorem lw_r4 : ∀ q ∈ lw_privs_4, lw_okq q := List.forall_mem_cons.mpr ⟨lw_p48, List.forall_mem_cons.mpr ⟨lw_p49, List.forall_mem_cons.mpr ⟨lw_p50, List.forall_mem_cons.mpr ⟨lw_p51, List.forall_mem_cons.mpr ⟨lw_p52, List.forall_mem_cons.mpr ⟨lw_p53, List.forall_mem_cons.mpr ⟨lw_p54, List.forall_mem_cons.mpr ⟨lw_p55, List.forall_mem_cons.mpr ⟨lw_p56, List.forall_mem_cons.mpr ⟨lw_p57, List.forall_mem_cons.mpr ⟨lw_p58, List.forall_mem_cons.mpr ⟨lw_p59, List.forall_mem_cons.mpr ⟨lw_p60, List.forall_mem_cons.mpr ⟨lw_p61, List.forall_mem_cons.mpr ⟨lw_p62, List.forall_mem_cons.mpr ⟨lw_p63, fun _ h => absurd h List.not_mem_nil⟩⟩⟩⟩⟩⟩⟩⟩⟩⟩⟩⟩⟩⟩⟩⟩
def lw_privs : List (MethodName × Nat) := lw_privs_1 ++ (lw_privs_2 ++ (lw_privs_3 ++ (lw_privs_4)))
def lw_tbl : List Cond := k2_sels lw_privs ++ tables_1
theorem lw_privs_ok : ∀ q ∈ lw_privs, lw_okq q := by
  show ∀ q ∈ lw_privs_1 ++ (lw_privs_2 ++ (lw_privs_3 ++ (lw_privs_4))), lw_okq q
  exact List.forall_mem_append.mpr ⟨lw_r1, List.forall_mem_append.mpr ⟨lw_r2, List.forall_mem_append.mpr ⟨lw_r3, lw_r4⟩⟩⟩
end
section
def zR0 : String := "PledgeMonitor$Agreement"
def zT0 : u_T := fun k => match k with
  | 0 => ("PledgeMonitor$Agreement", "clauses", "[LPledgeMonitor$Clause;", true)
  | _ => ("PledgeMonitor$Agreement", "size", "I", false)
def zt0 : Nat → FieldType := fun k => match k with
  | 0 => .array (.object "PledgeMonitor$Clause")
  | _ => .int
theorem znm0 : ∀ a, a < 2 → ∀ b, b < 2 → a ≠ b → (zT0 a).2.1 ≠ (zT0 b).2.1 := by decide +kernel
theorem zty0 : ∀ k, k < 2 → parseFieldDescriptor (zT0 k).2.2.1 = some (zt0 k) := by decide +kernel
def zR1 : String := "PledgeMonitor$Clause"
def zT1 : u_T := fun k => match k with
  | 0 => ("PledgeMonitor$Clause", "trigger", "I", false)
  | 1 => ("PledgeMonitor$Clause", "triggerParty", "I", false)
  | 2 => ("PledgeMonitor$Clause", "triggerKind", "I", false)
  | 3 => ("PledgeMonitor$Clause", "triggerNumber", "I", false)
  | 4 => ("PledgeMonitor$Clause", "conditional", "Z", false)
  | 5 => ("PledgeMonitor$Clause", "debtor", "I", false)
  | 6 => ("PledgeMonitor$Clause", "creditor", "I", false)
  | 7 => ("PledgeMonitor$Clause", "limit", "I", false)
  | 8 => ("PledgeMonitor$Clause", "action", "I", false)
  | 9 => ("PledgeMonitor$Clause", "party", "I", false)
  | 10 => ("PledgeMonitor$Clause", "kind", "I", false)
  | 11 => ("PledgeMonitor$Clause", "otherParty", "I", false)
  | _ => ("PledgeMonitor$Clause", "digit", "I", false)
def zt1 : Nat → FieldType := fun k => match k with
  | 0 => .int
  | 1 => .int
  | 2 => .int
  | 3 => .int
  | 4 => .boolean
  | 5 => .int
  | 6 => .int
  | 7 => .int
  | 8 => .int
  | 9 => .int
  | 10 => .int
  | 11 => .int
  | _ => .int
theorem znm1 : ∀ a, a < 13 → ∀ b, b < 13 → a ≠ b → (zT1 a).2.1 ≠ (zT1 b).2.1 := by decide +kernel
theorem zty1 : ∀ k, k < 13 → parseFieldDescriptor (zT1 k).2.2.1 = some (zt1 k) := by decide +kernel
def zR2 : String := "PledgeMonitor$History"
def zT2 : u_T := fun k => match k with
  | 0 => ("PledgeMonitor$History", "kept", "[LPledgeMonitor$State;", true)
  | 1 => ("PledgeMonitor$History", "size", "I", false)
  | _ => ("PledgeMonitor$History", "next", "I", false)
def zt2 : Nat → FieldType := fun k => match k with
  | 0 => .array (.object "PledgeMonitor$State")
  | 1 => .int
  | _ => .int
theorem znm2 : ∀ a, a < 3 → ∀ b, b < 3 → a ≠ b → (zT2 a).2.1 ≠ (zT2 b).2.1 := by decide +kernel
theorem zty2 : ∀ k, k < 3 → parseFieldDescriptor (zT2 k).2.2.1 = some (zt2 k) := by decide +kernel
def zR3 : String := "PledgeMonitor$Runner"
def zT3 : u_T := fun k => match k with
  | 0 => ("PledgeMonitor$Runner", "freeDays", "[Z", true)
  | 1 => ("PledgeMonitor$Runner", "waiting", "[I", true)
  | _ => ("PledgeMonitor$Runner", "waitingSize", "I", false)
def zt3 : Nat → FieldType := fun k => match k with
  | 0 => .array .boolean
  | 1 => .array .int
  | _ => .int
theorem znm3 : ∀ a, a < 3 → ∀ b, b < 3 → a ≠ b → (zT3 a).2.1 ≠ (zT3 b).2.1 := by decide +kernel
theorem zty3 : ∀ k, k < 3 → parseFieldDescriptor (zT3 k).2.2.1 = some (zt3 k) := by decide +kernel
def zR4 : String := "PledgeMonitor$Search"
def zT4 : u_T := fun k => match k with
  | 0 => ("PledgeMonitor$Search", "runner", "LPledgeMonitor$Runner;", true)
  | 1 => ("PledgeMonitor$Search", "afterOne", "[LPledgeMonitor$State;", true)
  | 2 => ("PledgeMonitor$Search", "afterTwo", "[LPledgeMonitor$State;", true)
  | _ => ("PledgeMonitor$Search", "afterDay", "[LPledgeMonitor$State;", true)
def zt4 : Nat → FieldType := fun k => match k with
  | 0 => .object "PledgeMonitor$Runner"
  | 1 => .array (.object "PledgeMonitor$State")
  | 2 => .array (.object "PledgeMonitor$State")
  | _ => .array (.object "PledgeMonitor$State")
theorem znm4 : ∀ a, a < 4 → ∀ b, b < 4 → a ≠ b → (zT4 a).2.1 ≠ (zT4 b).2.1 := by decide +kernel
theorem zty4 : ∀ k, k < 4 → parseFieldDescriptor (zT4 k).2.2.1 = some (zt4 k) := by decide +kernel
def zR5 : String := "PledgeMonitor$State"
def zT5 : u_T := fun k => match k with
  | 0 => ("PledgeMonitor$State", "day", "I", false)
  | 1 => ("PledgeMonitor$State", "duties", "LPledgeMonitor$Terms;", true)
  | 2 => ("PledgeMonitor$State", "bans", "LPledgeMonitor$Terms;", true)
  | 3 => ("PledgeMonitor$State", "powers", "LPledgeMonitor$Terms;", true)
  | 4 => ("PledgeMonitor$State", "debts", "[I", true)
  | _ => ("PledgeMonitor$State", "breachCounts", "[I", true)
def zt5 : Nat → FieldType := fun k => match k with
  | 0 => .int
  | 1 => .object "PledgeMonitor$Terms"
  | 2 => .object "PledgeMonitor$Terms"
  | 3 => .object "PledgeMonitor$Terms"
  | 4 => .array .int
  | _ => .array .int
theorem znm5 : ∀ a, a < 6 → ∀ b, b < 6 → a ≠ b → (zT5 a).2.1 ≠ (zT5 b).2.1 := by decide +kernel
theorem zty5 : ∀ k, k < 6 → parseFieldDescriptor (zT5 k).2.2.1 = some (zt5 k) := by decide +kernel
def zR6 : String := "PledgeMonitor$Terms"
def zT6 : u_T := fun k => match k with
  | 0 => ("PledgeMonitor$Terms", "rows", "[I", true)
  | _ => ("PledgeMonitor$Terms", "size", "I", false)
def zt6 : Nat → FieldType := fun k => match k with
  | 0 => .array .int
  | _ => .int
theorem znm6 : ∀ a, a < 2 → ∀ b, b < 2 → a ≠ b → (zT6 a).2.1 ≠ (zT6 b).2.1 := by decide +kernel
theorem zty6 : ∀ k, k < 2 → parseFieldDescriptor (zT6 k).2.2.1 = some (zt6 k) := by decide +kernel
def zR7 : String := "PledgeMonitor$Text"
def zT7 : u_T := fun k => match k with
  | 0 => ("PledgeMonitor$Text", "characters", "[C", true)
  | 1 => ("PledgeMonitor$Text", "length", "I", false)
  | 2 => ("PledgeMonitor$Text", "place", "I", false)
  | 3 => ("PledgeMonitor$Text", "first", "I", false)
  | 4 => ("PledgeMonitor$Text", "second", "I", false)
  | _ => ("PledgeMonitor$Text", "digit", "I", false)
def zt7 : Nat → FieldType := fun k => match k with
  | 0 => .array .char
  | 1 => .int
  | 2 => .int
  | 3 => .int
  | 4 => .int
  | _ => .int
theorem znm7 : ∀ a, a < 6 → ∀ b, b < 6 → a ≠ b → (zT7 a).2.1 ≠ (zT7 b).2.1 := by decide +kernel
theorem zty7 : ∀ k, k < 6 → parseFieldDescriptor (zT7 k).2.2.1 = some (zt7 k) := by decide +kernel
def zR8 : String := "PledgeMonitor"
def zT8 : u_T := fun k => match k with
  | 0 => ("PledgeMonitor", "text", "LPledgeMonitor$Text;", true)
  | 1 => ("PledgeMonitor", "foundFault", "I", false)
  | 2 => ("PledgeMonitor", "running", "Z", false)
  | 3 => ("PledgeMonitor", "agreement", "LPledgeMonitor$Agreement;", false)
  | 4 => ("PledgeMonitor", "draft", "LPledgeMonitor$Agreement;", false)
  | 5 => ("PledgeMonitor", "state", "LPledgeMonitor$State;", true)
  | 6 => ("PledgeMonitor", "trial", "LPledgeMonitor$State;", true)
  | 7 => ("PledgeMonitor", "history", "LPledgeMonitor$History;", true)
  | 8 => ("PledgeMonitor", "search", "LPledgeMonitor$Search;", true)
  | _ => ("PledgeMonitor", "runner", "LPledgeMonitor$Runner;", true)
def zt8 : Nat → FieldType := fun k => match k with
  | 0 => .object "PledgeMonitor$Text"
  | 1 => .int
  | 2 => .boolean
  | 3 => .object "PledgeMonitor$Agreement"
  | 4 => .object "PledgeMonitor$Agreement"
  | 5 => .object "PledgeMonitor$State"
  | 6 => .object "PledgeMonitor$State"
  | 7 => .object "PledgeMonitor$History"
  | 8 => .object "PledgeMonitor$Search"
  | _ => .object "PledgeMonitor$Runner"
theorem znm8 : ∀ a, a < 10 → ∀ b, b < 10 → a ≠ b → (zT8 a).2.1 ≠ (zT8 b).2.1 := by decide +kernel
theorem zty8 : ∀ k, k < 10 → parseFieldDescriptor (zT8 k).2.2.1 = some (zt8 k) := by decide +kernel
def zR9 : String := "PledgeMonitorModel"
def zT9 : u_T := fun k => match k with
  | 0 => ("PledgeMonitorModel", "code", "I", false)
  | 1 => ("PledgeMonitorModel", "typed", "I", false)
  | 2 => ("PledgeMonitorModel", "text", "[I", true)
  | 3 => ("PledgeMonitorModel", "told", "I", false)
  | 4 => ("PledgeMonitorModel", "free", "[Z", true)
  | 5 => ("PledgeMonitorModel", "bank", "I", false)
  | 6 => ("PledgeMonitorModel", "there", "Z", false)
  | 7 => ("PledgeMonitorModel", "clauses", "I", false)
  | 8 => ("PledgeMonitorModel", "triggers", "[I", true)
  | 9 => ("PledgeMonitorModel", "triggerOne", "[I", true)
  | 10 => ("PledgeMonitorModel", "triggerTwo", "[I", true)
  | 11 => ("PledgeMonitorModel", "bound", "[Z", true)
  | 12 => ("PledgeMonitorModel", "boundOne", "[I", true)
  | 13 => ("PledgeMonitorModel", "boundTwo", "[I", true)
  | 14 => ("PledgeMonitorModel", "boundMore", "[I", true)
  | 15 => ("PledgeMonitorModel", "actions", "[I", true)
  | 16 => ("PledgeMonitorModel", "actionOne", "[I", true)
  | 17 => ("PledgeMonitorModel", "actionTwo", "[I", true)
  | 18 => ("PledgeMonitorModel", "actionMore", "[I", true)
  | 19 => ("PledgeMonitorModel", "states", "[I", true)
  | 20 => ("PledgeMonitorModel", "kept", "I", false)
  | 21 => ("PledgeMonitorModel", "waiting", "I", false)
  | 22 => ("PledgeMonitorModel", "row", "[I", true)
  | 23 => ("PledgeMonitorModel", "full", "Z", false)
  | 24 => ("PledgeMonitorModel", "made", "I", false)
  | _ => ("PledgeMonitorModel", "blamed", "I", false)
def zt9 : Nat → FieldType := fun k => match k with
  | 0 => .int
  | 1 => .int
  | 2 => .array .int
  | 3 => .int
  | 4 => .array .boolean
  | 5 => .int
  | 6 => .boolean
  | 7 => .int
  | 8 => .array .int
  | 9 => .array .int
  | 10 => .array .int
  | 11 => .array .boolean
  | 12 => .array .int
  | 13 => .array .int
  | 14 => .array .int
  | 15 => .array .int
  | 16 => .array .int
  | 17 => .array .int
  | 18 => .array .int
  | 19 => .array .int
  | 20 => .int
  | 21 => .int
  | 22 => .array .int
  | 23 => .boolean
  | 24 => .int
  | _ => .int
theorem znm9 : ∀ a, a < 26 → ∀ b, b < 26 → a ≠ b → (zT9 a).2.1 ≠ (zT9 b).2.1 := by decide +kernel
theorem zty9 : ∀ k, k < 26 → parseFieldDescriptor (zT9 k).2.2.1 = some (zt9 k) := by decide +kernel
abbrev vwCl : List vw_C := [(zR0, zT0, 2), (zR1, zT1, 13), (zR2, zT2, 3), (zR3, zT3, 3), (zR4, zT4, 4), (zR5, zT5, 6), (zR6, zT6, 2), (zR7, zT7, 6), (zR8, zT8, 10), (zR9, zT9, 26)]
def cl_n : Nat → Nat := fun c => match c with
  | 0 => 2
  | 1 => 13
  | 2 => 3
  | 3 => 3
  | 4 => 4
  | 5 => 6
  | 6 => 2
  | 7 => 6
  | 8 => 10
  | _ => 26
/-- which fields hold references -/
def cl_r : Nat → Nat → Bool := fun c k => match c with
  | 0 => k == 0
  | 1 => false
  | 2 => k == 0
  | 3 => k == 0 || k == 1
  | 4 => k == 0 || k == 1 || k == 2 || k == 3
  | 5 => k == 1 || k == 2 || k == 3 || k == 4 || k == 5
  | 6 => k == 0
  | 7 => k == 0
  | 8 => k == 0 || k == 3 || k == 4 || k == 5 || k == 6 || k == 7 || k == 8 || k == 9
  | _ => k == 2 || k == 4 || k == 8 || k == 9 || k == 10 || k == 11 || k == 12 || k == 13 || k == 14 || k == 15 || k == 16 || k == 17 || k == 18 || k == 19 || k == 22
theorem zdf0 : ∀ j, j < 2 → defaultValue (zt0 j) = if cl_r 0 j = true then .null else .int 0 := by decide +kernel
theorem zdf1 : ∀ j, j < 13 → defaultValue (zt1 j) = if cl_r 1 j = true then .null else .int 0 := by decide +kernel
theorem zdf2 : ∀ j, j < 3 → defaultValue (zt2 j) = if cl_r 2 j = true then .null else .int 0 := by decide +kernel
theorem zdf3 : ∀ j, j < 3 → defaultValue (zt3 j) = if cl_r 3 j = true then .null else .int 0 := by decide +kernel
theorem zdf4 : ∀ j, j < 4 → defaultValue (zt4 j) = if cl_r 4 j = true then .null else .int 0 := by decide +kernel
theorem zdf5 : ∀ j, j < 6 → defaultValue (zt5 j) = if cl_r 5 j = true then .null else .int 0 := by decide +kernel
theorem zdf6 : ∀ j, j < 2 → defaultValue (zt6 j) = if cl_r 6 j = true then .null else .int 0 := by decide +kernel
theorem zdf7 : ∀ j, j < 6 → defaultValue (zt7 j) = if cl_r 7 j = true then .null else .int 0 := by decide +kernel
theorem zdf8 : ∀ j, j < 10 → defaultValue (zt8 j) = if cl_r 8 j = true then .null else .int 0 := by decide +kernel
theorem zdf9 : ∀ j, j < 26 → defaultValue (zt9 j) = if cl_r 9 j = true then .null else .int 0 := by decide +kernel
def tg_ty : Nat → FieldType := fun t => match t with
  | 0 => .int
  | 1 => .boolean
  | 2 => .char
  | 3 => .long
  | 4 => .object "PledgeMonitor$Clause"
  | 5 => .object "PledgeMonitor$State"
  | _ => .int
/-- the words that every method is given -/
def gw : List Cond := lw_tbl.filter goodWord
theorem gw_at {w : Cond} (i : Nat) (h : lw_tbl[i]? = some w) (hg : goodWord w = true) : w ∈ gw := List.mem_filter.mpr ⟨List.mem_of_getElem? h, hg⟩
theorem gw_good {w : Cond} (h : w ∈ gw) : goodWord w = true := (List.mem_filter.mp h).2
theorem gw_in {w : Cond} (h : w ∈ gw) : w ∈ lw_tbl := (List.mem_filter.mp h).1
theorem gw_self {c : Cond} (h : c ∈ gw) : GoodIn gw (c :: gw) := fun w hw => (List.mem_cons.mp hw).elim (fun e => by rw [e]; exact ⟨h, good_of_word (gw_good h)⟩) (fun h2 => ⟨h2, good_of_word (gw_good h2)⟩)
theorem gd_app {a b : List Cond} (ha : ∀ w ∈ a, w ∈ gw) (hb : GoodIn gw b) : GoodIn gw (a ++ b) := fun w hw => (List.mem_append.mp hw).elim (fun h => ⟨ha w h, good_of_word (gw_good (ha w h))⟩) (hb w)
theorem gd_V {own Cn : String} {idx : Nat} {y : MethodName} {c : Cond} (h1 : Cond.methodLink own idx y ∈ gw) (h2 : Cond.instanceMethod y ∈ gw) (h3 : Cond.selects Cn y y ∈ gw) (h4 : Cond.initialized Cn ∈ gw) (h5 : c ∈ gw) : GoodIn gw (wsV own idx Cn y (c :: gw)) :=
  gd_app (fun w hw => by
    rcases List.mem_cons.mp hw with e | hw
    · rw [e]; exact h1
    rcases List.mem_cons.mp hw with e | hw
    · rw [e]; exact h2
    rcases List.mem_cons.mp hw with e | hw
    · rw [e]; exact h3
    rcases List.mem_cons.mp hw with e | hw
    · rw [e]; exact h4
    cases hw) (gw_self h5)
theorem gd_S {own : String} {idx : Nat} {y : MethodName} {c : Cond} (h1 : Cond.methodLink own idx y ∈ gw) (h2 : Cond.static y ∈ gw) (h4 : Cond.initialized own ∈ gw) (h5 : c ∈ gw) : GoodIn gw (wsS own idx y (c :: gw)) :=
  gd_app (fun w hw => by
    rcases List.mem_cons.mp hw with e | hw
    · rw [e]; exact h1
    rcases List.mem_cons.mp hw with e | hw
    · rw [e]; exact h2
    rcases List.mem_cons.mp hw with e | hw
    · rw [e]; exact h4
    cases hw) (gw_self h5)
/-- links to private members of nest mates -/
def nwT : List (String × Nat × MethodName × String) := [("PledgeMonitor", 9, ⟨"PledgeMonitor$Text", "<init>", "()V"⟩, "PledgeMonitor"), ("PledgeMonitor$Agreement", 21, ⟨"PledgeMonitor$Clause", "<init>", "()V"⟩, "PledgeMonitor"), ("PledgeMonitor", 36, ⟨"PledgeMonitor$State", "<init>", "()V"⟩, "PledgeMonitor"), ("PledgeMonitor$State", 17, ⟨"PledgeMonitor$Terms", "<init>", "()V"⟩, "PledgeMonitor"), ("PledgeMonitor$History", 24, ⟨"PledgeMonitor$State", "<init>", "()V"⟩, "PledgeMonitor"), ("PledgeMonitor$Search", 11, ⟨"PledgeMonitor$Runner", "<init>", "()V"⟩, "PledgeMonitor"), ("PledgeMonitor$Search", 30, ⟨"PledgeMonitor$State", "<init>", "()V"⟩, "PledgeMonitor"), ("PledgeMonitor", 163, ⟨"PledgeMonitor$Search", "firstCourse", "(LPledgeMonitor$Agreement;LPledgeMonitor$State;II)I"⟩, "PledgeMonitor"), ("PledgeMonitor", 166, ⟨"PledgeMonitor$Search", "changes", "(LPledgeMonitor$Agreement;LPledgeMonitor$State;LPledgeMonitor$State;II)Z"⟩, "PledgeMonitor")]
def aoT : List String := ["PledgeMonitor$Clause", "PledgeMonitor$State"]
abbrev zbPm_init : ByteArray := prog_1_method_1_code
def zyPm_init : MethodName := ⟨"PledgeMonitor", "<init>", "()V"⟩
abbrev zbPm_type : ByteArray := prog_1_method_2_code
def zyPm_type : MethodName := ⟨"PledgeMonitor", "type", "(J)Z"⟩
abbrev zbPm_erase : ByteArray := prog_1_method_3_code
def zyPm_erase : MethodName := ⟨"PledgeMonitor", "erase", "()I"⟩
abbrev zbPm_free : ByteArray := prog_1_method_4_code
def zyPm_free : MethodName := ⟨"PledgeMonitor", "free", "(I)Z"⟩
abbrev zbPm_begin : ByteArray := prog_1_method_5_code
def zyPm_begin : MethodName := ⟨"PledgeMonitor", "begin", "()I"⟩
abbrev zbPm_stop : ByteArray := prog_1_method_6_code
def zyPm_stop : MethodName := ⟨"PledgeMonitor", "stop", "()Z"⟩
abbrev zbPm_fault : ByteArray := prog_1_method_7_code
def zyPm_fault : MethodName := ⟨"PledgeMonitor", "fault", "()I"⟩
abbrev zbPm_event : ByteArray := prog_1_method_8_code
def zyPm_event : MethodName := ⟨"PledgeMonitor", "event", "(II)I"⟩
abbrev zbPm_nextDay : ByteArray := prog_1_method_9_code
def zyPm_nextDay : MethodName := ⟨"PledgeMonitor", "nextDay", "()I"⟩
abbrev zbPm_undo : ByteArray := prog_1_method_10_code
def zyPm_undo : MethodName := ⟨"PledgeMonitor", "undo", "()Z"⟩
abbrev zbPm_today : ByteArray := prog_1_method_11_code
def zyPm_today : MethodName := ⟨"PledgeMonitor", "today", "()I"⟩
abbrev zbPm_duty : ByteArray := prog_1_method_12_code
def zyPm_duty : MethodName := ⟨"PledgeMonitor", "duty", "(I)I"⟩
abbrev zbPm_count : ByteArray := prog_1_method_13_code
def zyPm_count : MethodName := ⟨"PledgeMonitor", "count", "(I)I"⟩
abbrev zbPm_breaches : ByteArray := prog_1_method_14_code
def zyPm_breaches : MethodName := ⟨"PledgeMonitor", "breaches", "(I)I"⟩
abbrev zbPm_may : ByteArray := prog_1_method_15_code
def zyPm_may : MethodName := ⟨"PledgeMonitor", "may", "(II)I"⟩
abbrev zbPm_owed : ByteArray := prog_1_method_16_code
def zyPm_owed : MethodName := ⟨"PledgeMonitor", "owed", "(II)I"⟩
abbrev zbPm_course : ByteArray := prog_1_method_17_code
def zyPm_course : MethodName := ⟨"PledgeMonitor", "course", "(II)I"⟩
abbrev zbPm_threat : ByteArray := prog_1_method_18_code
def zyPm_threat : MethodName := ⟨"PledgeMonitor", "threat", "(II)I"⟩
abbrev zbPm_isParty : ByteArray := prog_1_method_19_code
def zyPm_isParty : MethodName := ⟨"PledgeMonitor", "isParty", "(I)Z"⟩
abbrev zbPm_isKind : ByteArray := prog_1_method_20_code
def zyPm_isKind : MethodName := ⟨"PledgeMonitor", "isKind", "(I)Z"⟩
abbrev zbPm_canSearch : ByteArray := prog_1_method_21_code
def zyPm_canSearch : MethodName := ⟨"PledgeMonitor", "canSearch", "(II)Z"⟩
abbrev zbPm_moveToTrial : ByteArray := prog_1_method_22_code
def zyPm_moveToTrial : MethodName := ⟨"PledgeMonitor", "moveToTrial", "()V"⟩
abbrev zbMo_init : ByteArray := prog_11_method_1_code
def zyMo_init : MethodName := ⟨"PledgeMonitorModel", "<init>", "()V"⟩
abbrev zbMo_thrown : ByteArray := prog_11_method_2_code
def zyMo_thrown : MethodName := ⟨"PledgeMonitorModel", "thrown", "()I"⟩
abbrev zbMo_type : ByteArray := prog_11_method_3_code
def zyMo_type : MethodName := ⟨"PledgeMonitorModel", "type", "(J)Z"⟩
abbrev zbMo_erase : ByteArray := prog_11_method_4_code
def zyMo_erase : MethodName := ⟨"PledgeMonitorModel", "erase", "()I"⟩
abbrev zbMo_free : ByteArray := prog_11_method_5_code
def zyMo_free : MethodName := ⟨"PledgeMonitorModel", "free", "(I)Z"⟩
abbrev zbMo_charAt : ByteArray := prog_11_method_6_code
def zyMo_charAt : MethodName := ⟨"PledgeMonitorModel", "charAt", "(I)I"⟩
abbrev zbMo_party : ByteArray := prog_11_method_7_code
def zyMo_party : MethodName := ⟨"PledgeMonitorModel", "party", "(I)I"⟩
abbrev zbMo_kind : ByteArray := prog_11_method_8_code
def zyMo_kind : MethodName := ⟨"PledgeMonitorModel", "kind", "(I)I"⟩
abbrev zbMo_digit : ByteArray := prog_11_method_9_code
def zyMo_digit : MethodName := ⟨"PledgeMonitorModel", "digit", "(I)I"⟩
abbrev zbMo_readTrigger : ByteArray := prog_11_method_10_code
def zyMo_readTrigger : MethodName := ⟨"PledgeMonitorModel", "readTrigger", "(II)I"⟩
abbrev zbMo_overPair : ByteArray := prog_11_method_11_code
def zyMo_overPair : MethodName := ⟨"PledgeMonitorModel", "overPair", "(I)I"⟩
abbrev zbMo_readBound : ByteArray := prog_11_method_12_code
def zyMo_readBound : MethodName := ⟨"PledgeMonitorModel", "readBound", "(II)I"⟩
abbrev zbMo_readAction : ByteArray := prog_11_method_13_code
def zyMo_readAction : MethodName := ⟨"PledgeMonitorModel", "readAction", "(II)I"⟩
abbrev zbMo_readClause : ByteArray := prog_11_method_14_code
def zyMo_readClause : MethodName := ⟨"PledgeMonitorModel", "readClause", "(II)I"⟩
abbrev zbMo_readAll : ByteArray := prog_11_method_15_code
def zyMo_readAll : MethodName := ⟨"PledgeMonitorModel", "readAll", "(I)I"⟩
abbrev zbMo_refersWell : ByteArray := prog_11_method_16_code
def zyMo_refersWell : MethodName := ⟨"PledgeMonitorModel", "refersWell", "(III)Z"⟩
abbrev zbMo_goesRound : ByteArray := prog_11_method_17_code
def zyMo_goesRound : MethodName := ⟨"PledgeMonitorModel", "goesRound", "(II)Z"⟩
abbrev zbMo_faultOf : ByteArray := prog_11_method_18_code
def zyMo_faultOf : MethodName := ⟨"PledgeMonitorModel", "faultOf", "(II)I"⟩
abbrev zbMo_copy : ByteArray := prog_11_method_19_code
def zyMo_copy : MethodName := ⟨"PledgeMonitorModel", "copy", "(II)V"⟩
abbrev zbMo_dayAfter : ByteArray := prog_11_method_20_code
def zyMo_dayAfter : MethodName := ⟨"PledgeMonitorModel", "dayAfter", "(II)I"⟩
abbrev zbMo_put : ByteArray := prog_11_method_21_code
def zyMo_put : MethodName := ⟨"PledgeMonitorModel", "put", "(IIII)V"⟩
abbrev zbMo_takeOut : ByteArray := prog_11_method_22_code
def zyMo_takeOut : MethodName := ⟨"PledgeMonitorModel", "takeOut", "(III)V"⟩
abbrev zbMo_clauseAt : ByteArray := prog_11_method_23_code
def zyMo_clauseAt : MethodName := ⟨"PledgeMonitorModel", "clauseAt", "(III)I"⟩
abbrev zbMo_dayAt : ByteArray := prog_11_method_24_code
def zyMo_dayAt : MethodName := ⟨"PledgeMonitorModel", "dayAt", "(III)I"⟩
abbrev zbMo_isOf : ByteArray := prog_11_method_25_code
def zyMo_isOf : MethodName := ⟨"PledgeMonitorModel", "isOf", "(III)Z"⟩
abbrev zbMo_first : ByteArray := prog_11_method_26_code
def zyMo_first : MethodName := ⟨"PledgeMonitorModel", "first", "(IIII)I"⟩
abbrev zbMo_await : ByteArray := prog_11_method_27_code
def zyMo_await : MethodName := ⟨"PledgeMonitorModel", "await", "(III)V"⟩
abbrev zbMo_breach : ByteArray := prog_11_method_28_code
def zyMo_breach : MethodName := ⟨"PledgeMonitorModel", "breach", "(II)V"⟩
abbrev zbMo_act : ByteArray := prog_11_method_29_code
def zyMo_act : MethodName := ⟨"PledgeMonitorModel", "act", "(II)V"⟩
abbrev zbMo_run : ByteArray := prog_11_method_30_code
def zyMo_run : MethodName := ⟨"PledgeMonitorModel", "run", "(I)V"⟩
abbrev zbMo_start : ByteArray := prog_11_method_31_code
def zyMo_start : MethodName := ⟨"PledgeMonitorModel", "start", "()V"⟩
abbrev zbMo_eventIn : ByteArray := prog_11_method_32_code
def zyMo_eventIn : MethodName := ⟨"PledgeMonitorModel", "eventIn", "(III)V"⟩
abbrev zbMo_passOver : ByteArray := prog_11_method_33_code
def zyMo_passOver : MethodName := ⟨"PledgeMonitorModel", "passOver", "(II)V"⟩
abbrev zbMo_endIn : ByteArray := prog_11_method_34_code
def zyMo_endIn : MethodName := ⟨"PledgeMonitorModel", "endIn", "(I)V"⟩
abbrev zbMo_begin : ByteArray := prog_11_method_35_code
def zyMo_begin : MethodName := ⟨"PledgeMonitorModel", "begin", "()I"⟩
abbrev zbMo_stop : ByteArray := prog_11_method_36_code
def zyMo_stop : MethodName := ⟨"PledgeMonitorModel", "stop", "()Z"⟩
abbrev zbMo_fault : ByteArray := prog_11_method_37_code
def zyMo_fault : MethodName := ⟨"PledgeMonitorModel", "fault", "()I"⟩
abbrev zbMo_settle : ByteArray := prog_11_method_38_code
def zyMo_settle : MethodName := ⟨"PledgeMonitorModel", "settle", "()I"⟩
abbrev zbMo_isParty : ByteArray := prog_11_method_39_code
def zyMo_isParty : MethodName := ⟨"PledgeMonitorModel", "isParty", "(I)Z"⟩
abbrev zbMo_isKind : ByteArray := prog_11_method_40_code
def zyMo_isKind : MethodName := ⟨"PledgeMonitorModel", "isKind", "(I)Z"⟩
abbrev zbMo_event : ByteArray := prog_11_method_41_code
def zyMo_event : MethodName := ⟨"PledgeMonitorModel", "event", "(II)I"⟩
abbrev zbMo_nextDay : ByteArray := prog_11_method_42_code
def zyMo_nextDay : MethodName := ⟨"PledgeMonitorModel", "nextDay", "()I"⟩
abbrev zbMo_undo : ByteArray := prog_11_method_43_code
def zyMo_undo : MethodName := ⟨"PledgeMonitorModel", "undo", "()Z"⟩
abbrev zbMo_today : ByteArray := prog_11_method_44_code
def zyMo_today : MethodName := ⟨"PledgeMonitorModel", "today", "()I"⟩
abbrev zbMo_duty : ByteArray := prog_11_method_45_code
def zyMo_duty : MethodName := ⟨"PledgeMonitorModel", "duty", "(I)I"⟩
abbrev zbMo_count : ByteArray := prog_11_method_46_code
def zyMo_count : MethodName := ⟨"PledgeMonitorModel", "count", "(I)I"⟩
abbrev zbMo_breaches : ByteArray := prog_11_method_47_code
def zyMo_breaches : MethodName := ⟨"PledgeMonitorModel", "breaches", "(I)I"⟩
abbrev zbMo_may : ByteArray := prog_11_method_48_code
def zyMo_may : MethodName := ⟨"PledgeMonitorModel", "may", "(II)I"⟩
abbrev zbMo_owed : ByteArray := prog_11_method_49_code
def zyMo_owed : MethodName := ⟨"PledgeMonitorModel", "owed", "(II)I"⟩
abbrev zbMo_goes : ByteArray := prog_11_method_50_code
def zyMo_goes : MethodName := ⟨"PledgeMonitorModel", "goes", "(IIII)Z"⟩
abbrev zbMo_hasOne : ByteArray := prog_11_method_51_code
def zyMo_hasOne : MethodName := ⟨"PledgeMonitorModel", "hasOne", "(III)Z"⟩
abbrev zbMo_firstCourse : ByteArray := prog_11_method_52_code
def zyMo_firstCourse : MethodName := ⟨"PledgeMonitorModel", "firstCourse", "(III)I"⟩
abbrev zbMo_askCode : ByteArray := prog_11_method_53_code
def zyMo_askCode : MethodName := ⟨"PledgeMonitorModel", "askCode", "(II)I"⟩
abbrev zbMo_course : ByteArray := prog_11_method_54_code
def zyMo_course : MethodName := ⟨"PledgeMonitorModel", "course", "(II)I"⟩
abbrev zbMo_threat : ByteArray := prog_11_method_55_code
def zyMo_threat : MethodName := ⟨"PledgeMonitorModel", "threat", "(II)I"⟩
abbrev zbAg_init : ByteArray := prog_2_method_1_code
def zyAg_init : MethodName := ⟨"PledgeMonitor$Agreement", "<init>", "()V"⟩
abbrev zbAg_find : ByteArray := prog_2_method_2_code
def zyAg_find : MethodName := ⟨"PledgeMonitor$Agreement", "find", "(LPledgeMonitor$Terms;II)I"⟩
abbrev zbAg_isTouchedBy : ByteArray := prog_2_method_3_code
def zyAg_isTouchedBy : MethodName := ⟨"PledgeMonitor$Agreement", "isTouchedBy", "(LPledgeMonitor$State;II)Z"⟩
abbrev zbAg_hasDutyDue : ByteArray := prog_2_method_4_code
def zyAg_hasDutyDue : MethodName := ⟨"PledgeMonitor$Agreement", "hasDutyDue", "(LPledgeMonitor$State;I)Z"⟩
abbrev zbAg_faultOfReferences : ByteArray := prog_2_method_5_code
def zyAg_faultOfReferences : MethodName := ⟨"PledgeMonitor$Agreement", "faultOfReferences", "()I"⟩
abbrev zbAg_refersRightly : ByteArray := prog_2_method_6_code
def zyAg_refersRightly : MethodName := ⟨"PledgeMonitor$Agreement", "refersRightly", "(LPledgeMonitor$Clause;)Z"⟩
abbrev zbAg_liesOnRound : ByteArray := prog_2_method_7_code
def zyAg_liesOnRound : MethodName := ⟨"PledgeMonitor$Agreement", "liesOnRound", "(I)Z"⟩
abbrev zbCl_init : ByteArray := prog_3_method_1_code
def zyCl_init : MethodName := ⟨"PledgeMonitor$Clause", "<init>", "()V"⟩
abbrev zbCl_isOnEvent : ByteArray := prog_3_method_2_code
def zyCl_isOnEvent : MethodName := ⟨"PledgeMonitor$Clause", "isOnEvent", "(II)Z"⟩
abbrev zbCl_isOn : ByteArray := prog_3_method_3_code
def zyCl_isOn : MethodName := ⟨"PledgeMonitor$Clause", "isOn", "(II)Z"⟩
abbrev zbCl_isFor : ByteArray := prog_3_method_4_code
def zyCl_isFor : MethodName := ⟨"PledgeMonitor$Clause", "isFor", "(II)Z"⟩
abbrev zbCl_holds : ByteArray := prog_3_method_5_code
def zyCl_holds : MethodName := ⟨"PledgeMonitor$Clause", "holds", "(LPledgeMonitor$State;)Z"⟩
abbrev zbHi_init : ByteArray := prog_4_method_1_code
def zyHi_init : MethodName := ⟨"PledgeMonitor$History", "<init>", "()V"⟩
abbrev zbHi_keep : ByteArray := prog_4_method_2_code
def zyHi_keep : MethodName := ⟨"PledgeMonitor$History", "keep", "(LPledgeMonitor$State;)V"⟩
abbrev zbHi_giveBack : ByteArray := prog_4_method_3_code
def zyHi_giveBack : MethodName := ⟨"PledgeMonitor$History", "giveBack", "(LPledgeMonitor$State;)Z"⟩
abbrev zbHi_forget : ByteArray := prog_4_method_4_code
def zyHi_forget : MethodName := ⟨"PledgeMonitor$History", "forget", "()V"⟩
abbrev zbRu_init : ByteArray := prog_5_method_1_code
def zyRu_init : MethodName := ⟨"PledgeMonitor$Runner", "<init>", "()V"⟩
abbrev zbRu_start : ByteArray := prog_5_method_2_code
def zyRu_start : MethodName := ⟨"PledgeMonitor$Runner", "start", "(LPledgeMonitor$Agreement;LPledgeMonitor$State;)Z"⟩
abbrev zbRu_happen : ByteArray := prog_5_method_3_code
def zyRu_happen : MethodName := ⟨"PledgeMonitor$Runner", "happen", "(LPledgeMonitor$Agreement;LPledgeMonitor$State;II)I"⟩
abbrev zbRu_endDay : ByteArray := prog_5_method_4_code
def zyRu_endDay : MethodName := ⟨"PledgeMonitor$Runner", "endDay", "(LPledgeMonitor$Agreement;LPledgeMonitor$State;)I"⟩
abbrev zbRu_breachBans : ByteArray := prog_5_method_5_code
def zyRu_breachBans : MethodName := ⟨"PledgeMonitor$Runner", "breachBans", "(LPledgeMonitor$Agreement;LPledgeMonitor$State;II)I"⟩
abbrev zbRu_fulfilDuty : ByteArray := prog_5_method_6_code
def zyRu_fulfilDuty : MethodName := ⟨"PledgeMonitor$Runner", "fulfilDuty", "(LPledgeMonitor$Agreement;LPledgeMonitor$State;II)V"⟩
abbrev zbRu_awaitAllOn : ByteArray := prog_5_method_7_code
def zyRu_awaitAllOn : MethodName := ⟨"PledgeMonitor$Runner", "awaitAllOn", "(LPledgeMonitor$Agreement;III)V"⟩
abbrev zbRu_await : ByteArray := prog_5_method_8_code
def zyRu_await : MethodName := ⟨"PledgeMonitor$Runner", "await", "(I)V"⟩
abbrev zbRu_runWaiting : ByteArray := prog_5_method_9_code
def zyRu_runWaiting : MethodName := ⟨"PledgeMonitor$Runner", "runWaiting", "(LPledgeMonitor$Agreement;LPledgeMonitor$State;)Z"⟩
abbrev zbRu_act : ByteArray := prog_5_method_10_code
def zyRu_act : MethodName := ⟨"PledgeMonitor$Runner", "act", "(LPledgeMonitor$Clause;ILPledgeMonitor$State;)Z"⟩
abbrev zbRu_businessDay : ByteArray := prog_5_method_11_code
def zyRu_businessDay : MethodName := ⟨"PledgeMonitor$Runner", "businessDay", "(II)I"⟩
abbrev zbSe_init : ByteArray := prog_6_method_1_code
def zySe_init : MethodName := ⟨"PledgeMonitor$Search", "<init>", "()V"⟩
abbrev zbSe_firstCourse : ByteArray := prog_6_method_2_code
def zySe_firstCourse : MethodName := ⟨"PledgeMonitor$Search", "firstCourse", "(LPledgeMonitor$Agreement;LPledgeMonitor$State;II)I"⟩
abbrev zbSe_isKeptByEndOfDay : ByteArray := prog_6_method_3_code
def zySe_isKeptByEndOfDay : MethodName := ⟨"PledgeMonitor$Search", "isKeptByEndOfDay", "(LPledgeMonitor$Agreement;LPledgeMonitor$State;II)Z"⟩
abbrev zbSe_changes : ByteArray := prog_6_method_4_code
def zySe_changes : MethodName := ⟨"PledgeMonitor$Search", "changes", "(LPledgeMonitor$Agreement;LPledgeMonitor$State;LPledgeMonitor$State;II)Z"⟩
abbrev zbSt_init : ByteArray := prog_7_method_1_code
def zySt_init : MethodName := ⟨"PledgeMonitor$State", "<init>", "()V"⟩
abbrev zbSt_debtOf : ByteArray := prog_7_method_2_code
def zySt_debtOf : MethodName := ⟨"PledgeMonitor$State", "debtOf", "(II)I"⟩
abbrev zbSt_addDebt : ByteArray := prog_7_method_3_code
def zySt_addDebt : MethodName := ⟨"PledgeMonitor$State", "addDebt", "(III)Z"⟩
abbrev zbSt_clear : ByteArray := prog_7_method_4_code
def zySt_clear : MethodName := ⟨"PledgeMonitor$State", "clear", "()V"⟩
abbrev zbSt_copyFrom : ByteArray := prog_7_method_5_code
def zySt_copyFrom : MethodName := ⟨"PledgeMonitor$State", "copyFrom", "(LPledgeMonitor$State;)V"⟩
abbrev zbTe_init : ByteArray := prog_8_method_1_code
def zyTe_init : MethodName := ⟨"PledgeMonitor$Terms", "<init>", "()V"⟩
abbrev zbTe_clauseAt : ByteArray := prog_8_method_2_code
def zyTe_clauseAt : MethodName := ⟨"PledgeMonitor$Terms", "clauseAt", "(I)I"⟩
abbrev zbTe_dayAt : ByteArray := prog_8_method_3_code
def zyTe_dayAt : MethodName := ⟨"PledgeMonitor$Terms", "dayAt", "(I)I"⟩
abbrev zbTe_add : ByteArray := prog_8_method_4_code
def zyTe_add : MethodName := ⟨"PledgeMonitor$Terms", "add", "(II)Z"⟩
abbrev zbTe_remove : ByteArray := prog_8_method_5_code
def zyTe_remove : MethodName := ⟨"PledgeMonitor$Terms", "remove", "(II)V"⟩
abbrev zbTe_dropBefore : ByteArray := prog_8_method_6_code
def zyTe_dropBefore : MethodName := ⟨"PledgeMonitor$Terms", "dropBefore", "(I)V"⟩
abbrev zbTe_countUntil : ByteArray := prog_8_method_7_code
def zyTe_countUntil : MethodName := ⟨"PledgeMonitor$Terms", "countUntil", "(II)I"⟩
abbrev zbTe_copyFrom : ByteArray := prog_8_method_8_code
def zyTe_copyFrom : MethodName := ⟨"PledgeMonitor$Terms", "copyFrom", "(LPledgeMonitor$Terms;)V"⟩
abbrev zbTx_init : ByteArray := prog_9_method_1_code
def zyTx_init : MethodName := ⟨"PledgeMonitor$Text", "<init>", "()V"⟩
abbrev zbTx_put : ByteArray := prog_9_method_2_code
def zyTx_put : MethodName := ⟨"PledgeMonitor$Text", "put", "(J)Z"⟩
abbrev zbTx_characterOf : ByteArray := prog_9_method_3_code
def zyTx_characterOf : MethodName := ⟨"PledgeMonitor$Text", "characterOf", "(JI)I"⟩
abbrev zbTx_readInto : ByteArray := prog_9_method_4_code
def zyTx_readInto : MethodName := ⟨"PledgeMonitor$Text", "readInto", "(LPledgeMonitor$Agreement;)I"⟩
abbrev zbTx_readClause : ByteArray := prog_9_method_5_code
def zyTx_readClause : MethodName := ⟨"PledgeMonitor$Text", "readClause", "(LPledgeMonitor$Clause;)Z"⟩
abbrev zbTx_readTrigger : ByteArray := prog_9_method_6_code
def zyTx_readTrigger : MethodName := ⟨"PledgeMonitor$Text", "readTrigger", "(LPledgeMonitor$Clause;)Z"⟩
abbrev zbTx_readTriggerNumber : ByteArray := prog_9_method_7_code
def zyTx_readTriggerNumber : MethodName := ⟨"PledgeMonitor$Text", "readTriggerNumber", "(LPledgeMonitor$Clause;)Z"⟩
abbrev zbTx_readCondition : ByteArray := prog_9_method_8_code
def zyTx_readCondition : MethodName := ⟨"PledgeMonitor$Text", "readCondition", "(LPledgeMonitor$Clause;)Z"⟩
abbrev zbTx_readAction : ByteArray := prog_9_method_9_code
def zyTx_readAction : MethodName := ⟨"PledgeMonitor$Text", "readAction", "(LPledgeMonitor$Clause;)Z"⟩
abbrev zbTx_readTermSign : ByteArray := prog_9_method_10_code
def zyTx_readTermSign : MethodName := ⟨"PledgeMonitor$Text", "readTermSign", "(LPledgeMonitor$Clause;)Z"⟩
abbrev zbTx_readTwoParties : ByteArray := prog_9_method_11_code
def zyTx_readTwoParties : MethodName := ⟨"PledgeMonitor$Text", "readTwoParties", "()Z"⟩
abbrev zbTx_readPartyAndKind : ByteArray := prog_9_method_12_code
def zyTx_readPartyAndKind : MethodName := ⟨"PledgeMonitor$Text", "readPartyAndKind", "()Z"⟩
abbrev zbTx_readDigit : ByteArray := prog_9_method_13_code
def zyTx_readDigit : MethodName := ⟨"PledgeMonitor$Text", "readDigit", "()Z"⟩
abbrev zbTx_isNext : ByteArray := prog_9_method_14_code
def zyTx_isNext : MethodName := ⟨"PledgeMonitor$Text", "isNext", "(C)Z"⟩
abbrev zbTx_takes : ByteArray := prog_9_method_15_code
def zyTx_takes : MethodName := ⟨"PledgeMonitor$Text", "takes", "(C)Z"⟩
abbrev zbTx_takeParty : ByteArray := prog_9_method_16_code
def zyTx_takeParty : MethodName := ⟨"PledgeMonitor$Text", "takeParty", "()I"⟩
abbrev zbTx_takeKind : ByteArray := prog_9_method_17_code
def zyTx_takeKind : MethodName := ⟨"PledgeMonitor$Text", "takeKind", "()I"⟩
abbrev zbTx_takeDigit : ByteArray := prog_9_method_18_code
def zyTx_takeDigit : MethodName := ⟨"PledgeMonitor$Text", "takeDigit", "()I"⟩
abbrev zbTx_takeFrom : ByteArray := prog_9_method_19_code
def zyTx_takeFrom : MethodName := ⟨"PledgeMonitor$Text", "takeFrom", "(CI)I"⟩
abbrev zbLw_begin : ByteArray := method_3_code
def zyLw_begin : MethodName := ⟨"PledgeMonitorLaw", "begin", "(LPledgeMonitor;[J)I"⟩
abbrev zbLw_event : ByteArray := method_4_code
def zyLw_event : MethodName := ⟨"PledgeMonitorLaw", "event", "(LPledgeMonitor;II[J)I"⟩
abbrev zbLw_nextDay : ByteArray := method_5_code
def zyLw_nextDay : MethodName := ⟨"PledgeMonitorLaw", "nextDay", "(LPledgeMonitor;[J)I"⟩
abbrev zbLw_course : ByteArray := method_6_code
def zyLw_course : MethodName := ⟨"PledgeMonitorLaw", "course", "(LPledgeMonitor;II[J)I"⟩
abbrev zbLw_threat : ByteArray := method_7_code
def zyLw_threat : MethodName := ⟨"PledgeMonitorLaw", "threat", "(LPledgeMonitor;II[J)I"⟩
abbrev zbLw_law : ByteArray := code
end
section
theorem dPm_init_0 : decode zbPm_init 0 = .ok (.aload_n 0, 1) := by decide +kernel
theorem dPm_init_1 : decode zbPm_init 1 = .ok (.invokespecial 1, 3) := by decide +kernel
theorem dPm_init_4 : decode zbPm_init 4 = .ok (.aload_n 0, 1) := by decide +kernel
theorem dPm_init_5 : decode zbPm_init 5 = .ok (.new 7, 3) := by decide +kernel
theorem dPm_init_8 : decode zbPm_init 8 = .ok (.dup, 1) := by decide +kernel
theorem dPm_init_9 : decode zbPm_init 9 = .ok (.invokespecial 9, 3) := by decide +kernel
theorem dPm_init_12 : decode zbPm_init 12 = .ok (.putfield 10, 3) := by decide +kernel
theorem dPm_init_15 : decode zbPm_init 15 = .ok (.aload_n 0, 1) := by decide +kernel
theorem dPm_init_16 : decode zbPm_init 16 = .ok (.iconst (-1), 1) := by decide +kernel
theorem dPm_init_17 : decode zbPm_init 17 = .ok (.putfield 16, 3) := by decide +kernel
theorem dPm_init_20 : decode zbPm_init 20 = .ok (.aload_n 0, 1) := by decide +kernel
theorem dPm_init_21 : decode zbPm_init 21 = .ok (.iconst 0, 1) := by decide +kernel
theorem dPm_init_22 : decode zbPm_init 22 = .ok (.putfield 20, 3) := by decide +kernel
theorem dPm_init_25 : decode zbPm_init 25 = .ok (.aload_n 0, 1) := by decide +kernel
theorem dPm_init_26 : decode zbPm_init 26 = .ok (.new 24, 3) := by decide +kernel
theorem dPm_init_29 : decode zbPm_init 29 = .ok (.dup, 1) := by decide +kernel
theorem dPm_init_30 : decode zbPm_init 30 = .ok (.invokespecial 26, 3) := by decide +kernel
theorem dPm_init_33 : decode zbPm_init 33 = .ok (.putfield 27, 3) := by decide +kernel
theorem dPm_init_36 : decode zbPm_init 36 = .ok (.aload_n 0, 1) := by decide +kernel
theorem dPm_init_37 : decode zbPm_init 37 = .ok (.new 24, 3) := by decide +kernel
theorem dPm_init_40 : decode zbPm_init 40 = .ok (.dup, 1) := by decide +kernel
theorem dPm_init_41 : decode zbPm_init 41 = .ok (.invokespecial 26, 3) := by decide +kernel
theorem dPm_init_44 : decode zbPm_init 44 = .ok (.putfield 31, 3) := by decide +kernel
theorem dPm_init_47 : decode zbPm_init 47 = .ok (.aload_n 0, 1) := by decide +kernel
theorem dPm_init_48 : decode zbPm_init 48 = .ok (.new 34, 3) := by decide +kernel
theorem dPm_init_51 : decode zbPm_init 51 = .ok (.dup, 1) := by decide +kernel
theorem dPm_init_52 : decode zbPm_init 52 = .ok (.invokespecial 36, 3) := by decide +kernel
theorem dPm_init_55 : decode zbPm_init 55 = .ok (.putfield 37, 3) := by decide +kernel
theorem dPm_init_58 : decode zbPm_init 58 = .ok (.aload_n 0, 1) := by decide +kernel
theorem dPm_init_59 : decode zbPm_init 59 = .ok (.new 34, 3) := by decide +kernel
theorem dPm_init_62 : decode zbPm_init 62 = .ok (.dup, 1) := by decide +kernel
theorem dPm_init_63 : decode zbPm_init 63 = .ok (.invokespecial 36, 3) := by decide +kernel
theorem dPm_init_66 : decode zbPm_init 66 = .ok (.putfield 41, 3) := by decide +kernel
theorem dPm_init_69 : decode zbPm_init 69 = .ok (.aload_n 0, 1) := by decide +kernel
theorem dPm_init_70 : decode zbPm_init 70 = .ok (.new 44, 3) := by decide +kernel
theorem dPm_init_73 : decode zbPm_init 73 = .ok (.dup, 1) := by decide +kernel
theorem dPm_init_74 : decode zbPm_init 74 = .ok (.invokespecial 46, 3) := by decide +kernel
theorem dPm_init_77 : decode zbPm_init 77 = .ok (.putfield 47, 3) := by decide +kernel
theorem dPm_init_80 : decode zbPm_init 80 = .ok (.aload_n 0, 1) := by decide +kernel
theorem dPm_init_81 : decode zbPm_init 81 = .ok (.new 51, 3) := by decide +kernel
theorem dPm_init_84 : decode zbPm_init 84 = .ok (.dup, 1) := by decide +kernel
theorem dPm_init_85 : decode zbPm_init 85 = .ok (.invokespecial 53, 3) := by decide +kernel
theorem dPm_init_88 : decode zbPm_init 88 = .ok (.putfield 54, 3) := by decide +kernel
theorem dPm_init_91 : decode zbPm_init 91 = .ok (.aload_n 0, 1) := by decide +kernel
theorem dPm_init_92 : decode zbPm_init 92 = .ok (.aload_n 0, 1) := by decide +kernel
theorem dPm_init_93 : decode zbPm_init 93 = .ok (.getfield 54, 3) := by decide +kernel
theorem dPm_init_96 : decode zbPm_init 96 = .ok (.getfield 58, 3) := by decide +kernel
theorem dPm_init_99 : decode zbPm_init 99 = .ok (.putfield 62, 3) := by decide +kernel
theorem dPm_init_102 : decode zbPm_init 102 = .ok (.return_, 1) := by decide +kernel
theorem dPm_type_0 : decode zbPm_type 0 = .ok (.aload_n 0, 1) := by decide +kernel
theorem dPm_type_1 : decode zbPm_type 1 = .ok (.getfield 10, 3) := by decide +kernel
theorem dPm_type_4 : decode zbPm_type 4 = .ok (.lload_n 1, 1) := by decide +kernel
theorem dPm_type_5 : decode zbPm_type 5 = .ok (.invokevirtual 63, 3) := by decide +kernel
theorem dPm_type_8 : decode zbPm_type 8 = .ok (.ireturn, 1) := by decide +kernel
theorem dPm_erase_0 : decode zbPm_erase 0 = .ok (.aload_n 0, 1) := by decide +kernel
theorem dPm_erase_1 : decode zbPm_erase 1 = .ok (.getfield 10, 3) := by decide +kernel
theorem dPm_erase_4 : decode zbPm_erase 4 = .ok (.getfield 67, 3) := by decide +kernel
theorem dPm_erase_7 : decode zbPm_erase 7 = .ok (.istore_n 1, 1) := by decide +kernel
theorem dPm_erase_8 : decode zbPm_erase 8 = .ok (.aload_n 0, 1) := by decide +kernel
theorem dPm_erase_9 : decode zbPm_erase 9 = .ok (.getfield 10, 3) := by decide +kernel
theorem dPm_erase_12 : decode zbPm_erase 12 = .ok (.iconst 0, 1) := by decide +kernel
theorem dPm_erase_13 : decode zbPm_erase 13 = .ok (.putfield 67, 3) := by decide +kernel
theorem dPm_erase_16 : decode zbPm_erase 16 = .ok (.iload_n 1, 1) := by decide +kernel
theorem dPm_erase_17 : decode zbPm_erase 17 = .ok (.ireturn, 1) := by decide +kernel
theorem dPm_free_0 : decode zbPm_free 0 = .ok (.aload_n 0, 1) := by decide +kernel
theorem dPm_free_1 : decode zbPm_free 1 = .ok (.getfield 20, 3) := by decide +kernel
theorem dPm_free_4 : decode zbPm_free 4 = .ok (.ifCond .ne 13, 3) := by decide +kernel
theorem dPm_free_7 : decode zbPm_free 7 = .ok (.iload_n 1, 1) := by decide +kernel
theorem dPm_free_8 : decode zbPm_free 8 = .ok (.ifCond .lt 9, 3) := by decide +kernel
theorem dPm_free_11 : decode zbPm_free 11 = .ok (.iload_n 1, 1) := by decide +kernel
theorem dPm_free_12 : decode zbPm_free 12 = .ok (.bipush 60, 2) := by decide +kernel
theorem dPm_free_14 : decode zbPm_free 14 = .ok (.if_icmp .le 5, 3) := by decide +kernel
theorem dPm_free_17 : decode zbPm_free 17 = .ok (.iconst 0, 1) := by decide +kernel
theorem dPm_free_18 : decode zbPm_free 18 = .ok (.ireturn, 1) := by decide +kernel
theorem dPm_free_19 : decode zbPm_free 19 = .ok (.aload_n 0, 1) := by decide +kernel
theorem dPm_free_20 : decode zbPm_free 20 = .ok (.getfield 62, 3) := by decide +kernel
theorem dPm_free_23 : decode zbPm_free 23 = .ok (.getfield 70, 3) := by decide +kernel
theorem dPm_free_26 : decode zbPm_free 26 = .ok (.iload_n 1, 1) := by decide +kernel
theorem dPm_free_27 : decode zbPm_free 27 = .ok (.aload_n 0, 1) := by decide +kernel
theorem dPm_free_28 : decode zbPm_free 28 = .ok (.getfield 62, 3) := by decide +kernel
theorem dPm_free_31 : decode zbPm_free 31 = .ok (.getfield 70, 3) := by decide +kernel
theorem dPm_free_34 : decode zbPm_free 34 = .ok (.iload_n 1, 1) := by decide +kernel
theorem dPm_free_35 : decode zbPm_free 35 = .ok (.baload, 1) := by decide +kernel
theorem dPm_free_36 : decode zbPm_free 36 = .ok (.ifCond .ne 7, 3) := by decide +kernel
theorem dPm_free_39 : decode zbPm_free 39 = .ok (.iconst 1, 1) := by decide +kernel
theorem dPm_free_40 : decode zbPm_free 40 = .ok (.goto 4, 3) := by decide +kernel
theorem dPm_free_43 : decode zbPm_free 43 = .ok (.iconst 0, 1) := by decide +kernel
theorem dPm_free_44 : decode zbPm_free 44 = .ok (.bastore, 1) := by decide +kernel
theorem dPm_free_45 : decode zbPm_free 45 = .ok (.aload_n 0, 1) := by decide +kernel
theorem dPm_free_46 : decode zbPm_free 46 = .ok (.getfield 62, 3) := by decide +kernel
theorem dPm_free_49 : decode zbPm_free 49 = .ok (.getfield 70, 3) := by decide +kernel
theorem dPm_free_52 : decode zbPm_free 52 = .ok (.iload_n 1, 1) := by decide +kernel
theorem dPm_free_53 : decode zbPm_free 53 = .ok (.baload, 1) := by decide +kernel
theorem dPm_free_54 : decode zbPm_free 54 = .ok (.ireturn, 1) := by decide +kernel
theorem dPm_begin_0 : decode zbPm_begin 0 = .ok (.aload_n 0, 1) := by decide +kernel
theorem dPm_begin_1 : decode zbPm_begin 1 = .ok (.aload_n 0, 1) := by decide +kernel
theorem dPm_begin_2 : decode zbPm_begin 2 = .ok (.getfield 10, 3) := by decide +kernel
theorem dPm_begin_5 : decode zbPm_begin 5 = .ok (.aload_n 0, 1) := by decide +kernel
theorem dPm_begin_6 : decode zbPm_begin 6 = .ok (.getfield 31, 3) := by decide +kernel
theorem dPm_begin_9 : decode zbPm_begin 9 = .ok (.invokevirtual 76, 3) := by decide +kernel
theorem dPm_begin_12 : decode zbPm_begin 12 = .ok (.putfield 16, 3) := by decide +kernel
theorem dPm_begin_15 : decode zbPm_begin 15 = .ok (.aload_n 0, 1) := by decide +kernel
theorem dPm_begin_16 : decode zbPm_begin 16 = .ok (.getfield 16, 3) := by decide +kernel
theorem dPm_begin_19 : decode zbPm_begin 19 = .ok (.iconst (-1), 1) := by decide +kernel
theorem dPm_begin_20 : decode zbPm_begin 20 = .ok (.if_icmp .eq 11, 3) := by decide +kernel
theorem dPm_begin_23 : decode zbPm_begin 23 = .ok (.new 80, 3) := by decide +kernel
theorem dPm_begin_26 : decode zbPm_begin 26 = .ok (.dup, 1) := by decide +kernel
theorem dPm_begin_27 : decode zbPm_begin 27 = .ok (.invokespecial 82, 3) := by decide +kernel
theorem dPm_begin_30 : decode zbPm_begin 30 = .ok (.athrow, 1) := by decide +kernel
theorem dPm_begin_31 : decode zbPm_begin 31 = .ok (.aload_n 0, 1) := by decide +kernel
theorem dPm_begin_32 : decode zbPm_begin 32 = .ok (.getfield 41, 3) := by decide +kernel
theorem dPm_begin_35 : decode zbPm_begin 35 = .ok (.invokevirtual 83, 3) := by decide +kernel
theorem dPm_begin_38 : decode zbPm_begin 38 = .ok (.aload_n 0, 1) := by decide +kernel
theorem dPm_begin_39 : decode zbPm_begin 39 = .ok (.getfield 62, 3) := by decide +kernel
theorem dPm_begin_42 : decode zbPm_begin 42 = .ok (.aload_n 0, 1) := by decide +kernel
theorem dPm_begin_43 : decode zbPm_begin 43 = .ok (.getfield 31, 3) := by decide +kernel
theorem dPm_begin_46 : decode zbPm_begin 46 = .ok (.aload_n 0, 1) := by decide +kernel
theorem dPm_begin_47 : decode zbPm_begin 47 = .ok (.getfield 41, 3) := by decide +kernel
theorem dPm_begin_50 : decode zbPm_begin 50 = .ok (.invokevirtual 86, 3) := by decide +kernel
theorem dPm_begin_53 : decode zbPm_begin 53 = .ok (.ifCond .ne 11, 3) := by decide +kernel
theorem dPm_begin_56 : decode zbPm_begin 56 = .ok (.new 90, 3) := by decide +kernel
theorem dPm_begin_59 : decode zbPm_begin 59 = .ok (.dup, 1) := by decide +kernel
theorem dPm_begin_60 : decode zbPm_begin 60 = .ok (.invokespecial 92, 3) := by decide +kernel
theorem dPm_begin_63 : decode zbPm_begin 63 = .ok (.athrow, 1) := by decide +kernel
theorem dPm_begin_64 : decode zbPm_begin 64 = .ok (.aload_n 0, 1) := by decide +kernel
theorem dPm_begin_65 : decode zbPm_begin 65 = .ok (.getfield 27, 3) := by decide +kernel
theorem dPm_begin_68 : decode zbPm_begin 68 = .ok (.astore_n 1, 1) := by decide +kernel
theorem dPm_begin_69 : decode zbPm_begin 69 = .ok (.aload_n 0, 1) := by decide +kernel
theorem dPm_begin_70 : decode zbPm_begin 70 = .ok (.aload_n 0, 1) := by decide +kernel
theorem dPm_begin_71 : decode zbPm_begin 71 = .ok (.getfield 31, 3) := by decide +kernel
theorem dPm_begin_74 : decode zbPm_begin 74 = .ok (.putfield 27, 3) := by decide +kernel
theorem dPm_begin_77 : decode zbPm_begin 77 = .ok (.aload_n 0, 1) := by decide +kernel
theorem dPm_begin_78 : decode zbPm_begin 78 = .ok (.aload_n 1, 1) := by decide +kernel
theorem dPm_begin_79 : decode zbPm_begin 79 = .ok (.putfield 31, 3) := by decide +kernel
theorem dPm_begin_82 : decode zbPm_begin 82 = .ok (.aload_n 0, 1) := by decide +kernel
theorem dPm_begin_83 : decode zbPm_begin 83 = .ok (.getfield 37, 3) := by decide +kernel
theorem dPm_begin_86 : decode zbPm_begin 86 = .ok (.aload_n 0, 1) := by decide +kernel
theorem dPm_begin_87 : decode zbPm_begin 87 = .ok (.getfield 41, 3) := by decide +kernel
theorem dPm_begin_90 : decode zbPm_begin 90 = .ok (.invokevirtual 93, 3) := by decide +kernel
theorem dPm_begin_93 : decode zbPm_begin 93 = .ok (.aload_n 0, 1) := by decide +kernel
theorem dPm_begin_94 : decode zbPm_begin 94 = .ok (.getfield 47, 3) := by decide +kernel
theorem dPm_begin_97 : decode zbPm_begin 97 = .ok (.invokevirtual 97, 3) := by decide +kernel
theorem dPm_begin_100 : decode zbPm_begin 100 = .ok (.aload_n 0, 1) := by decide +kernel
theorem dPm_begin_101 : decode zbPm_begin 101 = .ok (.getfield 10, 3) := by decide +kernel
theorem dPm_begin_104 : decode zbPm_begin 104 = .ok (.iconst 0, 1) := by decide +kernel
theorem dPm_begin_105 : decode zbPm_begin 105 = .ok (.putfield 67, 3) := by decide +kernel
theorem dPm_begin_108 : decode zbPm_begin 108 = .ok (.aload_n 0, 1) := by decide +kernel
theorem dPm_begin_109 : decode zbPm_begin 109 = .ok (.iconst 1, 1) := by decide +kernel
theorem dPm_begin_110 : decode zbPm_begin 110 = .ok (.putfield 20, 3) := by decide +kernel
theorem dPm_begin_113 : decode zbPm_begin 113 = .ok (.aload_n 0, 1) := by decide +kernel
theorem dPm_begin_114 : decode zbPm_begin 114 = .ok (.getfield 27, 3) := by decide +kernel
theorem dPm_begin_117 : decode zbPm_begin 117 = .ok (.getfield 100, 3) := by decide +kernel
theorem dPm_begin_120 : decode zbPm_begin 120 = .ok (.ireturn, 1) := by decide +kernel
theorem dPm_stop_0 : decode zbPm_stop 0 = .ok (.aload_n 0, 1) := by decide +kernel
theorem dPm_stop_1 : decode zbPm_stop 1 = .ok (.getfield 20, 3) := by decide +kernel
theorem dPm_stop_4 : decode zbPm_stop 4 = .ok (.istore_n 1, 1) := by decide +kernel
theorem dPm_stop_5 : decode zbPm_stop 5 = .ok (.aload_n 0, 1) := by decide +kernel
theorem dPm_stop_6 : decode zbPm_stop 6 = .ok (.iconst 0, 1) := by decide +kernel
theorem dPm_stop_7 : decode zbPm_stop 7 = .ok (.putfield 20, 3) := by decide +kernel
theorem dPm_stop_10 : decode zbPm_stop 10 = .ok (.aload_n 0, 1) := by decide +kernel
theorem dPm_stop_11 : decode zbPm_stop 11 = .ok (.getfield 47, 3) := by decide +kernel
theorem dPm_stop_14 : decode zbPm_stop 14 = .ok (.invokevirtual 97, 3) := by decide +kernel
theorem dPm_stop_17 : decode zbPm_stop 17 = .ok (.iload_n 1, 1) := by decide +kernel
theorem dPm_stop_18 : decode zbPm_stop 18 = .ok (.ireturn, 1) := by decide +kernel
theorem dPm_fault_0 : decode zbPm_fault 0 = .ok (.aload_n 0, 1) := by decide +kernel
theorem dPm_fault_1 : decode zbPm_fault 1 = .ok (.getfield 16, 3) := by decide +kernel
theorem dPm_fault_4 : decode zbPm_fault 4 = .ok (.ireturn, 1) := by decide +kernel
theorem dPm_event_0 : decode zbPm_event 0 = .ok (.aload_n 0, 1) := by decide +kernel
theorem dPm_event_1 : decode zbPm_event 1 = .ok (.getfield 20, 3) := by decide +kernel
theorem dPm_event_4 : decode zbPm_event 4 = .ok (.ifCond .ne 11, 3) := by decide +kernel
theorem dPm_event_7 : decode zbPm_event 7 = .ok (.new 103, 3) := by decide +kernel
theorem dPm_event_10 : decode zbPm_event 10 = .ok (.dup, 1) := by decide +kernel
theorem dPm_event_11 : decode zbPm_event 11 = .ok (.invokespecial 105, 3) := by decide +kernel
theorem dPm_event_14 : decode zbPm_event 14 = .ok (.athrow, 1) := by decide +kernel
theorem dPm_event_15 : decode zbPm_event 15 = .ok (.iload_n 1, 1) := by decide +kernel
theorem dPm_event_16 : decode zbPm_event 16 = .ok (.invokestatic 106, 3) := by decide +kernel
theorem dPm_event_19 : decode zbPm_event 19 = .ok (.ifCond .eq 10, 3) := by decide +kernel
theorem dPm_event_22 : decode zbPm_event 22 = .ok (.iload_n 2, 1) := by decide +kernel
theorem dPm_event_23 : decode zbPm_event 23 = .ok (.invokestatic 110, 3) := by decide +kernel
theorem dPm_event_26 : decode zbPm_event 26 = .ok (.ifCond .ne 11, 3) := by decide +kernel
theorem dPm_event_29 : decode zbPm_event 29 = .ok (.new 80, 3) := by decide +kernel
theorem dPm_event_32 : decode zbPm_event 32 = .ok (.dup, 1) := by decide +kernel
theorem dPm_event_33 : decode zbPm_event 33 = .ok (.invokespecial 82, 3) := by decide +kernel
theorem dPm_event_36 : decode zbPm_event 36 = .ok (.athrow, 1) := by decide +kernel
theorem dPm_event_37 : decode zbPm_event 37 = .ok (.aload_n 0, 1) := by decide +kernel
theorem dPm_event_38 : decode zbPm_event 38 = .ok (.getfield 41, 3) := by decide +kernel
theorem dPm_event_41 : decode zbPm_event 41 = .ok (.aload_n 0, 1) := by decide +kernel
theorem dPm_event_42 : decode zbPm_event 42 = .ok (.getfield 37, 3) := by decide +kernel
theorem dPm_event_45 : decode zbPm_event 45 = .ok (.invokevirtual 93, 3) := by decide +kernel
theorem dPm_event_48 : decode zbPm_event 48 = .ok (.aload_n 0, 1) := by decide +kernel
theorem dPm_event_49 : decode zbPm_event 49 = .ok (.getfield 62, 3) := by decide +kernel
theorem dPm_event_52 : decode zbPm_event 52 = .ok (.aload_n 0, 1) := by decide +kernel
theorem dPm_event_53 : decode zbPm_event 53 = .ok (.getfield 27, 3) := by decide +kernel
theorem dPm_event_56 : decode zbPm_event 56 = .ok (.aload_n 0, 1) := by decide +kernel
theorem dPm_event_57 : decode zbPm_event 57 = .ok (.getfield 41, 3) := by decide +kernel
theorem dPm_event_60 : decode zbPm_event 60 = .ok (.iload_n 1, 1) := by decide +kernel
theorem dPm_event_61 : decode zbPm_event 61 = .ok (.iload_n 2, 1) := by decide +kernel
theorem dPm_event_62 : decode zbPm_event 62 = .ok (.invokevirtual 113, 3) := by decide +kernel
theorem dPm_event_65 : decode zbPm_event 65 = .ok (.istore_n 3, 1) := by decide +kernel
theorem dPm_event_66 : decode zbPm_event 66 = .ok (.iload_n 3, 1) := by decide +kernel
theorem dPm_event_67 : decode zbPm_event 67 = .ok (.bipush (-2), 2) := by decide +kernel
theorem dPm_event_69 : decode zbPm_event 69 = .ok (.if_icmp .ne 11, 3) := by decide +kernel
theorem dPm_event_72 : decode zbPm_event 72 = .ok (.new 90, 3) := by decide +kernel
theorem dPm_event_75 : decode zbPm_event 75 = .ok (.dup, 1) := by decide +kernel
theorem dPm_event_76 : decode zbPm_event 76 = .ok (.invokespecial 92, 3) := by decide +kernel
theorem dPm_event_79 : decode zbPm_event 79 = .ok (.athrow, 1) := by decide +kernel
theorem dPm_event_80 : decode zbPm_event 80 = .ok (.aload_n 0, 1) := by decide +kernel
theorem dPm_event_81 : decode zbPm_event 81 = .ok (.invokevirtual 117, 3) := by decide +kernel
theorem dPm_event_84 : decode zbPm_event 84 = .ok (.iload_n 3, 1) := by decide +kernel
theorem dPm_event_85 : decode zbPm_event 85 = .ok (.ireturn, 1) := by decide +kernel
theorem dPm_nextDay_0 : decode zbPm_nextDay 0 = .ok (.aload_n 0, 1) := by decide +kernel
theorem dPm_nextDay_1 : decode zbPm_nextDay 1 = .ok (.getfield 20, 3) := by decide +kernel
theorem dPm_nextDay_4 : decode zbPm_nextDay 4 = .ok (.ifCond .eq 15, 3) := by decide +kernel
theorem dPm_nextDay_7 : decode zbPm_nextDay 7 = .ok (.aload_n 0, 1) := by decide +kernel
theorem dPm_nextDay_8 : decode zbPm_nextDay 8 = .ok (.getfield 37, 3) := by decide +kernel
theorem dPm_nextDay_11 : decode zbPm_nextDay 11 = .ok (.getfield 120, 3) := by decide +kernel
theorem dPm_nextDay_14 : decode zbPm_nextDay 14 = .ok (.bipush 60, 2) := by decide +kernel
theorem dPm_nextDay_16 : decode zbPm_nextDay 16 = .ok (.if_icmp .lt 11, 3) := by decide +kernel
theorem dPm_nextDay_19 : decode zbPm_nextDay 19 = .ok (.new 103, 3) := by decide +kernel
theorem dPm_nextDay_22 : decode zbPm_nextDay 22 = .ok (.dup, 1) := by decide +kernel
theorem dPm_nextDay_23 : decode zbPm_nextDay 23 = .ok (.invokespecial 105, 3) := by decide +kernel
theorem dPm_nextDay_26 : decode zbPm_nextDay 26 = .ok (.athrow, 1) := by decide +kernel
theorem dPm_nextDay_27 : decode zbPm_nextDay 27 = .ok (.aload_n 0, 1) := by decide +kernel
theorem dPm_nextDay_28 : decode zbPm_nextDay 28 = .ok (.getfield 41, 3) := by decide +kernel
theorem dPm_nextDay_31 : decode zbPm_nextDay 31 = .ok (.aload_n 0, 1) := by decide +kernel
theorem dPm_nextDay_32 : decode zbPm_nextDay 32 = .ok (.getfield 37, 3) := by decide +kernel
theorem dPm_nextDay_35 : decode zbPm_nextDay 35 = .ok (.invokevirtual 93, 3) := by decide +kernel
theorem dPm_nextDay_38 : decode zbPm_nextDay 38 = .ok (.aload_n 0, 1) := by decide +kernel
theorem dPm_nextDay_39 : decode zbPm_nextDay 39 = .ok (.getfield 62, 3) := by decide +kernel
theorem dPm_nextDay_42 : decode zbPm_nextDay 42 = .ok (.aload_n 0, 1) := by decide +kernel
theorem dPm_nextDay_43 : decode zbPm_nextDay 43 = .ok (.getfield 27, 3) := by decide +kernel
theorem dPm_nextDay_46 : decode zbPm_nextDay 46 = .ok (.aload_n 0, 1) := by decide +kernel
theorem dPm_nextDay_47 : decode zbPm_nextDay 47 = .ok (.getfield 41, 3) := by decide +kernel
theorem dPm_nextDay_50 : decode zbPm_nextDay 50 = .ok (.invokevirtual 123, 3) := by decide +kernel
theorem dPm_nextDay_53 : decode zbPm_nextDay 53 = .ok (.istore_n 1, 1) := by decide +kernel
theorem dPm_nextDay_54 : decode zbPm_nextDay 54 = .ok (.iload_n 1, 1) := by decide +kernel
theorem dPm_nextDay_55 : decode zbPm_nextDay 55 = .ok (.bipush (-2), 2) := by decide +kernel
theorem dPm_nextDay_57 : decode zbPm_nextDay 57 = .ok (.if_icmp .ne 11, 3) := by decide +kernel
theorem dPm_nextDay_60 : decode zbPm_nextDay 60 = .ok (.new 90, 3) := by decide +kernel
theorem dPm_nextDay_63 : decode zbPm_nextDay 63 = .ok (.dup, 1) := by decide +kernel
theorem dPm_nextDay_64 : decode zbPm_nextDay 64 = .ok (.invokespecial 92, 3) := by decide +kernel
theorem dPm_nextDay_67 : decode zbPm_nextDay 67 = .ok (.athrow, 1) := by decide +kernel
theorem dPm_nextDay_68 : decode zbPm_nextDay 68 = .ok (.aload_n 0, 1) := by decide +kernel
theorem dPm_nextDay_69 : decode zbPm_nextDay 69 = .ok (.invokevirtual 117, 3) := by decide +kernel
theorem dPm_nextDay_72 : decode zbPm_nextDay 72 = .ok (.iload_n 1, 1) := by decide +kernel
theorem dPm_nextDay_73 : decode zbPm_nextDay 73 = .ok (.ireturn, 1) := by decide +kernel
theorem dPm_undo_0 : decode zbPm_undo 0 = .ok (.aload_n 0, 1) := by decide +kernel
theorem dPm_undo_1 : decode zbPm_undo 1 = .ok (.getfield 47, 3) := by decide +kernel
theorem dPm_undo_4 : decode zbPm_undo 4 = .ok (.aload_n 0, 1) := by decide +kernel
theorem dPm_undo_5 : decode zbPm_undo 5 = .ok (.getfield 37, 3) := by decide +kernel
theorem dPm_undo_8 : decode zbPm_undo 8 = .ok (.invokevirtual 127, 3) := by decide +kernel
theorem dPm_undo_11 : decode zbPm_undo 11 = .ok (.ireturn, 1) := by decide +kernel
theorem dPm_today_0 : decode zbPm_today 0 = .ok (.aload_n 0, 1) := by decide +kernel
theorem dPm_today_1 : decode zbPm_today 1 = .ok (.getfield 20, 3) := by decide +kernel
theorem dPm_today_4 : decode zbPm_today 4 = .ok (.ifCond .eq 13, 3) := by decide +kernel
theorem dPm_today_7 : decode zbPm_today 7 = .ok (.aload_n 0, 1) := by decide +kernel
theorem dPm_today_8 : decode zbPm_today 8 = .ok (.getfield 37, 3) := by decide +kernel
theorem dPm_today_11 : decode zbPm_today 11 = .ok (.getfield 120, 3) := by decide +kernel
theorem dPm_today_14 : decode zbPm_today 14 = .ok (.goto 4, 3) := by decide +kernel
theorem dPm_today_17 : decode zbPm_today 17 = .ok (.iconst (-1), 1) := by decide +kernel
theorem dPm_today_18 : decode zbPm_today 18 = .ok (.ireturn, 1) := by decide +kernel
theorem dPm_duty_0 : decode zbPm_duty 0 = .ok (.aload_n 0, 1) := by decide +kernel
theorem dPm_duty_1 : decode zbPm_duty 1 = .ok (.getfield 20, 3) := by decide +kernel
theorem dPm_duty_4 : decode zbPm_duty 4 = .ok (.ifCond .eq 21, 3) := by decide +kernel
theorem dPm_duty_7 : decode zbPm_duty 7 = .ok (.iload_n 1, 1) := by decide +kernel
theorem dPm_duty_8 : decode zbPm_duty 8 = .ok (.ifCond .lt 17, 3) := by decide +kernel
theorem dPm_duty_11 : decode zbPm_duty 11 = .ok (.iload_n 1, 1) := by decide +kernel
theorem dPm_duty_12 : decode zbPm_duty 12 = .ok (.aload_n 0, 1) := by decide +kernel
theorem dPm_duty_13 : decode zbPm_duty 13 = .ok (.getfield 37, 3) := by decide +kernel
theorem dPm_duty_16 : decode zbPm_duty 16 = .ok (.getfield 131, 3) := by decide +kernel
theorem dPm_duty_19 : decode zbPm_duty 19 = .ok (.getfield 135, 3) := by decide +kernel
theorem dPm_duty_22 : decode zbPm_duty 22 = .ok (.if_icmp .lt 5, 3) := by decide +kernel
theorem dPm_duty_25 : decode zbPm_duty 25 = .ok (.iconst (-1), 1) := by decide +kernel
theorem dPm_duty_26 : decode zbPm_duty 26 = .ok (.ireturn, 1) := by decide +kernel
theorem dPm_duty_27 : decode zbPm_duty 27 = .ok (.aload_n 0, 1) := by decide +kernel
theorem dPm_duty_28 : decode zbPm_duty 28 = .ok (.getfield 37, 3) := by decide +kernel
theorem dPm_duty_31 : decode zbPm_duty 31 = .ok (.getfield 131, 3) := by decide +kernel
theorem dPm_duty_34 : decode zbPm_duty 34 = .ok (.getfield 138, 3) := by decide +kernel
theorem dPm_duty_37 : decode zbPm_duty 37 = .ok (.iload_n 1, 1) := by decide +kernel
theorem dPm_duty_38 : decode zbPm_duty 38 = .ok (.iaload, 1) := by decide +kernel
theorem dPm_duty_39 : decode zbPm_duty 39 = .ok (.ireturn, 1) := by decide +kernel
theorem dPm_count_0 : decode zbPm_count 0 = .ok (.aload_n 0, 1) := by decide +kernel
theorem dPm_count_1 : decode zbPm_count 1 = .ok (.getfield 20, 3) := by decide +kernel
theorem dPm_count_4 : decode zbPm_count 4 = .ok (.ifCond .ne 5, 3) := by decide +kernel
theorem dPm_count_7 : decode zbPm_count 7 = .ok (.iconst 0, 1) := by decide +kernel
theorem dPm_count_8 : decode zbPm_count 8 = .ok (.ireturn, 1) := by decide +kernel
theorem dPm_count_9 : decode zbPm_count 9 = .ok (.iload_n 1, 1) := by decide +kernel
theorem dPm_count_10 : decode zbPm_count 10 = .ok (.tableswitch 59 0 2 #[26, 37, 48], 26) := by decide +kernel
theorem dPm_count_36 : decode zbPm_count 36 = .ok (.aload_n 0, 1) := by decide +kernel
theorem dPm_count_37 : decode zbPm_count 37 = .ok (.getfield 37, 3) := by decide +kernel
theorem dPm_count_40 : decode zbPm_count 40 = .ok (.getfield 131, 3) := by decide +kernel
theorem dPm_count_43 : decode zbPm_count 43 = .ok (.getfield 135, 3) := by decide +kernel
theorem dPm_count_46 : decode zbPm_count 46 = .ok (.ireturn, 1) := by decide +kernel
theorem dPm_count_47 : decode zbPm_count 47 = .ok (.aload_n 0, 1) := by decide +kernel
theorem dPm_count_48 : decode zbPm_count 48 = .ok (.getfield 37, 3) := by decide +kernel
theorem dPm_count_51 : decode zbPm_count 51 = .ok (.getfield 142, 3) := by decide +kernel
theorem dPm_count_54 : decode zbPm_count 54 = .ok (.getfield 135, 3) := by decide +kernel
theorem dPm_count_57 : decode zbPm_count 57 = .ok (.ireturn, 1) := by decide +kernel
theorem dPm_count_58 : decode zbPm_count 58 = .ok (.aload_n 0, 1) := by decide +kernel
theorem dPm_count_59 : decode zbPm_count 59 = .ok (.getfield 37, 3) := by decide +kernel
theorem dPm_count_62 : decode zbPm_count 62 = .ok (.getfield 145, 3) := by decide +kernel
theorem dPm_count_65 : decode zbPm_count 65 = .ok (.getfield 135, 3) := by decide +kernel
theorem dPm_count_68 : decode zbPm_count 68 = .ok (.ireturn, 1) := by decide +kernel
theorem dPm_count_69 : decode zbPm_count 69 = .ok (.iconst 0, 1) := by decide +kernel
theorem dPm_count_70 : decode zbPm_count 70 = .ok (.ireturn, 1) := by decide +kernel
theorem dPm_breaches_0 : decode zbPm_breaches 0 = .ok (.aload_n 0, 1) := by decide +kernel
theorem dPm_breaches_1 : decode zbPm_breaches 1 = .ok (.getfield 20, 3) := by decide +kernel
theorem dPm_breaches_4 : decode zbPm_breaches 4 = .ok (.ifCond .eq 18, 3) := by decide +kernel
theorem dPm_breaches_7 : decode zbPm_breaches 7 = .ok (.iload_n 1, 1) := by decide +kernel
theorem dPm_breaches_8 : decode zbPm_breaches 8 = .ok (.ifCond .lt 14, 3) := by decide +kernel
theorem dPm_breaches_11 : decode zbPm_breaches 11 = .ok (.iload_n 1, 1) := by decide +kernel
theorem dPm_breaches_12 : decode zbPm_breaches 12 = .ok (.aload_n 0, 1) := by decide +kernel
theorem dPm_breaches_13 : decode zbPm_breaches 13 = .ok (.getfield 27, 3) := by decide +kernel
theorem dPm_breaches_16 : decode zbPm_breaches 16 = .ok (.getfield 100, 3) := by decide +kernel
theorem dPm_breaches_19 : decode zbPm_breaches 19 = .ok (.if_icmp .lt 5, 3) := by decide +kernel
theorem dPm_breaches_22 : decode zbPm_breaches 22 = .ok (.iconst 0, 1) := by decide +kernel
theorem dPm_breaches_23 : decode zbPm_breaches 23 = .ok (.ireturn, 1) := by decide +kernel
theorem dPm_breaches_24 : decode zbPm_breaches 24 = .ok (.aload_n 0, 1) := by decide +kernel
theorem dPm_breaches_25 : decode zbPm_breaches 25 = .ok (.getfield 37, 3) := by decide +kernel
theorem dPm_breaches_28 : decode zbPm_breaches 28 = .ok (.getfield 148, 3) := by decide +kernel
theorem dPm_breaches_31 : decode zbPm_breaches 31 = .ok (.iload_n 1, 1) := by decide +kernel
theorem dPm_breaches_32 : decode zbPm_breaches 32 = .ok (.iaload, 1) := by decide +kernel
theorem dPm_breaches_33 : decode zbPm_breaches 33 = .ok (.ireturn, 1) := by decide +kernel
theorem dPm_may_0 : decode zbPm_may 0 = .ok (.aload_n 0, 1) := by decide +kernel
theorem dPm_may_1 : decode zbPm_may 1 = .ok (.getfield 20, 3) := by decide +kernel
theorem dPm_may_4 : decode zbPm_may 4 = .ok (.ifCond .eq 17, 3) := by decide +kernel
theorem dPm_may_7 : decode zbPm_may 7 = .ok (.iload_n 1, 1) := by decide +kernel
theorem dPm_may_8 : decode zbPm_may 8 = .ok (.invokestatic 106, 3) := by decide +kernel
theorem dPm_may_11 : decode zbPm_may 11 = .ok (.ifCond .eq 10, 3) := by decide +kernel
theorem dPm_may_14 : decode zbPm_may 14 = .ok (.iload_n 2, 1) := by decide +kernel
theorem dPm_may_15 : decode zbPm_may 15 = .ok (.invokestatic 110, 3) := by decide +kernel
theorem dPm_may_18 : decode zbPm_may 18 = .ok (.ifCond .ne 5, 3) := by decide +kernel
theorem dPm_may_21 : decode zbPm_may 21 = .ok (.iconst (-1), 1) := by decide +kernel
theorem dPm_may_22 : decode zbPm_may 22 = .ok (.ireturn, 1) := by decide +kernel
theorem dPm_may_23 : decode zbPm_may 23 = .ok (.aload_n 0, 1) := by decide +kernel
theorem dPm_may_24 : decode zbPm_may 24 = .ok (.getfield 27, 3) := by decide +kernel
theorem dPm_may_27 : decode zbPm_may 27 = .ok (.aload_n 0, 1) := by decide +kernel
theorem dPm_may_28 : decode zbPm_may 28 = .ok (.getfield 37, 3) := by decide +kernel
theorem dPm_may_31 : decode zbPm_may 31 = .ok (.getfield 142, 3) := by decide +kernel
theorem dPm_may_34 : decode zbPm_may 34 = .ok (.iload_n 1, 1) := by decide +kernel
theorem dPm_may_35 : decode zbPm_may 35 = .ok (.iload_n 2, 1) := by decide +kernel
theorem dPm_may_36 : decode zbPm_may 36 = .ok (.invokevirtual 151, 3) := by decide +kernel
theorem dPm_may_39 : decode zbPm_may 39 = .ok (.iconst (-1), 1) := by decide +kernel
theorem dPm_may_40 : decode zbPm_may 40 = .ok (.if_icmp .ne 5, 3) := by decide +kernel
theorem dPm_may_43 : decode zbPm_may 43 = .ok (.iconst 0, 1) := by decide +kernel
theorem dPm_may_44 : decode zbPm_may 44 = .ok (.ireturn, 1) := by decide +kernel
theorem dPm_may_45 : decode zbPm_may 45 = .ok (.aload_n 0, 1) := by decide +kernel
theorem dPm_may_46 : decode zbPm_may 46 = .ok (.getfield 27, 3) := by decide +kernel
theorem dPm_may_49 : decode zbPm_may 49 = .ok (.aload_n 0, 1) := by decide +kernel
theorem dPm_may_50 : decode zbPm_may 50 = .ok (.getfield 37, 3) := by decide +kernel
theorem dPm_may_53 : decode zbPm_may 53 = .ok (.getfield 145, 3) := by decide +kernel
theorem dPm_may_56 : decode zbPm_may 56 = .ok (.iload_n 1, 1) := by decide +kernel
theorem dPm_may_57 : decode zbPm_may 57 = .ok (.iload_n 2, 1) := by decide +kernel
theorem dPm_may_58 : decode zbPm_may 58 = .ok (.invokevirtual 151, 3) := by decide +kernel
theorem dPm_may_61 : decode zbPm_may 61 = .ok (.iconst (-1), 1) := by decide +kernel
theorem dPm_may_62 : decode zbPm_may 62 = .ok (.if_icmp .ne 7, 3) := by decide +kernel
theorem dPm_may_65 : decode zbPm_may 65 = .ok (.iconst 2, 1) := by decide +kernel
theorem dPm_may_66 : decode zbPm_may 66 = .ok (.goto 4, 3) := by decide +kernel
theorem dPm_may_69 : decode zbPm_may 69 = .ok (.iconst 1, 1) := by decide +kernel
theorem dPm_may_70 : decode zbPm_may 70 = .ok (.ireturn, 1) := by decide +kernel
theorem dPm_owed_0 : decode zbPm_owed 0 = .ok (.aload_n 0, 1) := by decide +kernel
theorem dPm_owed_1 : decode zbPm_owed 1 = .ok (.getfield 20, 3) := by decide +kernel
theorem dPm_owed_4 : decode zbPm_owed 4 = .ok (.ifCond .eq 17, 3) := by decide +kernel
theorem dPm_owed_7 : decode zbPm_owed 7 = .ok (.iload_n 1, 1) := by decide +kernel
theorem dPm_owed_8 : decode zbPm_owed 8 = .ok (.invokestatic 106, 3) := by decide +kernel
theorem dPm_owed_11 : decode zbPm_owed 11 = .ok (.ifCond .eq 10, 3) := by decide +kernel
theorem dPm_owed_14 : decode zbPm_owed 14 = .ok (.iload_n 2, 1) := by decide +kernel
theorem dPm_owed_15 : decode zbPm_owed 15 = .ok (.invokestatic 106, 3) := by decide +kernel
theorem dPm_owed_18 : decode zbPm_owed 18 = .ok (.ifCond .ne 5, 3) := by decide +kernel
theorem dPm_owed_21 : decode zbPm_owed 21 = .ok (.iconst 0, 1) := by decide +kernel
theorem dPm_owed_22 : decode zbPm_owed 22 = .ok (.ireturn, 1) := by decide +kernel
theorem dPm_owed_23 : decode zbPm_owed 23 = .ok (.aload_n 0, 1) := by decide +kernel
theorem dPm_owed_24 : decode zbPm_owed 24 = .ok (.getfield 37, 3) := by decide +kernel
theorem dPm_owed_27 : decode zbPm_owed 27 = .ok (.iload_n 1, 1) := by decide +kernel
theorem dPm_owed_28 : decode zbPm_owed 28 = .ok (.iload_n 2, 1) := by decide +kernel
theorem dPm_owed_29 : decode zbPm_owed 29 = .ok (.invokevirtual 155, 3) := by decide +kernel
theorem dPm_owed_32 : decode zbPm_owed 32 = .ok (.ireturn, 1) := by decide +kernel
theorem dPm_course_0 : decode zbPm_course 0 = .ok (.aload_n 0, 1) := by decide +kernel
theorem dPm_course_1 : decode zbPm_course 1 = .ok (.getfield 20, 3) := by decide +kernel
theorem dPm_course_4 : decode zbPm_course 4 = .ok (.ifCond .ne 11, 3) := by decide +kernel
theorem dPm_course_7 : decode zbPm_course 7 = .ok (.new 103, 3) := by decide +kernel
theorem dPm_course_10 : decode zbPm_course 10 = .ok (.dup, 1) := by decide +kernel
theorem dPm_course_11 : decode zbPm_course 11 = .ok (.invokespecial 105, 3) := by decide +kernel
theorem dPm_course_14 : decode zbPm_course 14 = .ok (.athrow, 1) := by decide +kernel
theorem dPm_course_15 : decode zbPm_course 15 = .ok (.aload_n 0, 1) := by decide +kernel
theorem dPm_course_16 : decode zbPm_course 16 = .ok (.iload_n 1, 1) := by decide +kernel
theorem dPm_course_17 : decode zbPm_course 17 = .ok (.iload_n 2, 1) := by decide +kernel
theorem dPm_course_18 : decode zbPm_course 18 = .ok (.invokevirtual 159, 3) := by decide +kernel
theorem dPm_course_21 : decode zbPm_course 21 = .ok (.ifCond .ne 11, 3) := by decide +kernel
theorem dPm_course_24 : decode zbPm_course 24 = .ok (.new 80, 3) := by decide +kernel
theorem dPm_course_27 : decode zbPm_course 27 = .ok (.dup, 1) := by decide +kernel
theorem dPm_course_28 : decode zbPm_course 28 = .ok (.invokespecial 82, 3) := by decide +kernel
theorem dPm_course_31 : decode zbPm_course 31 = .ok (.athrow, 1) := by decide +kernel
theorem dPm_course_32 : decode zbPm_course 32 = .ok (.aload_n 0, 1) := by decide +kernel
theorem dPm_course_33 : decode zbPm_course 33 = .ok (.getfield 54, 3) := by decide +kernel
theorem dPm_course_36 : decode zbPm_course 36 = .ok (.aload_n 0, 1) := by decide +kernel
theorem dPm_course_37 : decode zbPm_course 37 = .ok (.getfield 27, 3) := by decide +kernel
theorem dPm_course_40 : decode zbPm_course 40 = .ok (.aload_n 0, 1) := by decide +kernel
theorem dPm_course_41 : decode zbPm_course 41 = .ok (.getfield 37, 3) := by decide +kernel
theorem dPm_course_44 : decode zbPm_course 44 = .ok (.iload_n 1, 1) := by decide +kernel
theorem dPm_course_45 : decode zbPm_course 45 = .ok (.iload_n 2, 1) := by decide +kernel
theorem dPm_course_46 : decode zbPm_course 46 = .ok (.invokevirtual 163, 3) := by decide +kernel
theorem dPm_course_49 : decode zbPm_course 49 = .ok (.ireturn, 1) := by decide +kernel
theorem dPm_threat_0 : decode zbPm_threat 0 = .ok (.aload_n 0, 1) := by decide +kernel
theorem dPm_threat_1 : decode zbPm_threat 1 = .ok (.getfield 20, 3) := by decide +kernel
theorem dPm_threat_4 : decode zbPm_threat 4 = .ok (.ifCond .ne 11, 3) := by decide +kernel
theorem dPm_threat_7 : decode zbPm_threat 7 = .ok (.new 103, 3) := by decide +kernel
theorem dPm_threat_10 : decode zbPm_threat 10 = .ok (.dup, 1) := by decide +kernel
theorem dPm_threat_11 : decode zbPm_threat 11 = .ok (.invokespecial 105, 3) := by decide +kernel
theorem dPm_threat_14 : decode zbPm_threat 14 = .ok (.athrow, 1) := by decide +kernel
theorem dPm_threat_15 : decode zbPm_threat 15 = .ok (.aload_n 0, 1) := by decide +kernel
theorem dPm_threat_16 : decode zbPm_threat 16 = .ok (.iload_n 1, 1) := by decide +kernel
theorem dPm_threat_17 : decode zbPm_threat 17 = .ok (.iload_n 2, 1) := by decide +kernel
theorem dPm_threat_18 : decode zbPm_threat 18 = .ok (.invokevirtual 159, 3) := by decide +kernel
theorem dPm_threat_21 : decode zbPm_threat 21 = .ok (.ifCond .ne 11, 3) := by decide +kernel
theorem dPm_threat_24 : decode zbPm_threat 24 = .ok (.new 80, 3) := by decide +kernel
theorem dPm_threat_27 : decode zbPm_threat 27 = .ok (.dup, 1) := by decide +kernel
theorem dPm_threat_28 : decode zbPm_threat 28 = .ok (.invokespecial 82, 3) := by decide +kernel
theorem dPm_threat_31 : decode zbPm_threat 31 = .ok (.athrow, 1) := by decide +kernel
theorem dPm_threat_32 : decode zbPm_threat 32 = .ok (.aload_n 0, 1) := by decide +kernel
theorem dPm_threat_33 : decode zbPm_threat 33 = .ok (.getfield 54, 3) := by decide +kernel
theorem dPm_threat_36 : decode zbPm_threat 36 = .ok (.aload_n 0, 1) := by decide +kernel
theorem dPm_threat_37 : decode zbPm_threat 37 = .ok (.getfield 27, 3) := by decide +kernel
theorem dPm_threat_40 : decode zbPm_threat 40 = .ok (.aload_n 0, 1) := by decide +kernel
theorem dPm_threat_41 : decode zbPm_threat 41 = .ok (.getfield 37, 3) := by decide +kernel
theorem dPm_threat_44 : decode zbPm_threat 44 = .ok (.iload_n 1, 1) := by decide +kernel
theorem dPm_threat_45 : decode zbPm_threat 45 = .ok (.iload_n 2, 1) := by decide +kernel
theorem dPm_threat_46 : decode zbPm_threat 46 = .ok (.invokevirtual 163, 3) := by decide +kernel
theorem dPm_threat_49 : decode zbPm_threat 49 = .ok (.iconst (-1), 1) := by decide +kernel
theorem dPm_threat_50 : decode zbPm_threat 50 = .ok (.if_icmp .ne 5, 3) := by decide +kernel
theorem dPm_threat_53 : decode zbPm_threat 53 = .ok (.iconst (-1), 1) := by decide +kernel
theorem dPm_threat_54 : decode zbPm_threat 54 = .ok (.ireturn, 1) := by decide +kernel
theorem dPm_threat_55 : decode zbPm_threat 55 = .ok (.iconst 0, 1) := by decide +kernel
theorem dPm_threat_56 : decode zbPm_threat 56 = .ok (.istore_n 3, 1) := by decide +kernel
theorem dPm_threat_57 : decode zbPm_threat 57 = .ok (.iload_n 3, 1) := by decide +kernel
theorem dPm_threat_58 : decode zbPm_threat 58 = .ok (.iconst 3, 1) := by decide +kernel
theorem dPm_threat_59 : decode zbPm_threat 59 = .ok (.if_icmp .ge 82, 3) := by decide +kernel
theorem dPm_threat_62 : decode zbPm_threat 62 = .ok (.iconst 0, 1) := by decide +kernel
theorem dPm_threat_63 : decode zbPm_threat 63 = .ok (.istore 4, 2) := by decide +kernel
theorem dPm_threat_65 : decode zbPm_threat 65 = .ok (.iload 4, 2) := by decide +kernel
theorem dPm_threat_67 : decode zbPm_threat 67 = .ok (.iconst 5, 1) := by decide +kernel
theorem dPm_threat_68 : decode zbPm_threat 68 = .ok (.if_icmp .ge 67, 3) := by decide +kernel
theorem dPm_threat_71 : decode zbPm_threat 71 = .ok (.iload_n 3, 1) := by decide +kernel
theorem dPm_threat_72 : decode zbPm_threat 72 = .ok (.iload_n 1, 1) := by decide +kernel
theorem dPm_threat_73 : decode zbPm_threat 73 = .ok (.if_icmp .eq 56, 3) := by decide +kernel
theorem dPm_threat_76 : decode zbPm_threat 76 = .ok (.aload_n 0, 1) := by decide +kernel
theorem dPm_threat_77 : decode zbPm_threat 77 = .ok (.getfield 54, 3) := by decide +kernel
theorem dPm_threat_80 : decode zbPm_threat 80 = .ok (.aload_n 0, 1) := by decide +kernel
theorem dPm_threat_81 : decode zbPm_threat 81 = .ok (.getfield 27, 3) := by decide +kernel
theorem dPm_threat_84 : decode zbPm_threat 84 = .ok (.aload_n 0, 1) := by decide +kernel
theorem dPm_threat_85 : decode zbPm_threat 85 = .ok (.getfield 37, 3) := by decide +kernel
theorem dPm_threat_88 : decode zbPm_threat 88 = .ok (.aload_n 0, 1) := by decide +kernel
theorem dPm_threat_89 : decode zbPm_threat 89 = .ok (.getfield 41, 3) := by decide +kernel
theorem dPm_threat_92 : decode zbPm_threat 92 = .ok (.iload_n 3, 1) := by decide +kernel
theorem dPm_threat_93 : decode zbPm_threat 93 = .ok (.iload 4, 2) := by decide +kernel
theorem dPm_threat_95 : decode zbPm_threat 95 = .ok (.invokevirtual 166, 3) := by decide +kernel
theorem dPm_threat_98 : decode zbPm_threat 98 = .ok (.ifCond .eq 31, 3) := by decide +kernel
theorem dPm_threat_101 : decode zbPm_threat 101 = .ok (.aload_n 0, 1) := by decide +kernel
theorem dPm_threat_102 : decode zbPm_threat 102 = .ok (.getfield 54, 3) := by decide +kernel
theorem dPm_threat_105 : decode zbPm_threat 105 = .ok (.aload_n 0, 1) := by decide +kernel
theorem dPm_threat_106 : decode zbPm_threat 106 = .ok (.getfield 27, 3) := by decide +kernel
theorem dPm_threat_109 : decode zbPm_threat 109 = .ok (.aload_n 0, 1) := by decide +kernel
theorem dPm_threat_110 : decode zbPm_threat 110 = .ok (.getfield 41, 3) := by decide +kernel
theorem dPm_threat_113 : decode zbPm_threat 113 = .ok (.iload_n 1, 1) := by decide +kernel
theorem dPm_threat_114 : decode zbPm_threat 114 = .ok (.iload_n 2, 1) := by decide +kernel
theorem dPm_threat_115 : decode zbPm_threat 115 = .ok (.invokevirtual 163, 3) := by decide +kernel
theorem dPm_threat_118 : decode zbPm_threat 118 = .ok (.iconst (-1), 1) := by decide +kernel
theorem dPm_threat_119 : decode zbPm_threat 119 = .ok (.if_icmp .ne 10, 3) := by decide +kernel
theorem dPm_threat_122 : decode zbPm_threat 122 = .ok (.iconst 5, 1) := by decide +kernel
theorem dPm_threat_123 : decode zbPm_threat 123 = .ok (.iload_n 3, 1) := by decide +kernel
theorem dPm_threat_124 : decode zbPm_threat 124 = .ok (.imul, 1) := by decide +kernel
theorem dPm_threat_125 : decode zbPm_threat 125 = .ok (.iload 4, 2) := by decide +kernel
theorem dPm_threat_127 : decode zbPm_threat 127 = .ok (.iadd, 1) := by decide +kernel
theorem dPm_threat_128 : decode zbPm_threat 128 = .ok (.ireturn, 1) := by decide +kernel
theorem dPm_threat_129 : decode zbPm_threat 129 = .ok (.iinc 4 1, 3) := by decide +kernel
theorem dPm_threat_132 : decode zbPm_threat 132 = .ok (.goto (-67), 3) := by decide +kernel
theorem dPm_threat_135 : decode zbPm_threat 135 = .ok (.iinc 3 1, 3) := by decide +kernel
theorem dPm_threat_138 : decode zbPm_threat 138 = .ok (.goto (-81), 3) := by decide +kernel
theorem dPm_threat_141 : decode zbPm_threat 141 = .ok (.iconst (-1), 1) := by decide +kernel
theorem dPm_threat_142 : decode zbPm_threat 142 = .ok (.ireturn, 1) := by decide +kernel
theorem dPm_isParty_0 : decode zbPm_isParty 0 = .ok (.iload_n 0, 1) := by decide +kernel
theorem dPm_isParty_1 : decode zbPm_isParty 1 = .ok (.ifCond .lt 12, 3) := by decide +kernel
theorem dPm_isParty_4 : decode zbPm_isParty 4 = .ok (.iload_n 0, 1) := by decide +kernel
theorem dPm_isParty_5 : decode zbPm_isParty 5 = .ok (.iconst 3, 1) := by decide +kernel
theorem dPm_isParty_6 : decode zbPm_isParty 6 = .ok (.if_icmp .ge 7, 3) := by decide +kernel
theorem dPm_isParty_9 : decode zbPm_isParty 9 = .ok (.iconst 1, 1) := by decide +kernel
theorem dPm_isParty_10 : decode zbPm_isParty 10 = .ok (.goto 4, 3) := by decide +kernel
theorem dPm_isParty_13 : decode zbPm_isParty 13 = .ok (.iconst 0, 1) := by decide +kernel
theorem dPm_isParty_14 : decode zbPm_isParty 14 = .ok (.ireturn, 1) := by decide +kernel
theorem dPm_isKind_0 : decode zbPm_isKind 0 = .ok (.iload_n 0, 1) := by decide +kernel
theorem dPm_isKind_1 : decode zbPm_isKind 1 = .ok (.ifCond .lt 12, 3) := by decide +kernel
theorem dPm_isKind_4 : decode zbPm_isKind 4 = .ok (.iload_n 0, 1) := by decide +kernel
theorem dPm_isKind_5 : decode zbPm_isKind 5 = .ok (.iconst 5, 1) := by decide +kernel
theorem dPm_isKind_6 : decode zbPm_isKind 6 = .ok (.if_icmp .ge 7, 3) := by decide +kernel
theorem dPm_isKind_9 : decode zbPm_isKind 9 = .ok (.iconst 1, 1) := by decide +kernel
theorem dPm_isKind_10 : decode zbPm_isKind 10 = .ok (.goto 4, 3) := by decide +kernel
theorem dPm_isKind_13 : decode zbPm_isKind 13 = .ok (.iconst 0, 1) := by decide +kernel
theorem dPm_isKind_14 : decode zbPm_isKind 14 = .ok (.ireturn, 1) := by decide +kernel
theorem dPm_canSearch_0 : decode zbPm_canSearch 0 = .ok (.iload_n 1, 1) := by decide +kernel
theorem dPm_canSearch_1 : decode zbPm_canSearch 1 = .ok (.invokestatic 106, 3) := by decide +kernel
theorem dPm_canSearch_4 : decode zbPm_canSearch 4 = .ok (.ifCond .eq 29, 3) := by decide +kernel
theorem dPm_canSearch_7 : decode zbPm_canSearch 7 = .ok (.iload_n 2, 1) := by decide +kernel
theorem dPm_canSearch_8 : decode zbPm_canSearch 8 = .ok (.iconst 1, 1) := by decide +kernel
theorem dPm_canSearch_9 : decode zbPm_canSearch 9 = .ok (.if_icmp .lt 24, 3) := by decide +kernel
theorem dPm_canSearch_12 : decode zbPm_canSearch 12 = .ok (.iload_n 2, 1) := by decide +kernel
theorem dPm_canSearch_13 : decode zbPm_canSearch 13 = .ok (.iconst 2, 1) := by decide +kernel
theorem dPm_canSearch_14 : decode zbPm_canSearch 14 = .ok (.if_icmp .gt 19, 3) := by decide +kernel
theorem dPm_canSearch_17 : decode zbPm_canSearch 17 = .ok (.aload_n 0, 1) := by decide +kernel
theorem dPm_canSearch_18 : decode zbPm_canSearch 18 = .ok (.getfield 37, 3) := by decide +kernel
theorem dPm_canSearch_21 : decode zbPm_canSearch 21 = .ok (.getfield 120, 3) := by decide +kernel
theorem dPm_canSearch_24 : decode zbPm_canSearch 24 = .ok (.bipush 58, 2) := by decide +kernel
theorem dPm_canSearch_26 : decode zbPm_canSearch 26 = .ok (.if_icmp .gt 7, 3) := by decide +kernel
theorem dPm_canSearch_29 : decode zbPm_canSearch 29 = .ok (.iconst 1, 1) := by decide +kernel
theorem dPm_canSearch_30 : decode zbPm_canSearch 30 = .ok (.goto 4, 3) := by decide +kernel
theorem dPm_canSearch_33 : decode zbPm_canSearch 33 = .ok (.iconst 0, 1) := by decide +kernel
theorem dPm_canSearch_34 : decode zbPm_canSearch 34 = .ok (.ireturn, 1) := by decide +kernel
theorem dPm_moveToTrial_0 : decode zbPm_moveToTrial 0 = .ok (.aload_n 0, 1) := by decide +kernel
theorem dPm_moveToTrial_1 : decode zbPm_moveToTrial 1 = .ok (.getfield 47, 3) := by decide +kernel
theorem dPm_moveToTrial_4 : decode zbPm_moveToTrial 4 = .ok (.aload_n 0, 1) := by decide +kernel
theorem dPm_moveToTrial_5 : decode zbPm_moveToTrial 5 = .ok (.getfield 37, 3) := by decide +kernel
theorem dPm_moveToTrial_8 : decode zbPm_moveToTrial 8 = .ok (.invokevirtual 170, 3) := by decide +kernel
theorem dPm_moveToTrial_11 : decode zbPm_moveToTrial 11 = .ok (.aload_n 0, 1) := by decide +kernel
theorem dPm_moveToTrial_12 : decode zbPm_moveToTrial 12 = .ok (.getfield 37, 3) := by decide +kernel
theorem dPm_moveToTrial_15 : decode zbPm_moveToTrial 15 = .ok (.aload_n 0, 1) := by decide +kernel
theorem dPm_moveToTrial_16 : decode zbPm_moveToTrial 16 = .ok (.getfield 41, 3) := by decide +kernel
theorem dPm_moveToTrial_19 : decode zbPm_moveToTrial 19 = .ok (.invokevirtual 93, 3) := by decide +kernel
theorem dPm_moveToTrial_22 : decode zbPm_moveToTrial 22 = .ok (.return_, 1) := by decide +kernel
theorem dMo_init_0 : decode zbMo_init 0 = .ok (.aload_n 0, 1) := by decide +kernel
theorem dMo_init_1 : decode zbMo_init 1 = .ok (.invokespecial 1, 3) := by decide +kernel
theorem dMo_init_4 : decode zbMo_init 4 = .ok (.aload_n 0, 1) := by decide +kernel
theorem dMo_init_5 : decode zbMo_init 5 = .ok (.bipush 121, 2) := by decide +kernel
theorem dMo_init_7 : decode zbMo_init 7 = .ok (.newarray .int, 2) := by decide +kernel
theorem dMo_init_9 : decode zbMo_init 9 = .ok (.putfield 7, 3) := by decide +kernel
theorem dMo_init_12 : decode zbMo_init 12 = .ok (.aload_n 0, 1) := by decide +kernel
theorem dMo_init_13 : decode zbMo_init 13 = .ok (.iconst (-1), 1) := by decide +kernel
theorem dMo_init_14 : decode zbMo_init 14 = .ok (.putfield 13, 3) := by decide +kernel
theorem dMo_init_17 : decode zbMo_init 17 = .ok (.aload_n 0, 1) := by decide +kernel
theorem dMo_init_18 : decode zbMo_init 18 = .ok (.bipush 61, 2) := by decide +kernel
theorem dMo_init_20 : decode zbMo_init 20 = .ok (.newarray .boolean, 2) := by decide +kernel
theorem dMo_init_22 : decode zbMo_init 22 = .ok (.putfield 17, 3) := by decide +kernel
theorem dMo_init_25 : decode zbMo_init 25 = .ok (.aload_n 0, 1) := by decide +kernel
theorem dMo_init_26 : decode zbMo_init 26 = .ok (.bipush 20, 2) := by decide +kernel
theorem dMo_init_28 : decode zbMo_init 28 = .ok (.newarray .int, 2) := by decide +kernel
theorem dMo_init_30 : decode zbMo_init 30 = .ok (.putfield 21, 3) := by decide +kernel
theorem dMo_init_33 : decode zbMo_init 33 = .ok (.aload_n 0, 1) := by decide +kernel
theorem dMo_init_34 : decode zbMo_init 34 = .ok (.bipush 20, 2) := by decide +kernel
theorem dMo_init_36 : decode zbMo_init 36 = .ok (.newarray .int, 2) := by decide +kernel
theorem dMo_init_38 : decode zbMo_init 38 = .ok (.putfield 24, 3) := by decide +kernel
theorem dMo_init_41 : decode zbMo_init 41 = .ok (.aload_n 0, 1) := by decide +kernel
theorem dMo_init_42 : decode zbMo_init 42 = .ok (.bipush 20, 2) := by decide +kernel
theorem dMo_init_44 : decode zbMo_init 44 = .ok (.newarray .int, 2) := by decide +kernel
theorem dMo_init_46 : decode zbMo_init 46 = .ok (.putfield 27, 3) := by decide +kernel
theorem dMo_init_49 : decode zbMo_init 49 = .ok (.aload_n 0, 1) := by decide +kernel
theorem dMo_init_50 : decode zbMo_init 50 = .ok (.bipush 20, 2) := by decide +kernel
theorem dMo_init_52 : decode zbMo_init 52 = .ok (.newarray .boolean, 2) := by decide +kernel
theorem dMo_init_54 : decode zbMo_init 54 = .ok (.putfield 30, 3) := by decide +kernel
theorem dMo_init_57 : decode zbMo_init 57 = .ok (.aload_n 0, 1) := by decide +kernel
theorem dMo_init_58 : decode zbMo_init 58 = .ok (.bipush 20, 2) := by decide +kernel
theorem dMo_init_60 : decode zbMo_init 60 = .ok (.newarray .int, 2) := by decide +kernel
theorem dMo_init_62 : decode zbMo_init 62 = .ok (.putfield 33, 3) := by decide +kernel
theorem dMo_init_65 : decode zbMo_init 65 = .ok (.aload_n 0, 1) := by decide +kernel
theorem dMo_init_66 : decode zbMo_init 66 = .ok (.bipush 20, 2) := by decide +kernel
theorem dMo_init_68 : decode zbMo_init 68 = .ok (.newarray .int, 2) := by decide +kernel
theorem dMo_init_70 : decode zbMo_init 70 = .ok (.putfield 36, 3) := by decide +kernel
theorem dMo_init_73 : decode zbMo_init 73 = .ok (.aload_n 0, 1) := by decide +kernel
theorem dMo_init_74 : decode zbMo_init 74 = .ok (.bipush 20, 2) := by decide +kernel
theorem dMo_init_76 : decode zbMo_init 76 = .ok (.newarray .int, 2) := by decide +kernel
theorem dMo_init_78 : decode zbMo_init 78 = .ok (.putfield 39, 3) := by decide +kernel
theorem dMo_init_81 : decode zbMo_init 81 = .ok (.aload_n 0, 1) := by decide +kernel
theorem dMo_init_82 : decode zbMo_init 82 = .ok (.bipush 20, 2) := by decide +kernel
theorem dMo_init_84 : decode zbMo_init 84 = .ok (.newarray .int, 2) := by decide +kernel
theorem dMo_init_86 : decode zbMo_init 86 = .ok (.putfield 42, 3) := by decide +kernel
theorem dMo_init_89 : decode zbMo_init 89 = .ok (.aload_n 0, 1) := by decide +kernel
theorem dMo_init_90 : decode zbMo_init 90 = .ok (.bipush 20, 2) := by decide +kernel
theorem dMo_init_92 : decode zbMo_init 92 = .ok (.newarray .int, 2) := by decide +kernel
theorem dMo_init_94 : decode zbMo_init 94 = .ok (.putfield 45, 3) := by decide +kernel
theorem dMo_init_97 : decode zbMo_init 97 = .ok (.aload_n 0, 1) := by decide +kernel
theorem dMo_init_98 : decode zbMo_init 98 = .ok (.bipush 20, 2) := by decide +kernel
theorem dMo_init_100 : decode zbMo_init 100 = .ok (.newarray .int, 2) := by decide +kernel
theorem dMo_init_102 : decode zbMo_init 102 = .ok (.putfield 48, 3) := by decide +kernel
theorem dMo_init_105 : decode zbMo_init 105 = .ok (.aload_n 0, 1) := by decide +kernel
theorem dMo_init_106 : decode zbMo_init 106 = .ok (.bipush 20, 2) := by decide +kernel
theorem dMo_init_108 : decode zbMo_init 108 = .ok (.newarray .int, 2) := by decide +kernel
theorem dMo_init_110 : decode zbMo_init 110 = .ok (.putfield 51, 3) := by decide +kernel
theorem dMo_init_113 : decode zbMo_init 113 = .ok (.aload_n 0, 1) := by decide +kernel
theorem dMo_init_114 : decode zbMo_init 114 = .ok (.sipush 1207, 3) := by decide +kernel
theorem dMo_init_117 : decode zbMo_init 117 = .ok (.newarray .int, 2) := by decide +kernel
theorem dMo_init_119 : decode zbMo_init 119 = .ok (.putfield 54, 3) := by decide +kernel
theorem dMo_init_122 : decode zbMo_init 122 = .ok (.aload_n 0, 1) := by decide +kernel
theorem dMo_init_123 : decode zbMo_init 123 = .ok (.sipush 1200, 3) := by decide +kernel
theorem dMo_init_126 : decode zbMo_init 126 = .ok (.newarray .int, 2) := by decide +kernel
theorem dMo_init_128 : decode zbMo_init 128 = .ok (.putfield 57, 3) := by decide +kernel
theorem dMo_init_131 : decode zbMo_init 131 = .ok (.return_, 1) := by decide +kernel
theorem dMo_thrown_0 : decode zbMo_thrown 0 = .ok (.aload_n 0, 1) := by decide +kernel
theorem dMo_thrown_1 : decode zbMo_thrown 1 = .ok (.getfield 60, 3) := by decide +kernel
theorem dMo_thrown_4 : decode zbMo_thrown 4 = .ok (.ireturn, 1) := by decide +kernel
theorem dMo_type_0 : decode zbMo_type 0 = .ok (.aload_n 0, 1) := by decide +kernel
theorem dMo_type_1 : decode zbMo_type 1 = .ok (.iconst 0, 1) := by decide +kernel
theorem dMo_type_2 : decode zbMo_type 2 = .ok (.putfield 60, 3) := by decide +kernel
theorem dMo_type_5 : decode zbMo_type 5 = .ok (.iconst 0, 1) := by decide +kernel
theorem dMo_type_6 : decode zbMo_type 6 = .ok (.istore_n 3, 1) := by decide +kernel
theorem dMo_type_7 : decode zbMo_type 7 = .ok (.iconst 1, 1) := by decide +kernel
theorem dMo_type_8 : decode zbMo_type 8 = .ok (.istore 4, 2) := by decide +kernel
theorem dMo_type_10 : decode zbMo_type 10 = .ok (.iload_n 3, 1) := by decide +kernel
theorem dMo_type_11 : decode zbMo_type 11 = .ok (.bipush 8, 2) := by decide +kernel
theorem dMo_type_13 : decode zbMo_type 13 = .ok (.if_icmp .ge 64, 3) := by decide +kernel
theorem dMo_type_16 : decode zbMo_type 16 = .ok (.lload_n 1, 1) := by decide +kernel
theorem dMo_type_17 : decode zbMo_type 17 = .ok (.bipush 8, 2) := by decide +kernel
theorem dMo_type_19 : decode zbMo_type 19 = .ok (.iload_n 3, 1) := by decide +kernel
theorem dMo_type_20 : decode zbMo_type 20 = .ok (.imul, 1) := by decide +kernel
theorem dMo_type_21 : decode zbMo_type 21 = .ok (.lshr, 1) := by decide +kernel
theorem dMo_type_22 : decode zbMo_type 22 = .ok (.ldc2_w 63, 3) := by decide +kernel
theorem dMo_type_25 : decode zbMo_type 25 = .ok (.land, 1) := by decide +kernel
theorem dMo_type_26 : decode zbMo_type 26 = .ok (.lconst 0, 1) := by decide +kernel
theorem dMo_type_27 : decode zbMo_type 27 = .ok (.lcmp, 1) := by decide +kernel
theorem dMo_type_28 : decode zbMo_type 28 = .ok (.ifCond .eq 49, 3) := by decide +kernel
theorem dMo_type_31 : decode zbMo_type 31 = .ok (.lload_n 1, 1) := by decide +kernel
theorem dMo_type_32 : decode zbMo_type 32 = .ok (.bipush 8, 2) := by decide +kernel
theorem dMo_type_34 : decode zbMo_type 34 = .ok (.iload_n 3, 1) := by decide +kernel
theorem dMo_type_35 : decode zbMo_type 35 = .ok (.imul, 1) := by decide +kernel
theorem dMo_type_36 : decode zbMo_type 36 = .ok (.lshr, 1) := by decide +kernel
theorem dMo_type_37 : decode zbMo_type 37 = .ok (.ldc2_w 63, 3) := by decide +kernel
theorem dMo_type_40 : decode zbMo_type 40 = .ok (.land, 1) := by decide +kernel
theorem dMo_type_41 : decode zbMo_type 41 = .ok (.l2i, 1) := by decide +kernel
theorem dMo_type_42 : decode zbMo_type 42 = .ok (.istore 5, 2) := by decide +kernel
theorem dMo_type_44 : decode zbMo_type 44 = .ok (.iload 4, 2) := by decide +kernel
theorem dMo_type_46 : decode zbMo_type 46 = .ok (.ifCond .eq 21, 3) := by decide +kernel
theorem dMo_type_49 : decode zbMo_type 49 = .ok (.iload 5, 2) := by decide +kernel
theorem dMo_type_51 : decode zbMo_type 51 = .ok (.bipush 32, 2) := by decide +kernel
theorem dMo_type_53 : decode zbMo_type 53 = .ok (.if_icmp .le 14, 3) := by decide +kernel
theorem dMo_type_56 : decode zbMo_type 56 = .ok (.iload 5, 2) := by decide +kernel
theorem dMo_type_58 : decode zbMo_type 58 = .ok (.bipush 127, 2) := by decide +kernel
theorem dMo_type_60 : decode zbMo_type 60 = .ok (.if_icmp .ge 7, 3) := by decide +kernel
theorem dMo_type_63 : decode zbMo_type 63 = .ok (.iconst 1, 1) := by decide +kernel
theorem dMo_type_64 : decode zbMo_type 64 = .ok (.goto 4, 3) := by decide +kernel
theorem dMo_type_67 : decode zbMo_type 67 = .ok (.iconst 0, 1) := by decide +kernel
theorem dMo_type_68 : decode zbMo_type 68 = .ok (.istore 4, 2) := by decide +kernel
theorem dMo_type_70 : decode zbMo_type 70 = .ok (.iload_n 3, 1) := by decide +kernel
theorem dMo_type_71 : decode zbMo_type 71 = .ok (.iconst 1, 1) := by decide +kernel
theorem dMo_type_72 : decode zbMo_type 72 = .ok (.iadd, 1) := by decide +kernel
theorem dMo_type_73 : decode zbMo_type 73 = .ok (.istore_n 3, 1) := by decide +kernel
theorem dMo_type_74 : decode zbMo_type 74 = .ok (.goto (-64), 3) := by decide +kernel
theorem dMo_type_77 : decode zbMo_type 77 = .ok (.iload 4, 2) := by decide +kernel
theorem dMo_type_79 : decode zbMo_type 79 = .ok (.ifCond .eq 14, 3) := by decide +kernel
theorem dMo_type_82 : decode zbMo_type 82 = .ok (.aload_n 0, 1) := by decide +kernel
theorem dMo_type_83 : decode zbMo_type 83 = .ok (.getfield 65, 3) := by decide +kernel
theorem dMo_type_86 : decode zbMo_type 86 = .ok (.iload_n 3, 1) := by decide +kernel
theorem dMo_type_87 : decode zbMo_type 87 = .ok (.iadd, 1) := by decide +kernel
theorem dMo_type_88 : decode zbMo_type 88 = .ok (.bipush 120, 2) := by decide +kernel
theorem dMo_type_90 : decode zbMo_type 90 = .ok (.if_icmp .le 5, 3) := by decide +kernel
theorem dMo_type_93 : decode zbMo_type 93 = .ok (.iconst 0, 1) := by decide +kernel
theorem dMo_type_94 : decode zbMo_type 94 = .ok (.ireturn, 1) := by decide +kernel
theorem dMo_type_95 : decode zbMo_type 95 = .ok (.iconst 0, 1) := by decide +kernel
theorem dMo_type_96 : decode zbMo_type 96 = .ok (.istore 5, 2) := by decide +kernel
theorem dMo_type_98 : decode zbMo_type 98 = .ok (.iload 5, 2) := by decide +kernel
theorem dMo_type_100 : decode zbMo_type 100 = .ok (.iload_n 3, 1) := by decide +kernel
theorem dMo_type_101 : decode zbMo_type 101 = .ok (.if_icmp .ge 33, 3) := by decide +kernel
theorem dMo_type_104 : decode zbMo_type 104 = .ok (.aload_n 0, 1) := by decide +kernel
theorem dMo_type_105 : decode zbMo_type 105 = .ok (.getfield 7, 3) := by decide +kernel
theorem dMo_type_108 : decode zbMo_type 108 = .ok (.aload_n 0, 1) := by decide +kernel
theorem dMo_type_109 : decode zbMo_type 109 = .ok (.getfield 65, 3) := by decide +kernel
theorem dMo_type_112 : decode zbMo_type 112 = .ok (.iload 5, 2) := by decide +kernel
theorem dMo_type_114 : decode zbMo_type 114 = .ok (.iadd, 1) := by decide +kernel
theorem dMo_type_115 : decode zbMo_type 115 = .ok (.lload_n 1, 1) := by decide +kernel
theorem dMo_type_116 : decode zbMo_type 116 = .ok (.bipush 8, 2) := by decide +kernel
theorem dMo_type_118 : decode zbMo_type 118 = .ok (.iload 5, 2) := by decide +kernel
theorem dMo_type_120 : decode zbMo_type 120 = .ok (.imul, 1) := by decide +kernel
theorem dMo_type_121 : decode zbMo_type 121 = .ok (.lshr, 1) := by decide +kernel
theorem dMo_type_122 : decode zbMo_type 122 = .ok (.ldc2_w 63, 3) := by decide +kernel
theorem dMo_type_125 : decode zbMo_type 125 = .ok (.land, 1) := by decide +kernel
theorem dMo_type_126 : decode zbMo_type 126 = .ok (.l2i, 1) := by decide +kernel
theorem dMo_type_127 : decode zbMo_type 127 = .ok (.iastore, 1) := by decide +kernel
theorem dMo_type_128 : decode zbMo_type 128 = .ok (.iinc 5 1, 3) := by decide +kernel
theorem dMo_type_131 : decode zbMo_type 131 = .ok (.goto (-33), 3) := by decide +kernel
theorem dMo_type_134 : decode zbMo_type 134 = .ok (.aload_n 0, 1) := by decide +kernel
theorem dMo_type_135 : decode zbMo_type 135 = .ok (.aload_n 0, 1) := by decide +kernel
theorem dMo_type_136 : decode zbMo_type 136 = .ok (.getfield 65, 3) := by decide +kernel
theorem dMo_type_139 : decode zbMo_type 139 = .ok (.iload_n 3, 1) := by decide +kernel
theorem dMo_type_140 : decode zbMo_type 140 = .ok (.iadd, 1) := by decide +kernel
theorem dMo_type_141 : decode zbMo_type 141 = .ok (.putfield 65, 3) := by decide +kernel
theorem dMo_type_144 : decode zbMo_type 144 = .ok (.iconst 1, 1) := by decide +kernel
theorem dMo_type_145 : decode zbMo_type 145 = .ok (.ireturn, 1) := by decide +kernel
theorem dMo_erase_0 : decode zbMo_erase 0 = .ok (.aload_n 0, 1) := by decide +kernel
theorem dMo_erase_1 : decode zbMo_erase 1 = .ok (.iconst 0, 1) := by decide +kernel
theorem dMo_erase_2 : decode zbMo_erase 2 = .ok (.putfield 60, 3) := by decide +kernel
theorem dMo_erase_5 : decode zbMo_erase 5 = .ok (.aload_n 0, 1) := by decide +kernel
theorem dMo_erase_6 : decode zbMo_erase 6 = .ok (.getfield 65, 3) := by decide +kernel
theorem dMo_erase_9 : decode zbMo_erase 9 = .ok (.istore_n 1, 1) := by decide +kernel
theorem dMo_erase_10 : decode zbMo_erase 10 = .ok (.aload_n 0, 1) := by decide +kernel
theorem dMo_erase_11 : decode zbMo_erase 11 = .ok (.iconst 0, 1) := by decide +kernel
theorem dMo_erase_12 : decode zbMo_erase 12 = .ok (.putfield 65, 3) := by decide +kernel
theorem dMo_erase_15 : decode zbMo_erase 15 = .ok (.iload_n 1, 1) := by decide +kernel
theorem dMo_erase_16 : decode zbMo_erase 16 = .ok (.ireturn, 1) := by decide +kernel
theorem dMo_free_0 : decode zbMo_free 0 = .ok (.aload_n 0, 1) := by decide +kernel
theorem dMo_free_1 : decode zbMo_free 1 = .ok (.iconst 0, 1) := by decide +kernel
theorem dMo_free_2 : decode zbMo_free 2 = .ok (.putfield 60, 3) := by decide +kernel
theorem dMo_free_5 : decode zbMo_free 5 = .ok (.iload_n 1, 1) := by decide +kernel
theorem dMo_free_6 : decode zbMo_free 6 = .ok (.ifCond .lt 16, 3) := by decide +kernel
theorem dMo_free_9 : decode zbMo_free 9 = .ok (.iload_n 1, 1) := by decide +kernel
theorem dMo_free_10 : decode zbMo_free 10 = .ok (.bipush 60, 2) := by decide +kernel
theorem dMo_free_12 : decode zbMo_free 12 = .ok (.if_icmp .gt 10, 3) := by decide +kernel
theorem dMo_free_15 : decode zbMo_free 15 = .ok (.aload_n 0, 1) := by decide +kernel
theorem dMo_free_16 : decode zbMo_free 16 = .ok (.getfield 68, 3) := by decide +kernel
theorem dMo_free_19 : decode zbMo_free 19 = .ok (.ifCond .eq 5, 3) := by decide +kernel
theorem dMo_free_22 : decode zbMo_free 22 = .ok (.iconst 0, 1) := by decide +kernel
theorem dMo_free_23 : decode zbMo_free 23 = .ok (.ireturn, 1) := by decide +kernel
theorem dMo_free_24 : decode zbMo_free 24 = .ok (.aload_n 0, 1) := by decide +kernel
theorem dMo_free_25 : decode zbMo_free 25 = .ok (.getfield 17, 3) := by decide +kernel
theorem dMo_free_28 : decode zbMo_free 28 = .ok (.iload_n 1, 1) := by decide +kernel
theorem dMo_free_29 : decode zbMo_free 29 = .ok (.aload_n 0, 1) := by decide +kernel
theorem dMo_free_30 : decode zbMo_free 30 = .ok (.getfield 17, 3) := by decide +kernel
theorem dMo_free_33 : decode zbMo_free 33 = .ok (.iload_n 1, 1) := by decide +kernel
theorem dMo_free_34 : decode zbMo_free 34 = .ok (.baload, 1) := by decide +kernel
theorem dMo_free_35 : decode zbMo_free 35 = .ok (.ifCond .ne 7, 3) := by decide +kernel
theorem dMo_free_38 : decode zbMo_free 38 = .ok (.iconst 1, 1) := by decide +kernel
theorem dMo_free_39 : decode zbMo_free 39 = .ok (.goto 4, 3) := by decide +kernel
theorem dMo_free_42 : decode zbMo_free 42 = .ok (.iconst 0, 1) := by decide +kernel
theorem dMo_free_43 : decode zbMo_free 43 = .ok (.bastore, 1) := by decide +kernel
theorem dMo_free_44 : decode zbMo_free 44 = .ok (.aload_n 0, 1) := by decide +kernel
theorem dMo_free_45 : decode zbMo_free 45 = .ok (.getfield 17, 3) := by decide +kernel
theorem dMo_free_48 : decode zbMo_free 48 = .ok (.iload_n 1, 1) := by decide +kernel
theorem dMo_free_49 : decode zbMo_free 49 = .ok (.baload, 1) := by decide +kernel
theorem dMo_free_50 : decode zbMo_free 50 = .ok (.ireturn, 1) := by decide +kernel
theorem dMo_charAt_0 : decode zbMo_charAt 0 = .ok (.iload_n 1, 1) := by decide +kernel
theorem dMo_charAt_1 : decode zbMo_charAt 1 = .ok (.aload_n 0, 1) := by decide +kernel
theorem dMo_charAt_2 : decode zbMo_charAt 2 = .ok (.getfield 65, 3) := by decide +kernel
theorem dMo_charAt_5 : decode zbMo_charAt 5 = .ok (.if_icmp .ge 12, 3) := by decide +kernel
theorem dMo_charAt_8 : decode zbMo_charAt 8 = .ok (.aload_n 0, 1) := by decide +kernel
theorem dMo_charAt_9 : decode zbMo_charAt 9 = .ok (.getfield 7, 3) := by decide +kernel
theorem dMo_charAt_12 : decode zbMo_charAt 12 = .ok (.iload_n 1, 1) := by decide +kernel
theorem dMo_charAt_13 : decode zbMo_charAt 13 = .ok (.iaload, 1) := by decide +kernel
theorem dMo_charAt_14 : decode zbMo_charAt 14 = .ok (.goto 4, 3) := by decide +kernel
theorem dMo_charAt_17 : decode zbMo_charAt 17 = .ok (.iconst 0, 1) := by decide +kernel
theorem dMo_charAt_18 : decode zbMo_charAt 18 = .ok (.ireturn, 1) := by decide +kernel
theorem dMo_party_0 : decode zbMo_party 0 = .ok (.aload_n 0, 1) := by decide +kernel
theorem dMo_party_1 : decode zbMo_party 1 = .ok (.iload_n 1, 1) := by decide +kernel
theorem dMo_party_2 : decode zbMo_party 2 = .ok (.invokevirtual 72, 3) := by decide +kernel
theorem dMo_party_5 : decode zbMo_party 5 = .ok (.bipush 65, 2) := by decide +kernel
theorem dMo_party_7 : decode zbMo_party 7 = .ok (.isub, 1) := by decide +kernel
theorem dMo_party_8 : decode zbMo_party 8 = .ok (.istore_n 2, 1) := by decide +kernel
theorem dMo_party_9 : decode zbMo_party 9 = .ok (.iload_n 2, 1) := by decide +kernel
theorem dMo_party_10 : decode zbMo_party 10 = .ok (.ifCond .lt 12, 3) := by decide +kernel
theorem dMo_party_13 : decode zbMo_party 13 = .ok (.iload_n 2, 1) := by decide +kernel
theorem dMo_party_14 : decode zbMo_party 14 = .ok (.iconst 3, 1) := by decide +kernel
theorem dMo_party_15 : decode zbMo_party 15 = .ok (.if_icmp .ge 7, 3) := by decide +kernel
theorem dMo_party_18 : decode zbMo_party 18 = .ok (.iload_n 2, 1) := by decide +kernel
theorem dMo_party_19 : decode zbMo_party 19 = .ok (.goto 4, 3) := by decide +kernel
theorem dMo_party_22 : decode zbMo_party 22 = .ok (.iconst (-1), 1) := by decide +kernel
theorem dMo_party_23 : decode zbMo_party 23 = .ok (.ireturn, 1) := by decide +kernel
theorem dMo_kind_0 : decode zbMo_kind 0 = .ok (.aload_n 0, 1) := by decide +kernel
theorem dMo_kind_1 : decode zbMo_kind 1 = .ok (.iload_n 1, 1) := by decide +kernel
theorem dMo_kind_2 : decode zbMo_kind 2 = .ok (.invokevirtual 72, 3) := by decide +kernel
theorem dMo_kind_5 : decode zbMo_kind 5 = .ok (.bipush 97, 2) := by decide +kernel
theorem dMo_kind_7 : decode zbMo_kind 7 = .ok (.isub, 1) := by decide +kernel
theorem dMo_kind_8 : decode zbMo_kind 8 = .ok (.istore_n 2, 1) := by decide +kernel
theorem dMo_kind_9 : decode zbMo_kind 9 = .ok (.iload_n 2, 1) := by decide +kernel
theorem dMo_kind_10 : decode zbMo_kind 10 = .ok (.ifCond .lt 12, 3) := by decide +kernel
theorem dMo_kind_13 : decode zbMo_kind 13 = .ok (.iload_n 2, 1) := by decide +kernel
theorem dMo_kind_14 : decode zbMo_kind 14 = .ok (.iconst 5, 1) := by decide +kernel
theorem dMo_kind_15 : decode zbMo_kind 15 = .ok (.if_icmp .ge 7, 3) := by decide +kernel
theorem dMo_kind_18 : decode zbMo_kind 18 = .ok (.iload_n 2, 1) := by decide +kernel
theorem dMo_kind_19 : decode zbMo_kind 19 = .ok (.goto 4, 3) := by decide +kernel
theorem dMo_kind_22 : decode zbMo_kind 22 = .ok (.iconst (-1), 1) := by decide +kernel
theorem dMo_kind_23 : decode zbMo_kind 23 = .ok (.ireturn, 1) := by decide +kernel
theorem dMo_digit_0 : decode zbMo_digit 0 = .ok (.aload_n 0, 1) := by decide +kernel
theorem dMo_digit_1 : decode zbMo_digit 1 = .ok (.iload_n 1, 1) := by decide +kernel
theorem dMo_digit_2 : decode zbMo_digit 2 = .ok (.invokevirtual 72, 3) := by decide +kernel
theorem dMo_digit_5 : decode zbMo_digit 5 = .ok (.bipush 48, 2) := by decide +kernel
theorem dMo_digit_7 : decode zbMo_digit 7 = .ok (.isub, 1) := by decide +kernel
theorem dMo_digit_8 : decode zbMo_digit 8 = .ok (.istore_n 2, 1) := by decide +kernel
theorem dMo_digit_9 : decode zbMo_digit 9 = .ok (.iload_n 2, 1) := by decide +kernel
theorem dMo_digit_10 : decode zbMo_digit 10 = .ok (.ifCond .lt 13, 3) := by decide +kernel
theorem dMo_digit_13 : decode zbMo_digit 13 = .ok (.iload_n 2, 1) := by decide +kernel
theorem dMo_digit_14 : decode zbMo_digit 14 = .ok (.bipush 10, 2) := by decide +kernel
theorem dMo_digit_16 : decode zbMo_digit 16 = .ok (.if_icmp .ge 7, 3) := by decide +kernel
theorem dMo_digit_19 : decode zbMo_digit 19 = .ok (.iload_n 2, 1) := by decide +kernel
theorem dMo_digit_20 : decode zbMo_digit 20 = .ok (.goto 4, 3) := by decide +kernel
theorem dMo_digit_23 : decode zbMo_digit 23 = .ok (.iconst (-1), 1) := by decide +kernel
theorem dMo_digit_24 : decode zbMo_digit 24 = .ok (.ireturn, 1) := by decide +kernel
theorem dMo_readTrigger_0 : decode zbMo_readTrigger 0 = .ok (.aload_n 0, 1) := by decide +kernel
theorem dMo_readTrigger_1 : decode zbMo_readTrigger 1 = .ok (.iload_n 2, 1) := by decide +kernel
theorem dMo_readTrigger_2 : decode zbMo_readTrigger 2 = .ok (.invokevirtual 72, 3) := by decide +kernel
theorem dMo_readTrigger_5 : decode zbMo_readTrigger 5 = .ok (.istore_n 3, 1) := by decide +kernel
theorem dMo_readTrigger_6 : decode zbMo_readTrigger 6 = .ok (.aload_n 0, 1) := by decide +kernel
theorem dMo_readTrigger_7 : decode zbMo_readTrigger 7 = .ok (.iload_n 2, 1) := by decide +kernel
theorem dMo_readTrigger_8 : decode zbMo_readTrigger 8 = .ok (.invokevirtual 76, 3) := by decide +kernel
theorem dMo_readTrigger_11 : decode zbMo_readTrigger 11 = .ok (.istore 4, 2) := by decide +kernel
theorem dMo_readTrigger_13 : decode zbMo_readTrigger 13 = .ok (.aload_n 0, 1) := by decide +kernel
theorem dMo_readTrigger_14 : decode zbMo_readTrigger 14 = .ok (.getfield 21, 3) := by decide +kernel
theorem dMo_readTrigger_17 : decode zbMo_readTrigger 17 = .ok (.iload_n 1, 1) := by decide +kernel
theorem dMo_readTrigger_18 : decode zbMo_readTrigger 18 = .ok (.iload_n 3, 1) := by decide +kernel
theorem dMo_readTrigger_19 : decode zbMo_readTrigger 19 = .ok (.bipush 115, 2) := by decide +kernel
theorem dMo_readTrigger_21 : decode zbMo_readTrigger 21 = .ok (.if_icmp .ne 7, 3) := by decide +kernel
theorem dMo_readTrigger_24 : decode zbMo_readTrigger 24 = .ok (.iconst 0, 1) := by decide +kernel
theorem dMo_readTrigger_25 : decode zbMo_readTrigger 25 = .ok (.goto 33, 3) := by decide +kernel
theorem dMo_readTrigger_28 : decode zbMo_readTrigger 28 = .ok (.iload 4, 2) := by decide +kernel
theorem dMo_readTrigger_30 : decode zbMo_readTrigger 30 = .ok (.ifCond .lt 7, 3) := by decide +kernel
theorem dMo_readTrigger_33 : decode zbMo_readTrigger 33 = .ok (.iconst 1, 1) := by decide +kernel
theorem dMo_readTrigger_34 : decode zbMo_readTrigger 34 = .ok (.goto 24, 3) := by decide +kernel
theorem dMo_readTrigger_37 : decode zbMo_readTrigger 37 = .ok (.iload_n 3, 1) := by decide +kernel
theorem dMo_readTrigger_38 : decode zbMo_readTrigger 38 = .ok (.bipush 120, 2) := by decide +kernel
theorem dMo_readTrigger_40 : decode zbMo_readTrigger 40 = .ok (.if_icmp .ne 7, 3) := by decide +kernel
theorem dMo_readTrigger_43 : decode zbMo_readTrigger 43 = .ok (.iconst 2, 1) := by decide +kernel
theorem dMo_readTrigger_44 : decode zbMo_readTrigger 44 = .ok (.goto 14, 3) := by decide +kernel
theorem dMo_readTrigger_47 : decode zbMo_readTrigger 47 = .ok (.iload_n 3, 1) := by decide +kernel
theorem dMo_readTrigger_48 : decode zbMo_readTrigger 48 = .ok (.bipush 102, 2) := by decide +kernel
theorem dMo_readTrigger_50 : decode zbMo_readTrigger 50 = .ok (.if_icmp .ne 7, 3) := by decide +kernel
theorem dMo_readTrigger_53 : decode zbMo_readTrigger 53 = .ok (.iconst 3, 1) := by decide +kernel
theorem dMo_readTrigger_54 : decode zbMo_readTrigger 54 = .ok (.goto 4, 3) := by decide +kernel
theorem dMo_readTrigger_57 : decode zbMo_readTrigger 57 = .ok (.iconst 4, 1) := by decide +kernel
theorem dMo_readTrigger_58 : decode zbMo_readTrigger 58 = .ok (.iastore, 1) := by decide +kernel
theorem dMo_readTrigger_59 : decode zbMo_readTrigger 59 = .ok (.iload_n 3, 1) := by decide +kernel
theorem dMo_readTrigger_60 : decode zbMo_readTrigger 60 = .ok (.bipush 115, 2) := by decide +kernel
theorem dMo_readTrigger_62 : decode zbMo_readTrigger 62 = .ok (.if_icmp .eq 9, 3) := by decide +kernel
theorem dMo_readTrigger_65 : decode zbMo_readTrigger 65 = .ok (.iload_n 3, 1) := by decide +kernel
theorem dMo_readTrigger_66 : decode zbMo_readTrigger 66 = .ok (.bipush 61, 2) := by decide +kernel
theorem dMo_readTrigger_68 : decode zbMo_readTrigger 68 = .ok (.if_icmp .ne 7, 3) := by decide +kernel
theorem dMo_readTrigger_71 : decode zbMo_readTrigger 71 = .ok (.iload_n 2, 1) := by decide +kernel
theorem dMo_readTrigger_72 : decode zbMo_readTrigger 72 = .ok (.iconst 1, 1) := by decide +kernel
theorem dMo_readTrigger_73 : decode zbMo_readTrigger 73 = .ok (.iadd, 1) := by decide +kernel
theorem dMo_readTrigger_74 : decode zbMo_readTrigger 74 = .ok (.ireturn, 1) := by decide +kernel
theorem dMo_readTrigger_75 : decode zbMo_readTrigger 75 = .ok (.iload 4, 2) := by decide +kernel
theorem dMo_readTrigger_77 : decode zbMo_readTrigger 77 = .ok (.ifCond .ge 19, 3) := by decide +kernel
theorem dMo_readTrigger_80 : decode zbMo_readTrigger 80 = .ok (.iload_n 3, 1) := by decide +kernel
theorem dMo_readTrigger_81 : decode zbMo_readTrigger 81 = .ok (.bipush 120, 2) := by decide +kernel
theorem dMo_readTrigger_83 : decode zbMo_readTrigger 83 = .ok (.if_icmp .eq 13, 3) := by decide +kernel
theorem dMo_readTrigger_86 : decode zbMo_readTrigger 86 = .ok (.iload_n 3, 1) := by decide +kernel
theorem dMo_readTrigger_87 : decode zbMo_readTrigger 87 = .ok (.bipush 102, 2) := by decide +kernel
theorem dMo_readTrigger_89 : decode zbMo_readTrigger 89 = .ok (.if_icmp .eq 7, 3) := by decide +kernel
theorem dMo_readTrigger_92 : decode zbMo_readTrigger 92 = .ok (.iconst (-1), 1) := by decide +kernel
theorem dMo_readTrigger_93 : decode zbMo_readTrigger 93 = .ok (.iload_n 2, 1) := by decide +kernel
theorem dMo_readTrigger_94 : decode zbMo_readTrigger 94 = .ok (.isub, 1) := by decide +kernel
theorem dMo_readTrigger_95 : decode zbMo_readTrigger 95 = .ok (.ireturn, 1) := by decide +kernel
theorem dMo_readTrigger_96 : decode zbMo_readTrigger 96 = .ok (.aload_n 0, 1) := by decide +kernel
theorem dMo_readTrigger_97 : decode zbMo_readTrigger 97 = .ok (.getfield 24, 3) := by decide +kernel
theorem dMo_readTrigger_100 : decode zbMo_readTrigger 100 = .ok (.iload_n 1, 1) := by decide +kernel
theorem dMo_readTrigger_101 : decode zbMo_readTrigger 101 = .ok (.iload 4, 2) := by decide +kernel
theorem dMo_readTrigger_103 : decode zbMo_readTrigger 103 = .ok (.ifCond .lt 8, 3) := by decide +kernel
theorem dMo_readTrigger_106 : decode zbMo_readTrigger 106 = .ok (.iload 4, 2) := by decide +kernel
theorem dMo_readTrigger_108 : decode zbMo_readTrigger 108 = .ok (.goto 10, 3) := by decide +kernel
theorem dMo_readTrigger_111 : decode zbMo_readTrigger 111 = .ok (.aload_n 0, 1) := by decide +kernel
theorem dMo_readTrigger_112 : decode zbMo_readTrigger 112 = .ok (.iload_n 2, 1) := by decide +kernel
theorem dMo_readTrigger_113 : decode zbMo_readTrigger 113 = .ok (.iconst 1, 1) := by decide +kernel
theorem dMo_readTrigger_114 : decode zbMo_readTrigger 114 = .ok (.iadd, 1) := by decide +kernel
theorem dMo_readTrigger_115 : decode zbMo_readTrigger 115 = .ok (.invokevirtual 79, 3) := by decide +kernel
theorem dMo_readTrigger_118 : decode zbMo_readTrigger 118 = .ok (.iastore, 1) := by decide +kernel
theorem dMo_readTrigger_119 : decode zbMo_readTrigger 119 = .ok (.aload_n 0, 1) := by decide +kernel
theorem dMo_readTrigger_120 : decode zbMo_readTrigger 120 = .ok (.getfield 27, 3) := by decide +kernel
theorem dMo_readTrigger_123 : decode zbMo_readTrigger 123 = .ok (.iload_n 1, 1) := by decide +kernel
theorem dMo_readTrigger_124 : decode zbMo_readTrigger 124 = .ok (.aload_n 0, 1) := by decide +kernel
theorem dMo_readTrigger_125 : decode zbMo_readTrigger 125 = .ok (.iload_n 2, 1) := by decide +kernel
theorem dMo_readTrigger_126 : decode zbMo_readTrigger 126 = .ok (.iconst 1, 1) := by decide +kernel
theorem dMo_readTrigger_127 : decode zbMo_readTrigger 127 = .ok (.iadd, 1) := by decide +kernel
theorem dMo_readTrigger_128 : decode zbMo_readTrigger 128 = .ok (.invokevirtual 82, 3) := by decide +kernel
theorem dMo_readTrigger_131 : decode zbMo_readTrigger 131 = .ok (.iastore, 1) := by decide +kernel
theorem dMo_readTrigger_132 : decode zbMo_readTrigger 132 = .ok (.iload 4, 2) := by decide +kernel
theorem dMo_readTrigger_134 : decode zbMo_readTrigger 134 = .ok (.ifCond .lt 13, 3) := by decide +kernel
theorem dMo_readTrigger_137 : decode zbMo_readTrigger 137 = .ok (.aload_n 0, 1) := by decide +kernel
theorem dMo_readTrigger_138 : decode zbMo_readTrigger 138 = .ok (.iload_n 2, 1) := by decide +kernel
theorem dMo_readTrigger_139 : decode zbMo_readTrigger 139 = .ok (.iconst 1, 1) := by decide +kernel
theorem dMo_readTrigger_140 : decode zbMo_readTrigger 140 = .ok (.iadd, 1) := by decide +kernel
theorem dMo_readTrigger_141 : decode zbMo_readTrigger 141 = .ok (.invokevirtual 82, 3) := by decide +kernel
theorem dMo_readTrigger_144 : decode zbMo_readTrigger 144 = .ok (.goto 10, 3) := by decide +kernel
theorem dMo_readTrigger_147 : decode zbMo_readTrigger 147 = .ok (.aload_n 0, 1) := by decide +kernel
theorem dMo_readTrigger_148 : decode zbMo_readTrigger 148 = .ok (.iload_n 2, 1) := by decide +kernel
theorem dMo_readTrigger_149 : decode zbMo_readTrigger 149 = .ok (.iconst 1, 1) := by decide +kernel
theorem dMo_readTrigger_150 : decode zbMo_readTrigger 150 = .ok (.iadd, 1) := by decide +kernel
theorem dMo_readTrigger_151 : decode zbMo_readTrigger 151 = .ok (.invokevirtual 79, 3) := by decide +kernel
theorem dMo_readTrigger_154 : decode zbMo_readTrigger 154 = .ok (.ifCond .ge 10, 3) := by decide +kernel
theorem dMo_readTrigger_157 : decode zbMo_readTrigger 157 = .ok (.bipush (-2), 2) := by decide +kernel
theorem dMo_readTrigger_159 : decode zbMo_readTrigger 159 = .ok (.iload_n 2, 1) := by decide +kernel
theorem dMo_readTrigger_160 : decode zbMo_readTrigger 160 = .ok (.isub, 1) := by decide +kernel
theorem dMo_readTrigger_161 : decode zbMo_readTrigger 161 = .ok (.goto 6, 3) := by decide +kernel
theorem dMo_readTrigger_164 : decode zbMo_readTrigger 164 = .ok (.iload_n 2, 1) := by decide +kernel
theorem dMo_readTrigger_165 : decode zbMo_readTrigger 165 = .ok (.iconst 2, 1) := by decide +kernel
theorem dMo_readTrigger_166 : decode zbMo_readTrigger 166 = .ok (.iadd, 1) := by decide +kernel
theorem dMo_readTrigger_167 : decode zbMo_readTrigger 167 = .ok (.ireturn, 1) := by decide +kernel
theorem dMo_overPair_0 : decode zbMo_overPair 0 = .ok (.aload_n 0, 1) := by decide +kernel
theorem dMo_overPair_1 : decode zbMo_overPair 1 = .ok (.iload_n 1, 1) := by decide +kernel
theorem dMo_overPair_2 : decode zbMo_overPair 2 = .ok (.invokevirtual 76, 3) := by decide +kernel
theorem dMo_overPair_5 : decode zbMo_overPair 5 = .ok (.ifCond .ge 7, 3) := by decide +kernel
theorem dMo_overPair_8 : decode zbMo_overPair 8 = .ok (.iconst (-1), 1) := by decide +kernel
theorem dMo_overPair_9 : decode zbMo_overPair 9 = .ok (.iload_n 1, 1) := by decide +kernel
theorem dMo_overPair_10 : decode zbMo_overPair 10 = .ok (.isub, 1) := by decide +kernel
theorem dMo_overPair_11 : decode zbMo_overPair 11 = .ok (.ireturn, 1) := by decide +kernel
theorem dMo_overPair_12 : decode zbMo_overPair 12 = .ok (.aload_n 0, 1) := by decide +kernel
theorem dMo_overPair_13 : decode zbMo_overPair 13 = .ok (.iload_n 1, 1) := by decide +kernel
theorem dMo_overPair_14 : decode zbMo_overPair 14 = .ok (.iconst 1, 1) := by decide +kernel
theorem dMo_overPair_15 : decode zbMo_overPair 15 = .ok (.iadd, 1) := by decide +kernel
theorem dMo_overPair_16 : decode zbMo_overPair 16 = .ok (.invokevirtual 76, 3) := by decide +kernel
theorem dMo_overPair_19 : decode zbMo_overPair 19 = .ok (.ifCond .lt 18, 3) := by decide +kernel
theorem dMo_overPair_22 : decode zbMo_overPair 22 = .ok (.aload_n 0, 1) := by decide +kernel
theorem dMo_overPair_23 : decode zbMo_overPair 23 = .ok (.iload_n 1, 1) := by decide +kernel
theorem dMo_overPair_24 : decode zbMo_overPair 24 = .ok (.iconst 1, 1) := by decide +kernel
theorem dMo_overPair_25 : decode zbMo_overPair 25 = .ok (.iadd, 1) := by decide +kernel
theorem dMo_overPair_26 : decode zbMo_overPair 26 = .ok (.invokevirtual 76, 3) := by decide +kernel
theorem dMo_overPair_29 : decode zbMo_overPair 29 = .ok (.aload_n 0, 1) := by decide +kernel
theorem dMo_overPair_30 : decode zbMo_overPair 30 = .ok (.iload_n 1, 1) := by decide +kernel
theorem dMo_overPair_31 : decode zbMo_overPair 31 = .ok (.invokevirtual 76, 3) := by decide +kernel
theorem dMo_overPair_34 : decode zbMo_overPair 34 = .ok (.if_icmp .ne 8, 3) := by decide +kernel
theorem dMo_overPair_37 : decode zbMo_overPair 37 = .ok (.bipush (-2), 2) := by decide +kernel
theorem dMo_overPair_39 : decode zbMo_overPair 39 = .ok (.iload_n 1, 1) := by decide +kernel
theorem dMo_overPair_40 : decode zbMo_overPair 40 = .ok (.isub, 1) := by decide +kernel
theorem dMo_overPair_41 : decode zbMo_overPair 41 = .ok (.ireturn, 1) := by decide +kernel
theorem dMo_overPair_42 : decode zbMo_overPair 42 = .ok (.aload_n 0, 1) := by decide +kernel
theorem dMo_overPair_43 : decode zbMo_overPair 43 = .ok (.iload_n 1, 1) := by decide +kernel
theorem dMo_overPair_44 : decode zbMo_overPair 44 = .ok (.iconst 2, 1) := by decide +kernel
theorem dMo_overPair_45 : decode zbMo_overPair 45 = .ok (.iadd, 1) := by decide +kernel
theorem dMo_overPair_46 : decode zbMo_overPair 46 = .ok (.invokevirtual 79, 3) := by decide +kernel
theorem dMo_overPair_49 : decode zbMo_overPair 49 = .ok (.ifCond .ge 10, 3) := by decide +kernel
theorem dMo_overPair_52 : decode zbMo_overPair 52 = .ok (.bipush (-3), 2) := by decide +kernel
theorem dMo_overPair_54 : decode zbMo_overPair 54 = .ok (.iload_n 1, 1) := by decide +kernel
theorem dMo_overPair_55 : decode zbMo_overPair 55 = .ok (.isub, 1) := by decide +kernel
theorem dMo_overPair_56 : decode zbMo_overPair 56 = .ok (.goto 6, 3) := by decide +kernel
theorem dMo_overPair_59 : decode zbMo_overPair 59 = .ok (.iload_n 1, 1) := by decide +kernel
theorem dMo_overPair_60 : decode zbMo_overPair 60 = .ok (.iconst 3, 1) := by decide +kernel
theorem dMo_overPair_61 : decode zbMo_overPair 61 = .ok (.iadd, 1) := by decide +kernel
theorem dMo_overPair_62 : decode zbMo_overPair 62 = .ok (.ireturn, 1) := by decide +kernel
theorem dMo_readBound_0 : decode zbMo_readBound 0 = .ok (.aload_n 0, 1) := by decide +kernel
theorem dMo_readBound_1 : decode zbMo_readBound 1 = .ok (.getfield 30, 3) := by decide +kernel
theorem dMo_readBound_4 : decode zbMo_readBound 4 = .ok (.iload_n 1, 1) := by decide +kernel
theorem dMo_readBound_5 : decode zbMo_readBound 5 = .ok (.aload_n 0, 1) := by decide +kernel
theorem dMo_readBound_6 : decode zbMo_readBound 6 = .ok (.iload_n 2, 1) := by decide +kernel
theorem dMo_readBound_7 : decode zbMo_readBound 7 = .ok (.invokevirtual 72, 3) := by decide +kernel
theorem dMo_readBound_10 : decode zbMo_readBound 10 = .ok (.bipush 91, 2) := by decide +kernel
theorem dMo_readBound_12 : decode zbMo_readBound 12 = .ok (.if_icmp .ne 7, 3) := by decide +kernel
theorem dMo_readBound_15 : decode zbMo_readBound 15 = .ok (.iconst 1, 1) := by decide +kernel
theorem dMo_readBound_16 : decode zbMo_readBound 16 = .ok (.goto 4, 3) := by decide +kernel
theorem dMo_readBound_19 : decode zbMo_readBound 19 = .ok (.iconst 0, 1) := by decide +kernel
theorem dMo_readBound_20 : decode zbMo_readBound 20 = .ok (.bastore, 1) := by decide +kernel
theorem dMo_readBound_21 : decode zbMo_readBound 21 = .ok (.aload_n 0, 1) := by decide +kernel
theorem dMo_readBound_22 : decode zbMo_readBound 22 = .ok (.getfield 30, 3) := by decide +kernel
theorem dMo_readBound_25 : decode zbMo_readBound 25 = .ok (.iload_n 1, 1) := by decide +kernel
theorem dMo_readBound_26 : decode zbMo_readBound 26 = .ok (.baload, 1) := by decide +kernel
theorem dMo_readBound_27 : decode zbMo_readBound 27 = .ok (.ifCond .ne 5, 3) := by decide +kernel
theorem dMo_readBound_30 : decode zbMo_readBound 30 = .ok (.iload_n 2, 1) := by decide +kernel
theorem dMo_readBound_31 : decode zbMo_readBound 31 = .ok (.ireturn, 1) := by decide +kernel
theorem dMo_readBound_32 : decode zbMo_readBound 32 = .ok (.aload_n 0, 1) := by decide +kernel
theorem dMo_readBound_33 : decode zbMo_readBound 33 = .ok (.getfield 33, 3) := by decide +kernel
theorem dMo_readBound_36 : decode zbMo_readBound 36 = .ok (.iload_n 1, 1) := by decide +kernel
theorem dMo_readBound_37 : decode zbMo_readBound 37 = .ok (.aload_n 0, 1) := by decide +kernel
theorem dMo_readBound_38 : decode zbMo_readBound 38 = .ok (.iload_n 2, 1) := by decide +kernel
theorem dMo_readBound_39 : decode zbMo_readBound 39 = .ok (.iconst 1, 1) := by decide +kernel
theorem dMo_readBound_40 : decode zbMo_readBound 40 = .ok (.iadd, 1) := by decide +kernel
theorem dMo_readBound_41 : decode zbMo_readBound 41 = .ok (.invokevirtual 76, 3) := by decide +kernel
theorem dMo_readBound_44 : decode zbMo_readBound 44 = .ok (.iastore, 1) := by decide +kernel
theorem dMo_readBound_45 : decode zbMo_readBound 45 = .ok (.aload_n 0, 1) := by decide +kernel
theorem dMo_readBound_46 : decode zbMo_readBound 46 = .ok (.getfield 36, 3) := by decide +kernel
theorem dMo_readBound_49 : decode zbMo_readBound 49 = .ok (.iload_n 1, 1) := by decide +kernel
theorem dMo_readBound_50 : decode zbMo_readBound 50 = .ok (.aload_n 0, 1) := by decide +kernel
theorem dMo_readBound_51 : decode zbMo_readBound 51 = .ok (.iload_n 2, 1) := by decide +kernel
theorem dMo_readBound_52 : decode zbMo_readBound 52 = .ok (.iconst 2, 1) := by decide +kernel
theorem dMo_readBound_53 : decode zbMo_readBound 53 = .ok (.iadd, 1) := by decide +kernel
theorem dMo_readBound_54 : decode zbMo_readBound 54 = .ok (.invokevirtual 76, 3) := by decide +kernel
theorem dMo_readBound_57 : decode zbMo_readBound 57 = .ok (.iastore, 1) := by decide +kernel
theorem dMo_readBound_58 : decode zbMo_readBound 58 = .ok (.aload_n 0, 1) := by decide +kernel
theorem dMo_readBound_59 : decode zbMo_readBound 59 = .ok (.getfield 39, 3) := by decide +kernel
theorem dMo_readBound_62 : decode zbMo_readBound 62 = .ok (.iload_n 1, 1) := by decide +kernel
theorem dMo_readBound_63 : decode zbMo_readBound 63 = .ok (.aload_n 0, 1) := by decide +kernel
theorem dMo_readBound_64 : decode zbMo_readBound 64 = .ok (.iload_n 2, 1) := by decide +kernel
theorem dMo_readBound_65 : decode zbMo_readBound 65 = .ok (.iconst 3, 1) := by decide +kernel
theorem dMo_readBound_66 : decode zbMo_readBound 66 = .ok (.iadd, 1) := by decide +kernel
theorem dMo_readBound_67 : decode zbMo_readBound 67 = .ok (.invokevirtual 79, 3) := by decide +kernel
theorem dMo_readBound_70 : decode zbMo_readBound 70 = .ok (.iastore, 1) := by decide +kernel
theorem dMo_readBound_71 : decode zbMo_readBound 71 = .ok (.aload_n 0, 1) := by decide +kernel
theorem dMo_readBound_72 : decode zbMo_readBound 72 = .ok (.iload_n 2, 1) := by decide +kernel
theorem dMo_readBound_73 : decode zbMo_readBound 73 = .ok (.iconst 1, 1) := by decide +kernel
theorem dMo_readBound_74 : decode zbMo_readBound 74 = .ok (.iadd, 1) := by decide +kernel
theorem dMo_readBound_75 : decode zbMo_readBound 75 = .ok (.invokevirtual 85, 3) := by decide +kernel
theorem dMo_readBound_78 : decode zbMo_readBound 78 = .ok (.istore_n 3, 1) := by decide +kernel
theorem dMo_readBound_79 : decode zbMo_readBound 79 = .ok (.iload_n 3, 1) := by decide +kernel
theorem dMo_readBound_80 : decode zbMo_readBound 80 = .ok (.ifCond .ge 7, 3) := by decide +kernel
theorem dMo_readBound_83 : decode zbMo_readBound 83 = .ok (.iload_n 3, 1) := by decide +kernel
theorem dMo_readBound_84 : decode zbMo_readBound 84 = .ok (.goto 22, 3) := by decide +kernel
theorem dMo_readBound_87 : decode zbMo_readBound 87 = .ok (.aload_n 0, 1) := by decide +kernel
theorem dMo_readBound_88 : decode zbMo_readBound 88 = .ok (.iload_n 3, 1) := by decide +kernel
theorem dMo_readBound_89 : decode zbMo_readBound 89 = .ok (.invokevirtual 72, 3) := by decide +kernel
theorem dMo_readBound_92 : decode zbMo_readBound 92 = .ok (.bipush 93, 2) := by decide +kernel
theorem dMo_readBound_94 : decode zbMo_readBound 94 = .ok (.if_icmp .ne 9, 3) := by decide +kernel
theorem dMo_readBound_97 : decode zbMo_readBound 97 = .ok (.iload_n 3, 1) := by decide +kernel
theorem dMo_readBound_98 : decode zbMo_readBound 98 = .ok (.iconst 1, 1) := by decide +kernel
theorem dMo_readBound_99 : decode zbMo_readBound 99 = .ok (.iadd, 1) := by decide +kernel
theorem dMo_readBound_100 : decode zbMo_readBound 100 = .ok (.goto 6, 3) := by decide +kernel
theorem dMo_readBound_103 : decode zbMo_readBound 103 = .ok (.iconst (-1), 1) := by decide +kernel
theorem dMo_readBound_104 : decode zbMo_readBound 104 = .ok (.iload_n 3, 1) := by decide +kernel
theorem dMo_readBound_105 : decode zbMo_readBound 105 = .ok (.isub, 1) := by decide +kernel
theorem dMo_readBound_106 : decode zbMo_readBound 106 = .ok (.ireturn, 1) := by decide +kernel
theorem dMo_readAction_0 : decode zbMo_readAction 0 = .ok (.aload_n 0, 1) := by decide +kernel
theorem dMo_readAction_1 : decode zbMo_readAction 1 = .ok (.iload_n 2, 1) := by decide +kernel
theorem dMo_readAction_2 : decode zbMo_readAction 2 = .ok (.invokevirtual 72, 3) := by decide +kernel
theorem dMo_readAction_5 : decode zbMo_readAction 5 = .ok (.istore_n 3, 1) := by decide +kernel
theorem dMo_readAction_6 : decode zbMo_readAction 6 = .ok (.aload_n 0, 1) := by decide +kernel
theorem dMo_readAction_7 : decode zbMo_readAction 7 = .ok (.getfield 42, 3) := by decide +kernel
theorem dMo_readAction_10 : decode zbMo_readAction 10 = .ok (.iload_n 1, 1) := by decide +kernel
theorem dMo_readAction_11 : decode zbMo_readAction 11 = .ok (.iload_n 3, 1) := by decide +kernel
theorem dMo_readAction_12 : decode zbMo_readAction 12 = .ok (.bipush 33, 2) := by decide +kernel
theorem dMo_readAction_14 : decode zbMo_readAction 14 = .ok (.if_icmp .ne 7, 3) := by decide +kernel
theorem dMo_readAction_17 : decode zbMo_readAction 17 = .ok (.iconst 0, 1) := by decide +kernel
theorem dMo_readAction_18 : decode zbMo_readAction 18 = .ok (.goto 44, 3) := by decide +kernel
theorem dMo_readAction_21 : decode zbMo_readAction 21 = .ok (.iload_n 3, 1) := by decide +kernel
theorem dMo_readAction_22 : decode zbMo_readAction 22 = .ok (.bipush 126, 2) := by decide +kernel
theorem dMo_readAction_24 : decode zbMo_readAction 24 = .ok (.if_icmp .ne 7, 3) := by decide +kernel
theorem dMo_readAction_27 : decode zbMo_readAction 27 = .ok (.iconst 1, 1) := by decide +kernel
theorem dMo_readAction_28 : decode zbMo_readAction 28 = .ok (.goto 34, 3) := by decide +kernel
theorem dMo_readAction_31 : decode zbMo_readAction 31 = .ok (.iload_n 3, 1) := by decide +kernel
theorem dMo_readAction_32 : decode zbMo_readAction 32 = .ok (.bipush 63, 2) := by decide +kernel
theorem dMo_readAction_34 : decode zbMo_readAction 34 = .ok (.if_icmp .ne 7, 3) := by decide +kernel
theorem dMo_readAction_37 : decode zbMo_readAction 37 = .ok (.iconst 2, 1) := by decide +kernel
theorem dMo_readAction_38 : decode zbMo_readAction 38 = .ok (.goto 24, 3) := by decide +kernel
theorem dMo_readAction_41 : decode zbMo_readAction 41 = .ok (.iload_n 3, 1) := by decide +kernel
theorem dMo_readAction_42 : decode zbMo_readAction 42 = .ok (.bipush 36, 2) := by decide +kernel
theorem dMo_readAction_44 : decode zbMo_readAction 44 = .ok (.if_icmp .ne 7, 3) := by decide +kernel
theorem dMo_readAction_47 : decode zbMo_readAction 47 = .ok (.iconst 3, 1) := by decide +kernel
theorem dMo_readAction_48 : decode zbMo_readAction 48 = .ok (.goto 14, 3) := by decide +kernel
theorem dMo_readAction_51 : decode zbMo_readAction 51 = .ok (.iload_n 3, 1) := by decide +kernel
theorem dMo_readAction_52 : decode zbMo_readAction 52 = .ok (.bipush 61, 2) := by decide +kernel
theorem dMo_readAction_54 : decode zbMo_readAction 54 = .ok (.if_icmp .ne 7, 3) := by decide +kernel
theorem dMo_readAction_57 : decode zbMo_readAction 57 = .ok (.iconst 4, 1) := by decide +kernel
theorem dMo_readAction_58 : decode zbMo_readAction 58 = .ok (.goto 4, 3) := by decide +kernel
theorem dMo_readAction_61 : decode zbMo_readAction 61 = .ok (.iconst (-1), 1) := by decide +kernel
theorem dMo_readAction_62 : decode zbMo_readAction 62 = .ok (.iastore, 1) := by decide +kernel
theorem dMo_readAction_63 : decode zbMo_readAction 63 = .ok (.aload_n 0, 1) := by decide +kernel
theorem dMo_readAction_64 : decode zbMo_readAction 64 = .ok (.getfield 42, 3) := by decide +kernel
theorem dMo_readAction_67 : decode zbMo_readAction 67 = .ok (.iload_n 1, 1) := by decide +kernel
theorem dMo_readAction_68 : decode zbMo_readAction 68 = .ok (.iaload, 1) := by decide +kernel
theorem dMo_readAction_69 : decode zbMo_readAction 69 = .ok (.ifCond .ge 7, 3) := by decide +kernel
theorem dMo_readAction_72 : decode zbMo_readAction 72 = .ok (.iconst (-1), 1) := by decide +kernel
theorem dMo_readAction_73 : decode zbMo_readAction 73 = .ok (.iload_n 2, 1) := by decide +kernel
theorem dMo_readAction_74 : decode zbMo_readAction 74 = .ok (.isub, 1) := by decide +kernel
theorem dMo_readAction_75 : decode zbMo_readAction 75 = .ok (.ireturn, 1) := by decide +kernel
theorem dMo_readAction_76 : decode zbMo_readAction 76 = .ok (.aload_n 0, 1) := by decide +kernel
theorem dMo_readAction_77 : decode zbMo_readAction 77 = .ok (.getfield 42, 3) := by decide +kernel
theorem dMo_readAction_80 : decode zbMo_readAction 80 = .ok (.iload_n 1, 1) := by decide +kernel
theorem dMo_readAction_81 : decode zbMo_readAction 81 = .ok (.iaload, 1) := by decide +kernel
theorem dMo_readAction_82 : decode zbMo_readAction 82 = .ok (.iconst 4, 1) := by decide +kernel
theorem dMo_readAction_83 : decode zbMo_readAction 83 = .ok (.if_icmp .ne 36, 3) := by decide +kernel
theorem dMo_readAction_86 : decode zbMo_readAction 86 = .ok (.aload_n 0, 1) := by decide +kernel
theorem dMo_readAction_87 : decode zbMo_readAction 87 = .ok (.getfield 45, 3) := by decide +kernel
theorem dMo_readAction_90 : decode zbMo_readAction 90 = .ok (.iload_n 1, 1) := by decide +kernel
theorem dMo_readAction_91 : decode zbMo_readAction 91 = .ok (.aload_n 0, 1) := by decide +kernel
theorem dMo_readAction_92 : decode zbMo_readAction 92 = .ok (.iload_n 2, 1) := by decide +kernel
theorem dMo_readAction_93 : decode zbMo_readAction 93 = .ok (.iconst 1, 1) := by decide +kernel
theorem dMo_readAction_94 : decode zbMo_readAction 94 = .ok (.iadd, 1) := by decide +kernel
theorem dMo_readAction_95 : decode zbMo_readAction 95 = .ok (.invokevirtual 79, 3) := by decide +kernel
theorem dMo_readAction_98 : decode zbMo_readAction 98 = .ok (.iastore, 1) := by decide +kernel
theorem dMo_readAction_99 : decode zbMo_readAction 99 = .ok (.aload_n 0, 1) := by decide +kernel
theorem dMo_readAction_100 : decode zbMo_readAction 100 = .ok (.getfield 45, 3) := by decide +kernel
theorem dMo_readAction_103 : decode zbMo_readAction 103 = .ok (.iload_n 1, 1) := by decide +kernel
theorem dMo_readAction_104 : decode zbMo_readAction 104 = .ok (.iaload, 1) := by decide +kernel
theorem dMo_readAction_105 : decode zbMo_readAction 105 = .ok (.ifCond .ge 10, 3) := by decide +kernel
theorem dMo_readAction_108 : decode zbMo_readAction 108 = .ok (.bipush (-2), 2) := by decide +kernel
theorem dMo_readAction_110 : decode zbMo_readAction 110 = .ok (.iload_n 2, 1) := by decide +kernel
theorem dMo_readAction_111 : decode zbMo_readAction 111 = .ok (.isub, 1) := by decide +kernel
theorem dMo_readAction_112 : decode zbMo_readAction 112 = .ok (.goto 6, 3) := by decide +kernel
theorem dMo_readAction_115 : decode zbMo_readAction 115 = .ok (.iload_n 2, 1) := by decide +kernel
theorem dMo_readAction_116 : decode zbMo_readAction 116 = .ok (.iconst 2, 1) := by decide +kernel
theorem dMo_readAction_117 : decode zbMo_readAction 117 = .ok (.iadd, 1) := by decide +kernel
theorem dMo_readAction_118 : decode zbMo_readAction 118 = .ok (.ireturn, 1) := by decide +kernel
theorem dMo_readAction_119 : decode zbMo_readAction 119 = .ok (.aload_n 0, 1) := by decide +kernel
theorem dMo_readAction_120 : decode zbMo_readAction 120 = .ok (.getfield 45, 3) := by decide +kernel
theorem dMo_readAction_123 : decode zbMo_readAction 123 = .ok (.iload_n 1, 1) := by decide +kernel
theorem dMo_readAction_124 : decode zbMo_readAction 124 = .ok (.aload_n 0, 1) := by decide +kernel
theorem dMo_readAction_125 : decode zbMo_readAction 125 = .ok (.iload_n 2, 1) := by decide +kernel
theorem dMo_readAction_126 : decode zbMo_readAction 126 = .ok (.iconst 1, 1) := by decide +kernel
theorem dMo_readAction_127 : decode zbMo_readAction 127 = .ok (.iadd, 1) := by decide +kernel
theorem dMo_readAction_128 : decode zbMo_readAction 128 = .ok (.invokevirtual 76, 3) := by decide +kernel
theorem dMo_readAction_131 : decode zbMo_readAction 131 = .ok (.iastore, 1) := by decide +kernel
theorem dMo_readAction_132 : decode zbMo_readAction 132 = .ok (.aload_n 0, 1) := by decide +kernel
theorem dMo_readAction_133 : decode zbMo_readAction 133 = .ok (.getfield 48, 3) := by decide +kernel
theorem dMo_readAction_136 : decode zbMo_readAction 136 = .ok (.iload_n 1, 1) := by decide +kernel
theorem dMo_readAction_137 : decode zbMo_readAction 137 = .ok (.aload_n 0, 1) := by decide +kernel
theorem dMo_readAction_138 : decode zbMo_readAction 138 = .ok (.getfield 42, 3) := by decide +kernel
theorem dMo_readAction_141 : decode zbMo_readAction 141 = .ok (.iload_n 1, 1) := by decide +kernel
theorem dMo_readAction_142 : decode zbMo_readAction 142 = .ok (.iaload, 1) := by decide +kernel
theorem dMo_readAction_143 : decode zbMo_readAction 143 = .ok (.iconst 3, 1) := by decide +kernel
theorem dMo_readAction_144 : decode zbMo_readAction 144 = .ok (.if_icmp .ne 13, 3) := by decide +kernel
theorem dMo_readAction_147 : decode zbMo_readAction 147 = .ok (.aload_n 0, 1) := by decide +kernel
theorem dMo_readAction_148 : decode zbMo_readAction 148 = .ok (.iload_n 2, 1) := by decide +kernel
theorem dMo_readAction_149 : decode zbMo_readAction 149 = .ok (.iconst 2, 1) := by decide +kernel
theorem dMo_readAction_150 : decode zbMo_readAction 150 = .ok (.iadd, 1) := by decide +kernel
theorem dMo_readAction_151 : decode zbMo_readAction 151 = .ok (.invokevirtual 76, 3) := by decide +kernel
theorem dMo_readAction_154 : decode zbMo_readAction 154 = .ok (.goto 10, 3) := by decide +kernel
theorem dMo_readAction_157 : decode zbMo_readAction 157 = .ok (.aload_n 0, 1) := by decide +kernel
theorem dMo_readAction_158 : decode zbMo_readAction 158 = .ok (.iload_n 2, 1) := by decide +kernel
theorem dMo_readAction_159 : decode zbMo_readAction 159 = .ok (.iconst 2, 1) := by decide +kernel
theorem dMo_readAction_160 : decode zbMo_readAction 160 = .ok (.iadd, 1) := by decide +kernel
theorem dMo_readAction_161 : decode zbMo_readAction 161 = .ok (.invokevirtual 82, 3) := by decide +kernel
theorem dMo_readAction_164 : decode zbMo_readAction 164 = .ok (.iastore, 1) := by decide +kernel
theorem dMo_readAction_165 : decode zbMo_readAction 165 = .ok (.aload_n 0, 1) := by decide +kernel
theorem dMo_readAction_166 : decode zbMo_readAction 166 = .ok (.getfield 51, 3) := by decide +kernel
theorem dMo_readAction_169 : decode zbMo_readAction 169 = .ok (.iload_n 1, 1) := by decide +kernel
theorem dMo_readAction_170 : decode zbMo_readAction 170 = .ok (.aload_n 0, 1) := by decide +kernel
theorem dMo_readAction_171 : decode zbMo_readAction 171 = .ok (.iload_n 2, 1) := by decide +kernel
theorem dMo_readAction_172 : decode zbMo_readAction 172 = .ok (.iconst 3, 1) := by decide +kernel
theorem dMo_readAction_173 : decode zbMo_readAction 173 = .ok (.iadd, 1) := by decide +kernel
theorem dMo_readAction_174 : decode zbMo_readAction 174 = .ok (.invokevirtual 79, 3) := by decide +kernel
theorem dMo_readAction_177 : decode zbMo_readAction 177 = .ok (.iastore, 1) := by decide +kernel
theorem dMo_readAction_178 : decode zbMo_readAction 178 = .ok (.aload_n 0, 1) := by decide +kernel
theorem dMo_readAction_179 : decode zbMo_readAction 179 = .ok (.getfield 42, 3) := by decide +kernel
theorem dMo_readAction_182 : decode zbMo_readAction 182 = .ok (.iload_n 1, 1) := by decide +kernel
theorem dMo_readAction_183 : decode zbMo_readAction 183 = .ok (.iaload, 1) := by decide +kernel
theorem dMo_readAction_184 : decode zbMo_readAction 184 = .ok (.iconst 3, 1) := by decide +kernel
theorem dMo_readAction_185 : decode zbMo_readAction 185 = .ok (.if_icmp .ne 11, 3) := by decide +kernel
theorem dMo_readAction_188 : decode zbMo_readAction 188 = .ok (.aload_n 0, 1) := by decide +kernel
theorem dMo_readAction_189 : decode zbMo_readAction 189 = .ok (.iload_n 2, 1) := by decide +kernel
theorem dMo_readAction_190 : decode zbMo_readAction 190 = .ok (.iconst 1, 1) := by decide +kernel
theorem dMo_readAction_191 : decode zbMo_readAction 191 = .ok (.iadd, 1) := by decide +kernel
theorem dMo_readAction_192 : decode zbMo_readAction 192 = .ok (.invokevirtual 85, 3) := by decide +kernel
theorem dMo_readAction_195 : decode zbMo_readAction 195 = .ok (.ireturn, 1) := by decide +kernel
theorem dMo_readAction_196 : decode zbMo_readAction 196 = .ok (.aload_n 0, 1) := by decide +kernel
theorem dMo_readAction_197 : decode zbMo_readAction 197 = .ok (.getfield 45, 3) := by decide +kernel
theorem dMo_readAction_200 : decode zbMo_readAction 200 = .ok (.iload_n 1, 1) := by decide +kernel
theorem dMo_readAction_201 : decode zbMo_readAction 201 = .ok (.iaload, 1) := by decide +kernel
theorem dMo_readAction_202 : decode zbMo_readAction 202 = .ok (.ifCond .ge 10, 3) := by decide +kernel
theorem dMo_readAction_205 : decode zbMo_readAction 205 = .ok (.bipush (-2), 2) := by decide +kernel
theorem dMo_readAction_207 : decode zbMo_readAction 207 = .ok (.iload_n 2, 1) := by decide +kernel
theorem dMo_readAction_208 : decode zbMo_readAction 208 = .ok (.isub, 1) := by decide +kernel
theorem dMo_readAction_209 : decode zbMo_readAction 209 = .ok (.goto 38, 3) := by decide +kernel
theorem dMo_readAction_212 : decode zbMo_readAction 212 = .ok (.aload_n 0, 1) := by decide +kernel
theorem dMo_readAction_213 : decode zbMo_readAction 213 = .ok (.getfield 48, 3) := by decide +kernel
theorem dMo_readAction_216 : decode zbMo_readAction 216 = .ok (.iload_n 1, 1) := by decide +kernel
theorem dMo_readAction_217 : decode zbMo_readAction 217 = .ok (.iaload, 1) := by decide +kernel
theorem dMo_readAction_218 : decode zbMo_readAction 218 = .ok (.ifCond .ge 10, 3) := by decide +kernel
theorem dMo_readAction_221 : decode zbMo_readAction 221 = .ok (.bipush (-3), 2) := by decide +kernel
theorem dMo_readAction_223 : decode zbMo_readAction 223 = .ok (.iload_n 2, 1) := by decide +kernel
theorem dMo_readAction_224 : decode zbMo_readAction 224 = .ok (.isub, 1) := by decide +kernel
theorem dMo_readAction_225 : decode zbMo_readAction 225 = .ok (.goto 22, 3) := by decide +kernel
theorem dMo_readAction_228 : decode zbMo_readAction 228 = .ok (.aload_n 0, 1) := by decide +kernel
theorem dMo_readAction_229 : decode zbMo_readAction 229 = .ok (.getfield 51, 3) := by decide +kernel
theorem dMo_readAction_232 : decode zbMo_readAction 232 = .ok (.iload_n 1, 1) := by decide +kernel
theorem dMo_readAction_233 : decode zbMo_readAction 233 = .ok (.iaload, 1) := by decide +kernel
theorem dMo_readAction_234 : decode zbMo_readAction 234 = .ok (.ifCond .ge 10, 3) := by decide +kernel
theorem dMo_readAction_237 : decode zbMo_readAction 237 = .ok (.bipush (-4), 2) := by decide +kernel
theorem dMo_readAction_239 : decode zbMo_readAction 239 = .ok (.iload_n 2, 1) := by decide +kernel
theorem dMo_readAction_240 : decode zbMo_readAction 240 = .ok (.isub, 1) := by decide +kernel
theorem dMo_readAction_241 : decode zbMo_readAction 241 = .ok (.goto 6, 3) := by decide +kernel
theorem dMo_readAction_244 : decode zbMo_readAction 244 = .ok (.iload_n 2, 1) := by decide +kernel
theorem dMo_readAction_245 : decode zbMo_readAction 245 = .ok (.iconst 4, 1) := by decide +kernel
theorem dMo_readAction_246 : decode zbMo_readAction 246 = .ok (.iadd, 1) := by decide +kernel
theorem dMo_readAction_247 : decode zbMo_readAction 247 = .ok (.ireturn, 1) := by decide +kernel
theorem dMo_readClause_0 : decode zbMo_readClause 0 = .ok (.aload_n 0, 1) := by decide +kernel
theorem dMo_readClause_1 : decode zbMo_readClause 1 = .ok (.iload_n 1, 1) := by decide +kernel
theorem dMo_readClause_2 : decode zbMo_readClause 2 = .ok (.iload_n 2, 1) := by decide +kernel
theorem dMo_readClause_3 : decode zbMo_readClause 3 = .ok (.invokevirtual 88, 3) := by decide +kernel
theorem dMo_readClause_6 : decode zbMo_readClause 6 = .ok (.istore_n 3, 1) := by decide +kernel
theorem dMo_readClause_7 : decode zbMo_readClause 7 = .ok (.iload_n 3, 1) := by decide +kernel
theorem dMo_readClause_8 : decode zbMo_readClause 8 = .ok (.ifCond .ge 7, 3) := by decide +kernel
theorem dMo_readClause_11 : decode zbMo_readClause 11 = .ok (.iload_n 3, 1) := by decide +kernel
theorem dMo_readClause_12 : decode zbMo_readClause 12 = .ok (.goto 9, 3) := by decide +kernel
theorem dMo_readClause_15 : decode zbMo_readClause 15 = .ok (.aload_n 0, 1) := by decide +kernel
theorem dMo_readClause_16 : decode zbMo_readClause 16 = .ok (.iload_n 1, 1) := by decide +kernel
theorem dMo_readClause_17 : decode zbMo_readClause 17 = .ok (.iload_n 3, 1) := by decide +kernel
theorem dMo_readClause_18 : decode zbMo_readClause 18 = .ok (.invokevirtual 92, 3) := by decide +kernel
theorem dMo_readClause_21 : decode zbMo_readClause 21 = .ok (.istore_n 3, 1) := by decide +kernel
theorem dMo_readClause_22 : decode zbMo_readClause 22 = .ok (.iload_n 3, 1) := by decide +kernel
theorem dMo_readClause_23 : decode zbMo_readClause 23 = .ok (.ifCond .lt 23, 3) := by decide +kernel
theorem dMo_readClause_26 : decode zbMo_readClause 26 = .ok (.aload_n 0, 1) := by decide +kernel
theorem dMo_readClause_27 : decode zbMo_readClause 27 = .ok (.iload_n 3, 1) := by decide +kernel
theorem dMo_readClause_28 : decode zbMo_readClause 28 = .ok (.invokevirtual 72, 3) := by decide +kernel
theorem dMo_readClause_31 : decode zbMo_readClause 31 = .ok (.bipush 62, 2) := by decide +kernel
theorem dMo_readClause_33 : decode zbMo_readClause 33 = .ok (.if_icmp .ne 9, 3) := by decide +kernel
theorem dMo_readClause_36 : decode zbMo_readClause 36 = .ok (.iload_n 3, 1) := by decide +kernel
theorem dMo_readClause_37 : decode zbMo_readClause 37 = .ok (.iconst 1, 1) := by decide +kernel
theorem dMo_readClause_38 : decode zbMo_readClause 38 = .ok (.iadd, 1) := by decide +kernel
theorem dMo_readClause_39 : decode zbMo_readClause 39 = .ok (.goto 6, 3) := by decide +kernel
theorem dMo_readClause_42 : decode zbMo_readClause 42 = .ok (.iconst (-1), 1) := by decide +kernel
theorem dMo_readClause_43 : decode zbMo_readClause 43 = .ok (.iload_n 3, 1) := by decide +kernel
theorem dMo_readClause_44 : decode zbMo_readClause 44 = .ok (.isub, 1) := by decide +kernel
theorem dMo_readClause_45 : decode zbMo_readClause 45 = .ok (.istore_n 3, 1) := by decide +kernel
theorem dMo_readClause_46 : decode zbMo_readClause 46 = .ok (.iload_n 3, 1) := by decide +kernel
theorem dMo_readClause_47 : decode zbMo_readClause 47 = .ok (.ifCond .ge 7, 3) := by decide +kernel
theorem dMo_readClause_50 : decode zbMo_readClause 50 = .ok (.iload_n 3, 1) := by decide +kernel
theorem dMo_readClause_51 : decode zbMo_readClause 51 = .ok (.goto 9, 3) := by decide +kernel
theorem dMo_readClause_54 : decode zbMo_readClause 54 = .ok (.aload_n 0, 1) := by decide +kernel
theorem dMo_readClause_55 : decode zbMo_readClause 55 = .ok (.iload_n 1, 1) := by decide +kernel
theorem dMo_readClause_56 : decode zbMo_readClause 56 = .ok (.iload_n 3, 1) := by decide +kernel
theorem dMo_readClause_57 : decode zbMo_readClause 57 = .ok (.invokevirtual 95, 3) := by decide +kernel
theorem dMo_readClause_60 : decode zbMo_readClause 60 = .ok (.ireturn, 1) := by decide +kernel
theorem dMo_readAll_0 : decode zbMo_readAll 0 = .ok (.iconst 0, 1) := by decide +kernel
theorem dMo_readAll_1 : decode zbMo_readAll 1 = .ok (.istore_n 2, 1) := by decide +kernel
theorem dMo_readAll_2 : decode zbMo_readAll 2 = .ok (.iconst 0, 1) := by decide +kernel
theorem dMo_readAll_3 : decode zbMo_readAll 3 = .ok (.istore_n 3, 1) := by decide +kernel
theorem dMo_readAll_4 : decode zbMo_readAll 4 = .ok (.iconst 1, 1) := by decide +kernel
theorem dMo_readAll_5 : decode zbMo_readAll 5 = .ok (.istore 4, 2) := by decide +kernel
theorem dMo_readAll_7 : decode zbMo_readAll 7 = .ok (.iload 4, 2) := by decide +kernel
theorem dMo_readAll_9 : decode zbMo_readAll 9 = .ok (.ifCond .eq 59, 3) := by decide +kernel
theorem dMo_readAll_12 : decode zbMo_readAll 12 = .ok (.aload_n 0, 1) := by decide +kernel
theorem dMo_readAll_13 : decode zbMo_readAll 13 = .ok (.iload_n 1, 1) := by decide +kernel
theorem dMo_readAll_14 : decode zbMo_readAll 14 = .ok (.iload_n 2, 1) := by decide +kernel
theorem dMo_readAll_15 : decode zbMo_readAll 15 = .ok (.iadd, 1) := by decide +kernel
theorem dMo_readAll_16 : decode zbMo_readAll 16 = .ok (.iload_n 3, 1) := by decide +kernel
theorem dMo_readAll_17 : decode zbMo_readAll 17 = .ok (.invokevirtual 98, 3) := by decide +kernel
theorem dMo_readAll_20 : decode zbMo_readAll 20 = .ok (.istore_n 3, 1) := by decide +kernel
theorem dMo_readAll_21 : decode zbMo_readAll 21 = .ok (.iload_n 2, 1) := by decide +kernel
theorem dMo_readAll_22 : decode zbMo_readAll 22 = .ok (.iconst 1, 1) := by decide +kernel
theorem dMo_readAll_23 : decode zbMo_readAll 23 = .ok (.iadd, 1) := by decide +kernel
theorem dMo_readAll_24 : decode zbMo_readAll 24 = .ok (.istore_n 2, 1) := by decide +kernel
theorem dMo_readAll_25 : decode zbMo_readAll 25 = .ok (.iload_n 3, 1) := by decide +kernel
theorem dMo_readAll_26 : decode zbMo_readAll 26 = .ok (.ifCond .lt 23, 3) := by decide +kernel
theorem dMo_readAll_29 : decode zbMo_readAll 29 = .ok (.aload_n 0, 1) := by decide +kernel
theorem dMo_readAll_30 : decode zbMo_readAll 30 = .ok (.iload_n 3, 1) := by decide +kernel
theorem dMo_readAll_31 : decode zbMo_readAll 31 = .ok (.invokevirtual 72, 3) := by decide +kernel
theorem dMo_readAll_34 : decode zbMo_readAll 34 = .ok (.bipush 59, 2) := by decide +kernel
theorem dMo_readAll_36 : decode zbMo_readAll 36 = .ok (.if_icmp .ne 13, 3) := by decide +kernel
theorem dMo_readAll_39 : decode zbMo_readAll 39 = .ok (.iload_n 2, 1) := by decide +kernel
theorem dMo_readAll_40 : decode zbMo_readAll 40 = .ok (.bipush 10, 2) := by decide +kernel
theorem dMo_readAll_42 : decode zbMo_readAll 42 = .ok (.if_icmp .ge 7, 3) := by decide +kernel
theorem dMo_readAll_45 : decode zbMo_readAll 45 = .ok (.iconst 1, 1) := by decide +kernel
theorem dMo_readAll_46 : decode zbMo_readAll 46 = .ok (.goto 4, 3) := by decide +kernel
theorem dMo_readAll_49 : decode zbMo_readAll 49 = .ok (.iconst 0, 1) := by decide +kernel
theorem dMo_readAll_50 : decode zbMo_readAll 50 = .ok (.istore 4, 2) := by decide +kernel
theorem dMo_readAll_52 : decode zbMo_readAll 52 = .ok (.iload 4, 2) := by decide +kernel
theorem dMo_readAll_54 : decode zbMo_readAll 54 = .ok (.ifCond .eq 9, 3) := by decide +kernel
theorem dMo_readAll_57 : decode zbMo_readAll 57 = .ok (.iload_n 3, 1) := by decide +kernel
theorem dMo_readAll_58 : decode zbMo_readAll 58 = .ok (.iconst 1, 1) := by decide +kernel
theorem dMo_readAll_59 : decode zbMo_readAll 59 = .ok (.iadd, 1) := by decide +kernel
theorem dMo_readAll_60 : decode zbMo_readAll 60 = .ok (.goto 4, 3) := by decide +kernel
theorem dMo_readAll_63 : decode zbMo_readAll 63 = .ok (.iload_n 3, 1) := by decide +kernel
theorem dMo_readAll_64 : decode zbMo_readAll 64 = .ok (.istore_n 3, 1) := by decide +kernel
theorem dMo_readAll_65 : decode zbMo_readAll 65 = .ok (.goto (-58), 3) := by decide +kernel
theorem dMo_readAll_68 : decode zbMo_readAll 68 = .ok (.iload_n 3, 1) := by decide +kernel
theorem dMo_readAll_69 : decode zbMo_readAll 69 = .ok (.ifCond .ge 7, 3) := by decide +kernel
theorem dMo_readAll_72 : decode zbMo_readAll 72 = .ok (.iload_n 3, 1) := by decide +kernel
theorem dMo_readAll_73 : decode zbMo_readAll 73 = .ok (.goto 18, 3) := by decide +kernel
theorem dMo_readAll_76 : decode zbMo_readAll 76 = .ok (.iload_n 3, 1) := by decide +kernel
theorem dMo_readAll_77 : decode zbMo_readAll 77 = .ok (.aload_n 0, 1) := by decide +kernel
theorem dMo_readAll_78 : decode zbMo_readAll 78 = .ok (.getfield 65, 3) := by decide +kernel
theorem dMo_readAll_81 : decode zbMo_readAll 81 = .ok (.if_icmp .ne 7, 3) := by decide +kernel
theorem dMo_readAll_84 : decode zbMo_readAll 84 = .ok (.iload_n 2, 1) := by decide +kernel
theorem dMo_readAll_85 : decode zbMo_readAll 85 = .ok (.goto 6, 3) := by decide +kernel
theorem dMo_readAll_88 : decode zbMo_readAll 88 = .ok (.iconst (-1), 1) := by decide +kernel
theorem dMo_readAll_89 : decode zbMo_readAll 89 = .ok (.iload_n 3, 1) := by decide +kernel
theorem dMo_readAll_90 : decode zbMo_readAll 90 = .ok (.isub, 1) := by decide +kernel
theorem dMo_readAll_91 : decode zbMo_readAll 91 = .ok (.ireturn, 1) := by decide +kernel
theorem dMo_refersWell_0 : decode zbMo_refersWell 0 = .ok (.aload_n 0, 1) := by decide +kernel
theorem dMo_refersWell_1 : decode zbMo_refersWell 1 = .ok (.getfield 21, 3) := by decide +kernel
theorem dMo_refersWell_4 : decode zbMo_refersWell 4 = .ok (.iload_n 1, 1) := by decide +kernel
theorem dMo_refersWell_5 : decode zbMo_refersWell 5 = .ok (.iload_n 2, 1) := by decide +kernel
theorem dMo_refersWell_6 : decode zbMo_refersWell 6 = .ok (.iadd, 1) := by decide +kernel
theorem dMo_refersWell_7 : decode zbMo_refersWell 7 = .ok (.iaload, 1) := by decide +kernel
theorem dMo_refersWell_8 : decode zbMo_refersWell 8 = .ok (.istore 4, 2) := by decide +kernel
theorem dMo_refersWell_10 : decode zbMo_refersWell 10 = .ok (.aload_n 0, 1) := by decide +kernel
theorem dMo_refersWell_11 : decode zbMo_refersWell 11 = .ok (.getfield 24, 3) := by decide +kernel
theorem dMo_refersWell_14 : decode zbMo_refersWell 14 = .ok (.iload_n 1, 1) := by decide +kernel
theorem dMo_refersWell_15 : decode zbMo_refersWell 15 = .ok (.iload_n 2, 1) := by decide +kernel
theorem dMo_refersWell_16 : decode zbMo_refersWell 16 = .ok (.iadd, 1) := by decide +kernel
theorem dMo_refersWell_17 : decode zbMo_refersWell 17 = .ok (.iaload, 1) := by decide +kernel
theorem dMo_refersWell_18 : decode zbMo_refersWell 18 = .ok (.istore 5, 2) := by decide +kernel
theorem dMo_refersWell_20 : decode zbMo_refersWell 20 = .ok (.iload 4, 2) := by decide +kernel
theorem dMo_refersWell_22 : decode zbMo_refersWell 22 = .ok (.iconst 2, 1) := by decide +kernel
theorem dMo_refersWell_23 : decode zbMo_refersWell 23 = .ok (.if_icmp .lt 34, 3) := by decide +kernel
theorem dMo_refersWell_26 : decode zbMo_refersWell 26 = .ok (.iload 4, 2) := by decide +kernel
theorem dMo_refersWell_28 : decode zbMo_refersWell 28 = .ok (.iconst 3, 1) := by decide +kernel
theorem dMo_refersWell_29 : decode zbMo_refersWell 29 = .ok (.if_icmp .gt 28, 3) := by decide +kernel
theorem dMo_refersWell_32 : decode zbMo_refersWell 32 = .ok (.iload 5, 2) := by decide +kernel
theorem dMo_refersWell_34 : decode zbMo_refersWell 34 = .ok (.iload_n 3, 1) := by decide +kernel
theorem dMo_refersWell_35 : decode zbMo_refersWell 35 = .ok (.if_icmp .ge 26, 3) := by decide +kernel
theorem dMo_refersWell_38 : decode zbMo_refersWell 38 = .ok (.aload_n 0, 1) := by decide +kernel
theorem dMo_refersWell_39 : decode zbMo_refersWell 39 = .ok (.getfield 42, 3) := by decide +kernel
theorem dMo_refersWell_42 : decode zbMo_refersWell 42 = .ok (.iload_n 1, 1) := by decide +kernel
theorem dMo_refersWell_43 : decode zbMo_refersWell 43 = .ok (.iload 5, 2) := by decide +kernel
theorem dMo_refersWell_45 : decode zbMo_refersWell 45 = .ok (.bipush 10, 2) := by decide +kernel
theorem dMo_refersWell_47 : decode zbMo_refersWell 47 = .ok (.irem, 1) := by decide +kernel
theorem dMo_refersWell_48 : decode zbMo_refersWell 48 = .ok (.iadd, 1) := by decide +kernel
theorem dMo_refersWell_49 : decode zbMo_refersWell 49 = .ok (.iaload, 1) := by decide +kernel
theorem dMo_refersWell_50 : decode zbMo_refersWell 50 = .ok (.iconst 3, 1) := by decide +kernel
theorem dMo_refersWell_51 : decode zbMo_refersWell 51 = .ok (.iload 4, 2) := by decide +kernel
theorem dMo_refersWell_53 : decode zbMo_refersWell 53 = .ok (.isub, 1) := by decide +kernel
theorem dMo_refersWell_54 : decode zbMo_refersWell 54 = .ok (.if_icmp .gt 7, 3) := by decide +kernel
theorem dMo_refersWell_57 : decode zbMo_refersWell 57 = .ok (.iconst 1, 1) := by decide +kernel
theorem dMo_refersWell_58 : decode zbMo_refersWell 58 = .ok (.goto 4, 3) := by decide +kernel
theorem dMo_refersWell_61 : decode zbMo_refersWell 61 = .ok (.iconst 0, 1) := by decide +kernel
theorem dMo_refersWell_62 : decode zbMo_refersWell 62 = .ok (.istore 6, 2) := by decide +kernel
theorem dMo_refersWell_64 : decode zbMo_refersWell 64 = .ok (.iload 6, 2) := by decide +kernel
theorem dMo_refersWell_66 : decode zbMo_refersWell 66 = .ok (.ifCond .eq 31, 3) := by decide +kernel
theorem dMo_refersWell_69 : decode zbMo_refersWell 69 = .ok (.aload_n 0, 1) := by decide +kernel
theorem dMo_refersWell_70 : decode zbMo_refersWell 70 = .ok (.getfield 42, 3) := by decide +kernel
theorem dMo_refersWell_73 : decode zbMo_refersWell 73 = .ok (.iload_n 1, 1) := by decide +kernel
theorem dMo_refersWell_74 : decode zbMo_refersWell 74 = .ok (.iload_n 2, 1) := by decide +kernel
theorem dMo_refersWell_75 : decode zbMo_refersWell 75 = .ok (.iadd, 1) := by decide +kernel
theorem dMo_refersWell_76 : decode zbMo_refersWell 76 = .ok (.iaload, 1) := by decide +kernel
theorem dMo_refersWell_77 : decode zbMo_refersWell 77 = .ok (.iconst 4, 1) := by decide +kernel
theorem dMo_refersWell_78 : decode zbMo_refersWell 78 = .ok (.if_icmp .ne 15, 3) := by decide +kernel
theorem dMo_refersWell_81 : decode zbMo_refersWell 81 = .ok (.aload_n 0, 1) := by decide +kernel
theorem dMo_refersWell_82 : decode zbMo_refersWell 82 = .ok (.getfield 45, 3) := by decide +kernel
theorem dMo_refersWell_85 : decode zbMo_refersWell 85 = .ok (.iload_n 1, 1) := by decide +kernel
theorem dMo_refersWell_86 : decode zbMo_refersWell 86 = .ok (.iload_n 2, 1) := by decide +kernel
theorem dMo_refersWell_87 : decode zbMo_refersWell 87 = .ok (.iadd, 1) := by decide +kernel
theorem dMo_refersWell_88 : decode zbMo_refersWell 88 = .ok (.iaload, 1) := by decide +kernel
theorem dMo_refersWell_89 : decode zbMo_refersWell 89 = .ok (.iload_n 3, 1) := by decide +kernel
theorem dMo_refersWell_90 : decode zbMo_refersWell 90 = .ok (.if_icmp .ge 7, 3) := by decide +kernel
theorem dMo_refersWell_93 : decode zbMo_refersWell 93 = .ok (.iconst 1, 1) := by decide +kernel
theorem dMo_refersWell_94 : decode zbMo_refersWell 94 = .ok (.goto 4, 3) := by decide +kernel
theorem dMo_refersWell_97 : decode zbMo_refersWell 97 = .ok (.iconst 0, 1) := by decide +kernel
theorem dMo_refersWell_98 : decode zbMo_refersWell 98 = .ok (.ireturn, 1) := by decide +kernel
theorem dMo_goesRound_0 : decode zbMo_goesRound 0 = .ok (.iload_n 2, 1) := by decide +kernel
theorem dMo_goesRound_1 : decode zbMo_goesRound 1 = .ok (.istore_n 3, 1) := by decide +kernel
theorem dMo_goesRound_2 : decode zbMo_goesRound 2 = .ok (.iconst 0, 1) := by decide +kernel
theorem dMo_goesRound_3 : decode zbMo_goesRound 3 = .ok (.istore 4, 2) := by decide +kernel
theorem dMo_goesRound_5 : decode zbMo_goesRound 5 = .ok (.iconst 0, 1) := by decide +kernel
end
section
theorem dMo_goesRound_6 : decode zbMo_goesRound 6 = .ok (.istore 5, 2) := by decide +kernel
theorem dMo_goesRound_8 : decode zbMo_goesRound 8 = .ok (.iload 5, 2) := by decide +kernel
theorem dMo_goesRound_10 : decode zbMo_goesRound 10 = .ok (.bipush 10, 2) := by decide +kernel
theorem dMo_goesRound_12 : decode zbMo_goesRound 12 = .ok (.if_icmp .ge 47, 3) := by decide +kernel
theorem dMo_goesRound_15 : decode zbMo_goesRound 15 = .ok (.iload 4, 2) := by decide +kernel
theorem dMo_goesRound_17 : decode zbMo_goesRound 17 = .ok (.ifCond .ne 42, 3) := by decide +kernel
theorem dMo_goesRound_20 : decode zbMo_goesRound 20 = .ok (.aload_n 0, 1) := by decide +kernel
theorem dMo_goesRound_21 : decode zbMo_goesRound 21 = .ok (.getfield 42, 3) := by decide +kernel
theorem dMo_goesRound_24 : decode zbMo_goesRound 24 = .ok (.iload_n 1, 1) := by decide +kernel
theorem dMo_goesRound_25 : decode zbMo_goesRound 25 = .ok (.iload_n 3, 1) := by decide +kernel
theorem dMo_goesRound_26 : decode zbMo_goesRound 26 = .ok (.iadd, 1) := by decide +kernel
theorem dMo_goesRound_27 : decode zbMo_goesRound 27 = .ok (.iaload, 1) := by decide +kernel
theorem dMo_goesRound_28 : decode zbMo_goesRound 28 = .ok (.iconst 4, 1) := by decide +kernel
theorem dMo_goesRound_29 : decode zbMo_goesRound 29 = .ok (.if_icmp .ne 30, 3) := by decide +kernel
theorem dMo_goesRound_32 : decode zbMo_goesRound 32 = .ok (.aload_n 0, 1) := by decide +kernel
theorem dMo_goesRound_33 : decode zbMo_goesRound 33 = .ok (.getfield 45, 3) := by decide +kernel
theorem dMo_goesRound_36 : decode zbMo_goesRound 36 = .ok (.iload_n 1, 1) := by decide +kernel
theorem dMo_goesRound_37 : decode zbMo_goesRound 37 = .ok (.iload_n 3, 1) := by decide +kernel
theorem dMo_goesRound_38 : decode zbMo_goesRound 38 = .ok (.iadd, 1) := by decide +kernel
theorem dMo_goesRound_39 : decode zbMo_goesRound 39 = .ok (.iaload, 1) := by decide +kernel
theorem dMo_goesRound_40 : decode zbMo_goesRound 40 = .ok (.istore_n 3, 1) := by decide +kernel
theorem dMo_goesRound_41 : decode zbMo_goesRound 41 = .ok (.iload_n 3, 1) := by decide +kernel
theorem dMo_goesRound_42 : decode zbMo_goesRound 42 = .ok (.iload_n 2, 1) := by decide +kernel
theorem dMo_goesRound_43 : decode zbMo_goesRound 43 = .ok (.if_icmp .ne 7, 3) := by decide +kernel
theorem dMo_goesRound_46 : decode zbMo_goesRound 46 = .ok (.iconst 1, 1) := by decide +kernel
theorem dMo_goesRound_47 : decode zbMo_goesRound 47 = .ok (.goto 4, 3) := by decide +kernel
theorem dMo_goesRound_50 : decode zbMo_goesRound 50 = .ok (.iconst 0, 1) := by decide +kernel
theorem dMo_goesRound_51 : decode zbMo_goesRound 51 = .ok (.istore 4, 2) := by decide +kernel
theorem dMo_goesRound_53 : decode zbMo_goesRound 53 = .ok (.iinc 5 1, 3) := by decide +kernel
theorem dMo_goesRound_56 : decode zbMo_goesRound 56 = .ok (.goto (-48), 3) := by decide +kernel
theorem dMo_goesRound_59 : decode zbMo_goesRound 59 = .ok (.iload 4, 2) := by decide +kernel
theorem dMo_goesRound_61 : decode zbMo_goesRound 61 = .ok (.ireturn, 1) := by decide +kernel
theorem dMo_faultOf_0 : decode zbMo_faultOf 0 = .ok (.iload_n 2, 1) := by decide +kernel
theorem dMo_faultOf_1 : decode zbMo_faultOf 1 = .ok (.ifCond .ge 7, 3) := by decide +kernel
theorem dMo_faultOf_4 : decode zbMo_faultOf 4 = .ok (.iconst (-1), 1) := by decide +kernel
theorem dMo_faultOf_5 : decode zbMo_faultOf 5 = .ok (.iload_n 2, 1) := by decide +kernel
theorem dMo_faultOf_6 : decode zbMo_faultOf 6 = .ok (.isub, 1) := by decide +kernel
theorem dMo_faultOf_7 : decode zbMo_faultOf 7 = .ok (.ireturn, 1) := by decide +kernel
theorem dMo_faultOf_8 : decode zbMo_faultOf 8 = .ok (.iconst 0, 1) := by decide +kernel
theorem dMo_faultOf_9 : decode zbMo_faultOf 9 = .ok (.istore_n 3, 1) := by decide +kernel
theorem dMo_faultOf_10 : decode zbMo_faultOf 10 = .ok (.iload_n 3, 1) := by decide +kernel
theorem dMo_faultOf_11 : decode zbMo_faultOf 11 = .ok (.iload_n 2, 1) := by decide +kernel
theorem dMo_faultOf_12 : decode zbMo_faultOf 12 = .ok (.if_icmp .ge 25, 3) := by decide +kernel
theorem dMo_faultOf_15 : decode zbMo_faultOf 15 = .ok (.aload_n 0, 1) := by decide +kernel
theorem dMo_faultOf_16 : decode zbMo_faultOf 16 = .ok (.iload_n 1, 1) := by decide +kernel
theorem dMo_faultOf_17 : decode zbMo_faultOf 17 = .ok (.iload_n 3, 1) := by decide +kernel
theorem dMo_faultOf_18 : decode zbMo_faultOf 18 = .ok (.iload_n 2, 1) := by decide +kernel
theorem dMo_faultOf_19 : decode zbMo_faultOf 19 = .ok (.invokevirtual 101, 3) := by decide +kernel
theorem dMo_faultOf_22 : decode zbMo_faultOf 22 = .ok (.ifCond .ne 9, 3) := by decide +kernel
theorem dMo_faultOf_25 : decode zbMo_faultOf 25 = .ok (.sipush 200, 3) := by decide +kernel
theorem dMo_faultOf_28 : decode zbMo_faultOf 28 = .ok (.iload_n 3, 1) := by decide +kernel
theorem dMo_faultOf_29 : decode zbMo_faultOf 29 = .ok (.iadd, 1) := by decide +kernel
theorem dMo_faultOf_30 : decode zbMo_faultOf 30 = .ok (.ireturn, 1) := by decide +kernel
theorem dMo_faultOf_31 : decode zbMo_faultOf 31 = .ok (.iinc 3 1, 3) := by decide +kernel
theorem dMo_faultOf_34 : decode zbMo_faultOf 34 = .ok (.goto (-24), 3) := by decide +kernel
theorem dMo_faultOf_37 : decode zbMo_faultOf 37 = .ok (.iconst 0, 1) := by decide +kernel
theorem dMo_faultOf_38 : decode zbMo_faultOf 38 = .ok (.istore_n 3, 1) := by decide +kernel
theorem dMo_faultOf_39 : decode zbMo_faultOf 39 = .ok (.iload_n 3, 1) := by decide +kernel
theorem dMo_faultOf_40 : decode zbMo_faultOf 40 = .ok (.iload_n 2, 1) := by decide +kernel
theorem dMo_faultOf_41 : decode zbMo_faultOf 41 = .ok (.if_icmp .ge 24, 3) := by decide +kernel
theorem dMo_faultOf_44 : decode zbMo_faultOf 44 = .ok (.aload_n 0, 1) := by decide +kernel
theorem dMo_faultOf_45 : decode zbMo_faultOf 45 = .ok (.iload_n 1, 1) := by decide +kernel
theorem dMo_faultOf_46 : decode zbMo_faultOf 46 = .ok (.iload_n 3, 1) := by decide +kernel
theorem dMo_faultOf_47 : decode zbMo_faultOf 47 = .ok (.invokevirtual 105, 3) := by decide +kernel
theorem dMo_faultOf_50 : decode zbMo_faultOf 50 = .ok (.ifCond .eq 9, 3) := by decide +kernel
theorem dMo_faultOf_53 : decode zbMo_faultOf 53 = .ok (.sipush 300, 3) := by decide +kernel
theorem dMo_faultOf_56 : decode zbMo_faultOf 56 = .ok (.iload_n 3, 1) := by decide +kernel
theorem dMo_faultOf_57 : decode zbMo_faultOf 57 = .ok (.iadd, 1) := by decide +kernel
theorem dMo_faultOf_58 : decode zbMo_faultOf 58 = .ok (.ireturn, 1) := by decide +kernel
theorem dMo_faultOf_59 : decode zbMo_faultOf 59 = .ok (.iinc 3 1, 3) := by decide +kernel
theorem dMo_faultOf_62 : decode zbMo_faultOf 62 = .ok (.goto (-23), 3) := by decide +kernel
theorem dMo_faultOf_65 : decode zbMo_faultOf 65 = .ok (.iconst (-1), 1) := by decide +kernel
theorem dMo_faultOf_66 : decode zbMo_faultOf 66 = .ok (.ireturn, 1) := by decide +kernel
theorem dMo_copy_0 : decode zbMo_copy 0 = .ok (.iconst 0, 1) := by decide +kernel
theorem dMo_copy_1 : decode zbMo_copy 1 = .ok (.istore_n 3, 1) := by decide +kernel
theorem dMo_copy_2 : decode zbMo_copy 2 = .ok (.iload_n 3, 1) := by decide +kernel
theorem dMo_copy_3 : decode zbMo_copy 3 = .ok (.bipush 71, 2) := by decide +kernel
theorem dMo_copy_5 : decode zbMo_copy 5 = .ok (.if_icmp .ge 31, 3) := by decide +kernel
theorem dMo_copy_8 : decode zbMo_copy 8 = .ok (.aload_n 0, 1) := by decide +kernel
theorem dMo_copy_9 : decode zbMo_copy 9 = .ok (.getfield 54, 3) := by decide +kernel
theorem dMo_copy_12 : decode zbMo_copy 12 = .ok (.bipush 71, 2) := by decide +kernel
theorem dMo_copy_14 : decode zbMo_copy 14 = .ok (.iload_n 2, 1) := by decide +kernel
theorem dMo_copy_15 : decode zbMo_copy 15 = .ok (.imul, 1) := by decide +kernel
theorem dMo_copy_16 : decode zbMo_copy 16 = .ok (.iload_n 3, 1) := by decide +kernel
theorem dMo_copy_17 : decode zbMo_copy 17 = .ok (.iadd, 1) := by decide +kernel
theorem dMo_copy_18 : decode zbMo_copy 18 = .ok (.aload_n 0, 1) := by decide +kernel
theorem dMo_copy_19 : decode zbMo_copy 19 = .ok (.getfield 54, 3) := by decide +kernel
theorem dMo_copy_22 : decode zbMo_copy 22 = .ok (.bipush 71, 2) := by decide +kernel
theorem dMo_copy_24 : decode zbMo_copy 24 = .ok (.iload_n 1, 1) := by decide +kernel
theorem dMo_copy_25 : decode zbMo_copy 25 = .ok (.imul, 1) := by decide +kernel
theorem dMo_copy_26 : decode zbMo_copy 26 = .ok (.iload_n 3, 1) := by decide +kernel
theorem dMo_copy_27 : decode zbMo_copy 27 = .ok (.iadd, 1) := by decide +kernel
theorem dMo_copy_28 : decode zbMo_copy 28 = .ok (.iaload, 1) := by decide +kernel
theorem dMo_copy_29 : decode zbMo_copy 29 = .ok (.iastore, 1) := by decide +kernel
theorem dMo_copy_30 : decode zbMo_copy 30 = .ok (.iinc 3 1, 3) := by decide +kernel
theorem dMo_copy_33 : decode zbMo_copy 33 = .ok (.goto (-31), 3) := by decide +kernel
theorem dMo_copy_36 : decode zbMo_copy 36 = .ok (.return_, 1) := by decide +kernel
theorem dMo_dayAfter_0 : decode zbMo_dayAfter 0 = .ok (.iload_n 1, 1) := by decide +kernel
theorem dMo_dayAfter_1 : decode zbMo_dayAfter 1 = .ok (.istore_n 3, 1) := by decide +kernel
theorem dMo_dayAfter_2 : decode zbMo_dayAfter 2 = .ok (.iload_n 2, 1) := by decide +kernel
theorem dMo_dayAfter_3 : decode zbMo_dayAfter 3 = .ok (.istore 4, 2) := by decide +kernel
theorem dMo_dayAfter_5 : decode zbMo_dayAfter 5 = .ok (.iload 4, 2) := by decide +kernel
theorem dMo_dayAfter_7 : decode zbMo_dayAfter 7 = .ok (.ifCond .le 36, 3) := by decide +kernel
theorem dMo_dayAfter_10 : decode zbMo_dayAfter 10 = .ok (.iload_n 3, 1) := by decide +kernel
theorem dMo_dayAfter_11 : decode zbMo_dayAfter 11 = .ok (.iconst 1, 1) := by decide +kernel
theorem dMo_dayAfter_12 : decode zbMo_dayAfter 12 = .ok (.iadd, 1) := by decide +kernel
theorem dMo_dayAfter_13 : decode zbMo_dayAfter 13 = .ok (.istore_n 3, 1) := by decide +kernel
theorem dMo_dayAfter_14 : decode zbMo_dayAfter 14 = .ok (.iload_n 3, 1) := by decide +kernel
theorem dMo_dayAfter_15 : decode zbMo_dayAfter 15 = .ok (.bipush 60, 2) := by decide +kernel
theorem dMo_dayAfter_17 : decode zbMo_dayAfter 17 = .ok (.if_icmp .gt 12, 3) := by decide +kernel
theorem dMo_dayAfter_20 : decode zbMo_dayAfter 20 = .ok (.aload_n 0, 1) := by decide +kernel
theorem dMo_dayAfter_21 : decode zbMo_dayAfter 21 = .ok (.getfield 17, 3) := by decide +kernel
theorem dMo_dayAfter_24 : decode zbMo_dayAfter 24 = .ok (.iload_n 3, 1) := by decide +kernel
theorem dMo_dayAfter_25 : decode zbMo_dayAfter 25 = .ok (.baload, 1) := by decide +kernel
theorem dMo_dayAfter_26 : decode zbMo_dayAfter 26 = .ok (.ifCond .ne 10, 3) := by decide +kernel
theorem dMo_dayAfter_29 : decode zbMo_dayAfter 29 = .ok (.iload 4, 2) := by decide +kernel
theorem dMo_dayAfter_31 : decode zbMo_dayAfter 31 = .ok (.iconst 1, 1) := by decide +kernel
theorem dMo_dayAfter_32 : decode zbMo_dayAfter 32 = .ok (.isub, 1) := by decide +kernel
theorem dMo_dayAfter_33 : decode zbMo_dayAfter 33 = .ok (.goto 5, 3) := by decide +kernel
theorem dMo_dayAfter_36 : decode zbMo_dayAfter 36 = .ok (.iload 4, 2) := by decide +kernel
theorem dMo_dayAfter_38 : decode zbMo_dayAfter 38 = .ok (.istore 4, 2) := by decide +kernel
theorem dMo_dayAfter_40 : decode zbMo_dayAfter 40 = .ok (.goto (-35), 3) := by decide +kernel
theorem dMo_dayAfter_43 : decode zbMo_dayAfter 43 = .ok (.iload_n 3, 1) := by decide +kernel
theorem dMo_dayAfter_44 : decode zbMo_dayAfter 44 = .ok (.ireturn, 1) := by decide +kernel
theorem dMo_put_0 : decode zbMo_put 0 = .ok (.aload_n 0, 1) := by decide +kernel
theorem dMo_put_1 : decode zbMo_put 1 = .ok (.getfield 54, 3) := by decide +kernel
theorem dMo_put_4 : decode zbMo_put 4 = .ok (.bipush 71, 2) := by decide +kernel
theorem dMo_put_6 : decode zbMo_put 6 = .ok (.iload_n 1, 1) := by decide +kernel
theorem dMo_put_7 : decode zbMo_put 7 = .ok (.imul, 1) := by decide +kernel
theorem dMo_put_8 : decode zbMo_put 8 = .ok (.iload_n 2, 1) := by decide +kernel
theorem dMo_put_9 : decode zbMo_put 9 = .ok (.iadd, 1) := by decide +kernel
theorem dMo_put_10 : decode zbMo_put 10 = .ok (.iaload, 1) := by decide +kernel
theorem dMo_put_11 : decode zbMo_put 11 = .ok (.istore 5, 2) := by decide +kernel
theorem dMo_put_13 : decode zbMo_put 13 = .ok (.aload_n 0, 1) := by decide +kernel
theorem dMo_put_14 : decode zbMo_put 14 = .ok (.aload_n 0, 1) := by decide +kernel
theorem dMo_put_15 : decode zbMo_put 15 = .ok (.getfield 109, 3) := by decide +kernel
theorem dMo_put_18 : decode zbMo_put 18 = .ok (.ifCond .ne 10, 3) := by decide +kernel
theorem dMo_put_21 : decode zbMo_put 21 = .ok (.iload 5, 2) := by decide +kernel
theorem dMo_put_23 : decode zbMo_put 23 = .ok (.bipush 8, 2) := by decide +kernel
theorem dMo_put_25 : decode zbMo_put 25 = .ok (.if_icmp .ne 7, 3) := by decide +kernel
theorem dMo_put_28 : decode zbMo_put 28 = .ok (.iconst 1, 1) := by decide +kernel
theorem dMo_put_29 : decode zbMo_put 29 = .ok (.goto 4, 3) := by decide +kernel
theorem dMo_put_32 : decode zbMo_put 32 = .ok (.iconst 0, 1) := by decide +kernel
theorem dMo_put_33 : decode zbMo_put 33 = .ok (.putfield 109, 3) := by decide +kernel
theorem dMo_put_36 : decode zbMo_put 36 = .ok (.aload_n 0, 1) := by decide +kernel
theorem dMo_put_37 : decode zbMo_put 37 = .ok (.getfield 109, 3) := by decide +kernel
theorem dMo_put_40 : decode zbMo_put 40 = .ok (.ifCond .ne 57, 3) := by decide +kernel
theorem dMo_put_43 : decode zbMo_put 43 = .ok (.aload_n 0, 1) := by decide +kernel
theorem dMo_put_44 : decode zbMo_put 44 = .ok (.getfield 54, 3) := by decide +kernel
theorem dMo_put_47 : decode zbMo_put 47 = .ok (.bipush 71, 2) := by decide +kernel
theorem dMo_put_49 : decode zbMo_put 49 = .ok (.iload_n 1, 1) := by decide +kernel
theorem dMo_put_50 : decode zbMo_put 50 = .ok (.imul, 1) := by decide +kernel
theorem dMo_put_51 : decode zbMo_put 51 = .ok (.iload_n 2, 1) := by decide +kernel
theorem dMo_put_52 : decode zbMo_put 52 = .ok (.iadd, 1) := by decide +kernel
theorem dMo_put_53 : decode zbMo_put 53 = .ok (.iconst 1, 1) := by decide +kernel
theorem dMo_put_54 : decode zbMo_put 54 = .ok (.iadd, 1) := by decide +kernel
theorem dMo_put_55 : decode zbMo_put 55 = .ok (.iconst 2, 1) := by decide +kernel
theorem dMo_put_56 : decode zbMo_put 56 = .ok (.iload 5, 2) := by decide +kernel
theorem dMo_put_58 : decode zbMo_put 58 = .ok (.imul, 1) := by decide +kernel
theorem dMo_put_59 : decode zbMo_put 59 = .ok (.iadd, 1) := by decide +kernel
theorem dMo_put_60 : decode zbMo_put 60 = .ok (.iload_n 3, 1) := by decide +kernel
theorem dMo_put_61 : decode zbMo_put 61 = .ok (.iastore, 1) := by decide +kernel
theorem dMo_put_62 : decode zbMo_put 62 = .ok (.aload_n 0, 1) := by decide +kernel
theorem dMo_put_63 : decode zbMo_put 63 = .ok (.getfield 54, 3) := by decide +kernel
theorem dMo_put_66 : decode zbMo_put 66 = .ok (.bipush 71, 2) := by decide +kernel
theorem dMo_put_68 : decode zbMo_put 68 = .ok (.iload_n 1, 1) := by decide +kernel
theorem dMo_put_69 : decode zbMo_put 69 = .ok (.imul, 1) := by decide +kernel
theorem dMo_put_70 : decode zbMo_put 70 = .ok (.iload_n 2, 1) := by decide +kernel
theorem dMo_put_71 : decode zbMo_put 71 = .ok (.iadd, 1) := by decide +kernel
theorem dMo_put_72 : decode zbMo_put 72 = .ok (.iconst 2, 1) := by decide +kernel
theorem dMo_put_73 : decode zbMo_put 73 = .ok (.iadd, 1) := by decide +kernel
theorem dMo_put_74 : decode zbMo_put 74 = .ok (.iconst 2, 1) := by decide +kernel
theorem dMo_put_75 : decode zbMo_put 75 = .ok (.iload 5, 2) := by decide +kernel
theorem dMo_put_77 : decode zbMo_put 77 = .ok (.imul, 1) := by decide +kernel
theorem dMo_put_78 : decode zbMo_put 78 = .ok (.iadd, 1) := by decide +kernel
theorem dMo_put_79 : decode zbMo_put 79 = .ok (.iload 4, 2) := by decide +kernel
theorem dMo_put_81 : decode zbMo_put 81 = .ok (.iastore, 1) := by decide +kernel
theorem dMo_put_82 : decode zbMo_put 82 = .ok (.aload_n 0, 1) := by decide +kernel
theorem dMo_put_83 : decode zbMo_put 83 = .ok (.getfield 54, 3) := by decide +kernel
theorem dMo_put_86 : decode zbMo_put 86 = .ok (.bipush 71, 2) := by decide +kernel
theorem dMo_put_88 : decode zbMo_put 88 = .ok (.iload_n 1, 1) := by decide +kernel
theorem dMo_put_89 : decode zbMo_put 89 = .ok (.imul, 1) := by decide +kernel
theorem dMo_put_90 : decode zbMo_put 90 = .ok (.iload_n 2, 1) := by decide +kernel
theorem dMo_put_91 : decode zbMo_put 91 = .ok (.iadd, 1) := by decide +kernel
theorem dMo_put_92 : decode zbMo_put 92 = .ok (.iload 5, 2) := by decide +kernel
theorem dMo_put_94 : decode zbMo_put 94 = .ok (.iconst 1, 1) := by decide +kernel
theorem dMo_put_95 : decode zbMo_put 95 = .ok (.iadd, 1) := by decide +kernel
theorem dMo_put_96 : decode zbMo_put 96 = .ok (.iastore, 1) := by decide +kernel
theorem dMo_put_97 : decode zbMo_put 97 = .ok (.return_, 1) := by decide +kernel
theorem dMo_takeOut_0 : decode zbMo_takeOut 0 = .ok (.aload_n 0, 1) := by decide +kernel
theorem dMo_takeOut_1 : decode zbMo_takeOut 1 = .ok (.getfield 54, 3) := by decide +kernel
theorem dMo_takeOut_4 : decode zbMo_takeOut 4 = .ok (.bipush 71, 2) := by decide +kernel
theorem dMo_takeOut_6 : decode zbMo_takeOut 6 = .ok (.iload_n 1, 1) := by decide +kernel
theorem dMo_takeOut_7 : decode zbMo_takeOut 7 = .ok (.imul, 1) := by decide +kernel
theorem dMo_takeOut_8 : decode zbMo_takeOut 8 = .ok (.iload_n 2, 1) := by decide +kernel
theorem dMo_takeOut_9 : decode zbMo_takeOut 9 = .ok (.iadd, 1) := by decide +kernel
theorem dMo_takeOut_10 : decode zbMo_takeOut 10 = .ok (.iaload, 1) := by decide +kernel
theorem dMo_takeOut_11 : decode zbMo_takeOut 11 = .ok (.iconst 1, 1) := by decide +kernel
theorem dMo_takeOut_12 : decode zbMo_takeOut 12 = .ok (.isub, 1) := by decide +kernel
theorem dMo_takeOut_13 : decode zbMo_takeOut 13 = .ok (.istore 4, 2) := by decide +kernel
theorem dMo_takeOut_15 : decode zbMo_takeOut 15 = .ok (.aload_n 0, 1) := by decide +kernel
theorem dMo_takeOut_16 : decode zbMo_takeOut 16 = .ok (.getfield 54, 3) := by decide +kernel
theorem dMo_takeOut_19 : decode zbMo_takeOut 19 = .ok (.bipush 71, 2) := by decide +kernel
theorem dMo_takeOut_21 : decode zbMo_takeOut 21 = .ok (.iload_n 1, 1) := by decide +kernel
theorem dMo_takeOut_22 : decode zbMo_takeOut 22 = .ok (.imul, 1) := by decide +kernel
theorem dMo_takeOut_23 : decode zbMo_takeOut 23 = .ok (.iload_n 2, 1) := by decide +kernel
theorem dMo_takeOut_24 : decode zbMo_takeOut 24 = .ok (.iadd, 1) := by decide +kernel
theorem dMo_takeOut_25 : decode zbMo_takeOut 25 = .ok (.iload 4, 2) := by decide +kernel
theorem dMo_takeOut_27 : decode zbMo_takeOut 27 = .ok (.iastore, 1) := by decide +kernel
theorem dMo_takeOut_28 : decode zbMo_takeOut 28 = .ok (.iconst 2, 1) := by decide +kernel
theorem dMo_takeOut_29 : decode zbMo_takeOut 29 = .ok (.iload_n 3, 1) := by decide +kernel
theorem dMo_takeOut_30 : decode zbMo_takeOut 30 = .ok (.imul, 1) := by decide +kernel
theorem dMo_takeOut_31 : decode zbMo_takeOut 31 = .ok (.istore 5, 2) := by decide +kernel
theorem dMo_takeOut_33 : decode zbMo_takeOut 33 = .ok (.iload 5, 2) := by decide +kernel
theorem dMo_takeOut_35 : decode zbMo_takeOut 35 = .ok (.iconst 2, 1) := by decide +kernel
theorem dMo_takeOut_36 : decode zbMo_takeOut 36 = .ok (.iload 4, 2) := by decide +kernel
theorem dMo_takeOut_38 : decode zbMo_takeOut 38 = .ok (.imul, 1) := by decide +kernel
theorem dMo_takeOut_39 : decode zbMo_takeOut 39 = .ok (.if_icmp .ge 41, 3) := by decide +kernel
theorem dMo_takeOut_42 : decode zbMo_takeOut 42 = .ok (.aload_n 0, 1) := by decide +kernel
theorem dMo_takeOut_43 : decode zbMo_takeOut 43 = .ok (.getfield 54, 3) := by decide +kernel
theorem dMo_takeOut_46 : decode zbMo_takeOut 46 = .ok (.bipush 71, 2) := by decide +kernel
theorem dMo_takeOut_48 : decode zbMo_takeOut 48 = .ok (.iload_n 1, 1) := by decide +kernel
theorem dMo_takeOut_49 : decode zbMo_takeOut 49 = .ok (.imul, 1) := by decide +kernel
theorem dMo_takeOut_50 : decode zbMo_takeOut 50 = .ok (.iload_n 2, 1) := by decide +kernel
theorem dMo_takeOut_51 : decode zbMo_takeOut 51 = .ok (.iadd, 1) := by decide +kernel
theorem dMo_takeOut_52 : decode zbMo_takeOut 52 = .ok (.iconst 1, 1) := by decide +kernel
theorem dMo_takeOut_53 : decode zbMo_takeOut 53 = .ok (.iadd, 1) := by decide +kernel
theorem dMo_takeOut_54 : decode zbMo_takeOut 54 = .ok (.iload 5, 2) := by decide +kernel
theorem dMo_takeOut_56 : decode zbMo_takeOut 56 = .ok (.iadd, 1) := by decide +kernel
theorem dMo_takeOut_57 : decode zbMo_takeOut 57 = .ok (.aload_n 0, 1) := by decide +kernel
theorem dMo_takeOut_58 : decode zbMo_takeOut 58 = .ok (.getfield 54, 3) := by decide +kernel
theorem dMo_takeOut_61 : decode zbMo_takeOut 61 = .ok (.bipush 71, 2) := by decide +kernel
theorem dMo_takeOut_63 : decode zbMo_takeOut 63 = .ok (.iload_n 1, 1) := by decide +kernel
theorem dMo_takeOut_64 : decode zbMo_takeOut 64 = .ok (.imul, 1) := by decide +kernel
theorem dMo_takeOut_65 : decode zbMo_takeOut 65 = .ok (.iload_n 2, 1) := by decide +kernel
theorem dMo_takeOut_66 : decode zbMo_takeOut 66 = .ok (.iadd, 1) := by decide +kernel
theorem dMo_takeOut_67 : decode zbMo_takeOut 67 = .ok (.iconst 3, 1) := by decide +kernel
theorem dMo_takeOut_68 : decode zbMo_takeOut 68 = .ok (.iadd, 1) := by decide +kernel
theorem dMo_takeOut_69 : decode zbMo_takeOut 69 = .ok (.iload 5, 2) := by decide +kernel
theorem dMo_takeOut_71 : decode zbMo_takeOut 71 = .ok (.iadd, 1) := by decide +kernel
theorem dMo_takeOut_72 : decode zbMo_takeOut 72 = .ok (.iaload, 1) := by decide +kernel
theorem dMo_takeOut_73 : decode zbMo_takeOut 73 = .ok (.iastore, 1) := by decide +kernel
theorem dMo_takeOut_74 : decode zbMo_takeOut 74 = .ok (.iinc 5 1, 3) := by decide +kernel
theorem dMo_takeOut_77 : decode zbMo_takeOut 77 = .ok (.goto (-44), 3) := by decide +kernel
theorem dMo_takeOut_80 : decode zbMo_takeOut 80 = .ok (.return_, 1) := by decide +kernel
theorem dMo_clauseAt_0 : decode zbMo_clauseAt 0 = .ok (.aload_n 0, 1) := by decide +kernel
theorem dMo_clauseAt_1 : decode zbMo_clauseAt 1 = .ok (.getfield 54, 3) := by decide +kernel
theorem dMo_clauseAt_4 : decode zbMo_clauseAt 4 = .ok (.bipush 71, 2) := by decide +kernel
theorem dMo_clauseAt_6 : decode zbMo_clauseAt 6 = .ok (.iload_n 1, 1) := by decide +kernel
theorem dMo_clauseAt_7 : decode zbMo_clauseAt 7 = .ok (.imul, 1) := by decide +kernel
theorem dMo_clauseAt_8 : decode zbMo_clauseAt 8 = .ok (.iload_n 2, 1) := by decide +kernel
theorem dMo_clauseAt_9 : decode zbMo_clauseAt 9 = .ok (.iadd, 1) := by decide +kernel
theorem dMo_clauseAt_10 : decode zbMo_clauseAt 10 = .ok (.iconst 1, 1) := by decide +kernel
theorem dMo_clauseAt_11 : decode zbMo_clauseAt 11 = .ok (.iadd, 1) := by decide +kernel
theorem dMo_clauseAt_12 : decode zbMo_clauseAt 12 = .ok (.iconst 2, 1) := by decide +kernel
theorem dMo_clauseAt_13 : decode zbMo_clauseAt 13 = .ok (.iload_n 3, 1) := by decide +kernel
theorem dMo_clauseAt_14 : decode zbMo_clauseAt 14 = .ok (.imul, 1) := by decide +kernel
theorem dMo_clauseAt_15 : decode zbMo_clauseAt 15 = .ok (.iadd, 1) := by decide +kernel
theorem dMo_clauseAt_16 : decode zbMo_clauseAt 16 = .ok (.iaload, 1) := by decide +kernel
theorem dMo_clauseAt_17 : decode zbMo_clauseAt 17 = .ok (.ireturn, 1) := by decide +kernel
theorem dMo_dayAt_0 : decode zbMo_dayAt 0 = .ok (.aload_n 0, 1) := by decide +kernel
theorem dMo_dayAt_1 : decode zbMo_dayAt 1 = .ok (.getfield 54, 3) := by decide +kernel
theorem dMo_dayAt_4 : decode zbMo_dayAt 4 = .ok (.bipush 71, 2) := by decide +kernel
theorem dMo_dayAt_6 : decode zbMo_dayAt 6 = .ok (.iload_n 1, 1) := by decide +kernel
theorem dMo_dayAt_7 : decode zbMo_dayAt 7 = .ok (.imul, 1) := by decide +kernel
theorem dMo_dayAt_8 : decode zbMo_dayAt 8 = .ok (.iload_n 2, 1) := by decide +kernel
theorem dMo_dayAt_9 : decode zbMo_dayAt 9 = .ok (.iadd, 1) := by decide +kernel
theorem dMo_dayAt_10 : decode zbMo_dayAt 10 = .ok (.iconst 2, 1) := by decide +kernel
theorem dMo_dayAt_11 : decode zbMo_dayAt 11 = .ok (.iadd, 1) := by decide +kernel
theorem dMo_dayAt_12 : decode zbMo_dayAt 12 = .ok (.iconst 2, 1) := by decide +kernel
theorem dMo_dayAt_13 : decode zbMo_dayAt 13 = .ok (.iload_n 3, 1) := by decide +kernel
theorem dMo_dayAt_14 : decode zbMo_dayAt 14 = .ok (.imul, 1) := by decide +kernel
theorem dMo_dayAt_15 : decode zbMo_dayAt 15 = .ok (.iadd, 1) := by decide +kernel
theorem dMo_dayAt_16 : decode zbMo_dayAt 16 = .ok (.iaload, 1) := by decide +kernel
theorem dMo_dayAt_17 : decode zbMo_dayAt 17 = .ok (.ireturn, 1) := by decide +kernel
theorem dMo_isOf_0 : decode zbMo_isOf 0 = .ok (.aload_n 0, 1) := by decide +kernel
theorem dMo_isOf_1 : decode zbMo_isOf 1 = .ok (.getfield 45, 3) := by decide +kernel
theorem dMo_isOf_4 : decode zbMo_isOf 4 = .ok (.bipush 10, 2) := by decide +kernel
theorem dMo_isOf_6 : decode zbMo_isOf 6 = .ok (.aload_n 0, 1) := by decide +kernel
theorem dMo_isOf_7 : decode zbMo_isOf 7 = .ok (.getfield 112, 3) := by decide +kernel
theorem dMo_isOf_10 : decode zbMo_isOf 10 = .ok (.imul, 1) := by decide +kernel
theorem dMo_isOf_11 : decode zbMo_isOf 11 = .ok (.iload_n 1, 1) := by decide +kernel
theorem dMo_isOf_12 : decode zbMo_isOf 12 = .ok (.iadd, 1) := by decide +kernel
theorem dMo_isOf_13 : decode zbMo_isOf 13 = .ok (.iaload, 1) := by decide +kernel
theorem dMo_isOf_14 : decode zbMo_isOf 14 = .ok (.iload_n 2, 1) := by decide +kernel
theorem dMo_isOf_15 : decode zbMo_isOf 15 = .ok (.if_icmp .ne 25, 3) := by decide +kernel
theorem dMo_isOf_18 : decode zbMo_isOf 18 = .ok (.aload_n 0, 1) := by decide +kernel
theorem dMo_isOf_19 : decode zbMo_isOf 19 = .ok (.getfield 48, 3) := by decide +kernel
theorem dMo_isOf_22 : decode zbMo_isOf 22 = .ok (.bipush 10, 2) := by decide +kernel
theorem dMo_isOf_24 : decode zbMo_isOf 24 = .ok (.aload_n 0, 1) := by decide +kernel
theorem dMo_isOf_25 : decode zbMo_isOf 25 = .ok (.getfield 112, 3) := by decide +kernel
theorem dMo_isOf_28 : decode zbMo_isOf 28 = .ok (.imul, 1) := by decide +kernel
theorem dMo_isOf_29 : decode zbMo_isOf 29 = .ok (.iload_n 1, 1) := by decide +kernel
theorem dMo_isOf_30 : decode zbMo_isOf 30 = .ok (.iadd, 1) := by decide +kernel
theorem dMo_isOf_31 : decode zbMo_isOf 31 = .ok (.iaload, 1) := by decide +kernel
theorem dMo_isOf_32 : decode zbMo_isOf 32 = .ok (.iload_n 3, 1) := by decide +kernel
theorem dMo_isOf_33 : decode zbMo_isOf 33 = .ok (.if_icmp .ne 7, 3) := by decide +kernel
theorem dMo_isOf_36 : decode zbMo_isOf 36 = .ok (.iconst 1, 1) := by decide +kernel
theorem dMo_isOf_37 : decode zbMo_isOf 37 = .ok (.goto 4, 3) := by decide +kernel
theorem dMo_isOf_40 : decode zbMo_isOf 40 = .ok (.iconst 0, 1) := by decide +kernel
theorem dMo_isOf_41 : decode zbMo_isOf 41 = .ok (.ireturn, 1) := by decide +kernel
theorem dMo_first_0 : decode zbMo_first 0 = .ok (.iconst (-1), 1) := by decide +kernel
theorem dMo_first_1 : decode zbMo_first 1 = .ok (.istore 5, 2) := by decide +kernel
theorem dMo_first_3 : decode zbMo_first 3 = .ok (.iconst 0, 1) := by decide +kernel
theorem dMo_first_4 : decode zbMo_first 4 = .ok (.istore 6, 2) := by decide +kernel
theorem dMo_first_6 : decode zbMo_first 6 = .ok (.iload 6, 2) := by decide +kernel
theorem dMo_first_8 : decode zbMo_first 8 = .ok (.aload_n 0, 1) := by decide +kernel
theorem dMo_first_9 : decode zbMo_first 9 = .ok (.getfield 54, 3) := by decide +kernel
theorem dMo_first_12 : decode zbMo_first 12 = .ok (.bipush 71, 2) := by decide +kernel
theorem dMo_first_14 : decode zbMo_first 14 = .ok (.iload_n 1, 1) := by decide +kernel
theorem dMo_first_15 : decode zbMo_first 15 = .ok (.imul, 1) := by decide +kernel
theorem dMo_first_16 : decode zbMo_first 16 = .ok (.iload_n 2, 1) := by decide +kernel
theorem dMo_first_17 : decode zbMo_first 17 = .ok (.iadd, 1) := by decide +kernel
theorem dMo_first_18 : decode zbMo_first 18 = .ok (.iaload, 1) := by decide +kernel
theorem dMo_first_19 : decode zbMo_first 19 = .ok (.if_icmp .ge 100, 3) := by decide +kernel
theorem dMo_first_22 : decode zbMo_first 22 = .ok (.aload_n 0, 1) := by decide +kernel
theorem dMo_first_23 : decode zbMo_first 23 = .ok (.aload_n 0, 1) := by decide +kernel
theorem dMo_first_24 : decode zbMo_first 24 = .ok (.iload_n 1, 1) := by decide +kernel
theorem dMo_first_25 : decode zbMo_first 25 = .ok (.iload_n 2, 1) := by decide +kernel
theorem dMo_first_26 : decode zbMo_first 26 = .ok (.iload 6, 2) := by decide +kernel
theorem dMo_first_28 : decode zbMo_first 28 = .ok (.invokevirtual 115, 3) := by decide +kernel
theorem dMo_first_31 : decode zbMo_first 31 = .ok (.iload_n 3, 1) := by decide +kernel
theorem dMo_first_32 : decode zbMo_first 32 = .ok (.iload 4, 2) := by decide +kernel
theorem dMo_first_34 : decode zbMo_first 34 = .ok (.invokevirtual 119, 3) := by decide +kernel
theorem dMo_first_37 : decode zbMo_first 37 = .ok (.istore 7, 2) := by decide +kernel
theorem dMo_first_39 : decode zbMo_first 39 = .ok (.iload 5, 2) := by decide +kernel
theorem dMo_first_41 : decode zbMo_first 41 = .ok (.ifCond .lt 46, 3) := by decide +kernel
theorem dMo_first_44 : decode zbMo_first 44 = .ok (.bipush 100, 2) := by decide +kernel
theorem dMo_first_46 : decode zbMo_first 46 = .ok (.aload_n 0, 1) := by decide +kernel
theorem dMo_first_47 : decode zbMo_first 47 = .ok (.iload_n 1, 1) := by decide +kernel
theorem dMo_first_48 : decode zbMo_first 48 = .ok (.iload_n 2, 1) := by decide +kernel
theorem dMo_first_49 : decode zbMo_first 49 = .ok (.iload 6, 2) := by decide +kernel
theorem dMo_first_51 : decode zbMo_first 51 = .ok (.invokevirtual 122, 3) := by decide +kernel
theorem dMo_first_54 : decode zbMo_first 54 = .ok (.imul, 1) := by decide +kernel
theorem dMo_first_55 : decode zbMo_first 55 = .ok (.aload_n 0, 1) := by decide +kernel
theorem dMo_first_56 : decode zbMo_first 56 = .ok (.iload_n 1, 1) := by decide +kernel
theorem dMo_first_57 : decode zbMo_first 57 = .ok (.iload_n 2, 1) := by decide +kernel
theorem dMo_first_58 : decode zbMo_first 58 = .ok (.iload 6, 2) := by decide +kernel
theorem dMo_first_60 : decode zbMo_first 60 = .ok (.invokevirtual 115, 3) := by decide +kernel
theorem dMo_first_63 : decode zbMo_first 63 = .ok (.iadd, 1) := by decide +kernel
theorem dMo_first_64 : decode zbMo_first 64 = .ok (.bipush 100, 2) := by decide +kernel
theorem dMo_first_66 : decode zbMo_first 66 = .ok (.aload_n 0, 1) := by decide +kernel
theorem dMo_first_67 : decode zbMo_first 67 = .ok (.iload_n 1, 1) := by decide +kernel
theorem dMo_first_68 : decode zbMo_first 68 = .ok (.iload_n 2, 1) := by decide +kernel
theorem dMo_first_69 : decode zbMo_first 69 = .ok (.iload 5, 2) := by decide +kernel
theorem dMo_first_71 : decode zbMo_first 71 = .ok (.invokevirtual 122, 3) := by decide +kernel
theorem dMo_first_74 : decode zbMo_first 74 = .ok (.imul, 1) := by decide +kernel
theorem dMo_first_75 : decode zbMo_first 75 = .ok (.aload_n 0, 1) := by decide +kernel
theorem dMo_first_76 : decode zbMo_first 76 = .ok (.iload_n 1, 1) := by decide +kernel
theorem dMo_first_77 : decode zbMo_first 77 = .ok (.iload_n 2, 1) := by decide +kernel
theorem dMo_first_78 : decode zbMo_first 78 = .ok (.iload 5, 2) := by decide +kernel
theorem dMo_first_80 : decode zbMo_first 80 = .ok (.invokevirtual 115, 3) := by decide +kernel
theorem dMo_first_83 : decode zbMo_first 83 = .ok (.iadd, 1) := by decide +kernel
theorem dMo_first_84 : decode zbMo_first 84 = .ok (.if_icmp .ge 7, 3) := by decide +kernel
theorem dMo_first_87 : decode zbMo_first 87 = .ok (.iconst 1, 1) := by decide +kernel
theorem dMo_first_88 : decode zbMo_first 88 = .ok (.goto 4, 3) := by decide +kernel
theorem dMo_first_91 : decode zbMo_first 91 = .ok (.iconst 0, 1) := by decide +kernel
theorem dMo_first_92 : decode zbMo_first 92 = .ok (.istore 8, 2) := by decide +kernel
theorem dMo_first_94 : decode zbMo_first 94 = .ok (.iload 7, 2) := by decide +kernel
theorem dMo_first_96 : decode zbMo_first 96 = .ok (.ifCond .eq 13, 3) := by decide +kernel
theorem dMo_first_99 : decode zbMo_first 99 = .ok (.iload 8, 2) := by decide +kernel
theorem dMo_first_101 : decode zbMo_first 101 = .ok (.ifCond .eq 8, 3) := by decide +kernel
theorem dMo_first_104 : decode zbMo_first 104 = .ok (.iload 6, 2) := by decide +kernel
theorem dMo_first_106 : decode zbMo_first 106 = .ok (.goto 5, 3) := by decide +kernel
theorem dMo_first_109 : decode zbMo_first 109 = .ok (.iload 5, 2) := by decide +kernel
theorem dMo_first_111 : decode zbMo_first 111 = .ok (.istore 5, 2) := by decide +kernel
theorem dMo_first_113 : decode zbMo_first 113 = .ok (.iinc 6 1, 3) := by decide +kernel
theorem dMo_first_116 : decode zbMo_first 116 = .ok (.goto (-110), 3) := by decide +kernel
theorem dMo_first_119 : decode zbMo_first 119 = .ok (.iload 5, 2) := by decide +kernel
theorem dMo_first_121 : decode zbMo_first 121 = .ok (.ireturn, 1) := by decide +kernel
theorem dMo_await_0 : decode zbMo_await 0 = .ok (.iconst 0, 1) := by decide +kernel
theorem dMo_await_1 : decode zbMo_await 1 = .ok (.istore 4, 2) := by decide +kernel
theorem dMo_await_3 : decode zbMo_await 3 = .ok (.iload 4, 2) := by decide +kernel
theorem dMo_await_5 : decode zbMo_await 5 = .ok (.aload_n 0, 1) := by decide +kernel
theorem dMo_await_6 : decode zbMo_await 6 = .ok (.getfield 125, 3) := by decide +kernel
theorem dMo_await_9 : decode zbMo_await 9 = .ok (.if_icmp .ge 96, 3) := by decide +kernel
theorem dMo_await_12 : decode zbMo_await 12 = .ok (.bipush 10, 2) := by decide +kernel
theorem dMo_await_14 : decode zbMo_await 14 = .ok (.aload_n 0, 1) := by decide +kernel
theorem dMo_await_15 : decode zbMo_await 15 = .ok (.getfield 112, 3) := by decide +kernel
theorem dMo_await_18 : decode zbMo_await 18 = .ok (.imul, 1) := by decide +kernel
theorem dMo_await_19 : decode zbMo_await 19 = .ok (.iload 4, 2) := by decide +kernel
theorem dMo_await_21 : decode zbMo_await 21 = .ok (.iadd, 1) := by decide +kernel
theorem dMo_await_22 : decode zbMo_await 22 = .ok (.istore 5, 2) := by decide +kernel
theorem dMo_await_24 : decode zbMo_await 24 = .ok (.aload_n 0, 1) := by decide +kernel
theorem dMo_await_25 : decode zbMo_await 25 = .ok (.getfield 21, 3) := by decide +kernel
theorem dMo_await_28 : decode zbMo_await 28 = .ok (.iload 5, 2) := by decide +kernel
theorem dMo_await_30 : decode zbMo_await 30 = .ok (.iaload, 1) := by decide +kernel
theorem dMo_await_31 : decode zbMo_await 31 = .ok (.iload_n 1, 1) := by decide +kernel
theorem dMo_await_32 : decode zbMo_await 32 = .ok (.if_icmp .ne 38, 3) := by decide +kernel
theorem dMo_await_35 : decode zbMo_await 35 = .ok (.iload_n 1, 1) := by decide +kernel
theorem dMo_await_36 : decode zbMo_await 36 = .ok (.ifCond .eq 14, 3) := by decide +kernel
theorem dMo_await_39 : decode zbMo_await 39 = .ok (.aload_n 0, 1) := by decide +kernel
theorem dMo_await_40 : decode zbMo_await 40 = .ok (.getfield 24, 3) := by decide +kernel
theorem dMo_await_43 : decode zbMo_await 43 = .ok (.iload 5, 2) := by decide +kernel
theorem dMo_await_45 : decode zbMo_await 45 = .ok (.iaload, 1) := by decide +kernel
theorem dMo_await_46 : decode zbMo_await 46 = .ok (.iload_n 2, 1) := by decide +kernel
theorem dMo_await_47 : decode zbMo_await 47 = .ok (.if_icmp .ne 23, 3) := by decide +kernel
theorem dMo_await_50 : decode zbMo_await 50 = .ok (.iload_n 1, 1) := by decide +kernel
theorem dMo_await_51 : decode zbMo_await 51 = .ok (.iconst 1, 1) := by decide +kernel
theorem dMo_await_52 : decode zbMo_await 52 = .ok (.if_icmp .ne 14, 3) := by decide +kernel
theorem dMo_await_55 : decode zbMo_await 55 = .ok (.aload_n 0, 1) := by decide +kernel
theorem dMo_await_56 : decode zbMo_await 56 = .ok (.getfield 27, 3) := by decide +kernel
theorem dMo_await_59 : decode zbMo_await 59 = .ok (.iload 5, 2) := by decide +kernel
theorem dMo_await_61 : decode zbMo_await 61 = .ok (.iaload, 1) := by decide +kernel
theorem dMo_await_62 : decode zbMo_await 62 = .ok (.iload_n 3, 1) := by decide +kernel
theorem dMo_await_63 : decode zbMo_await 63 = .ok (.if_icmp .ne 7, 3) := by decide +kernel
theorem dMo_await_66 : decode zbMo_await 66 = .ok (.iconst 1, 1) := by decide +kernel
theorem dMo_await_67 : decode zbMo_await 67 = .ok (.goto 4, 3) := by decide +kernel
theorem dMo_await_70 : decode zbMo_await 70 = .ok (.iconst 0, 1) := by decide +kernel
theorem dMo_await_71 : decode zbMo_await 71 = .ok (.istore 6, 2) := by decide +kernel
theorem dMo_await_73 : decode zbMo_await 73 = .ok (.iload 6, 2) := by decide +kernel
theorem dMo_await_75 : decode zbMo_await 75 = .ok (.ifCond .eq 24, 3) := by decide +kernel
theorem dMo_await_78 : decode zbMo_await 78 = .ok (.aload_n 0, 1) := by decide +kernel
theorem dMo_await_79 : decode zbMo_await 79 = .ok (.getfield 57, 3) := by decide +kernel
theorem dMo_await_82 : decode zbMo_await 82 = .ok (.aload_n 0, 1) := by decide +kernel
theorem dMo_await_83 : decode zbMo_await 83 = .ok (.getfield 128, 3) := by decide +kernel
theorem dMo_await_86 : decode zbMo_await 86 = .ok (.iload 4, 2) := by decide +kernel
theorem dMo_await_88 : decode zbMo_await 88 = .ok (.iastore, 1) := by decide +kernel
theorem dMo_await_89 : decode zbMo_await 89 = .ok (.aload_n 0, 1) := by decide +kernel
theorem dMo_await_90 : decode zbMo_await 90 = .ok (.aload_n 0, 1) := by decide +kernel
theorem dMo_await_91 : decode zbMo_await 91 = .ok (.getfield 128, 3) := by decide +kernel
theorem dMo_await_94 : decode zbMo_await 94 = .ok (.iconst 1, 1) := by decide +kernel
theorem dMo_await_95 : decode zbMo_await 95 = .ok (.iadd, 1) := by decide +kernel
theorem dMo_await_96 : decode zbMo_await 96 = .ok (.putfield 128, 3) := by decide +kernel
theorem dMo_await_99 : decode zbMo_await 99 = .ok (.iinc 4 1, 3) := by decide +kernel
theorem dMo_await_102 : decode zbMo_await 102 = .ok (.goto (-99), 3) := by decide +kernel
theorem dMo_await_105 : decode zbMo_await 105 = .ok (.return_, 1) := by decide +kernel
theorem dMo_breach_0 : decode zbMo_breach 0 = .ok (.bipush 71, 2) := by decide +kernel
theorem dMo_breach_2 : decode zbMo_breach 2 = .ok (.iload_n 1, 1) := by decide +kernel
theorem dMo_breach_3 : decode zbMo_breach 3 = .ok (.imul, 1) := by decide +kernel
theorem dMo_breach_4 : decode zbMo_breach 4 = .ok (.bipush 61, 2) := by decide +kernel
theorem dMo_breach_6 : decode zbMo_breach 6 = .ok (.iadd, 1) := by decide +kernel
theorem dMo_breach_7 : decode zbMo_breach 7 = .ok (.iload_n 2, 1) := by decide +kernel
theorem dMo_breach_8 : decode zbMo_breach 8 = .ok (.iadd, 1) := by decide +kernel
theorem dMo_breach_9 : decode zbMo_breach 9 = .ok (.istore_n 3, 1) := by decide +kernel
theorem dMo_breach_10 : decode zbMo_breach 10 = .ok (.aload_n 0, 1) := by decide +kernel
theorem dMo_breach_11 : decode zbMo_breach 11 = .ok (.getfield 54, 3) := by decide +kernel
theorem dMo_breach_14 : decode zbMo_breach 14 = .ok (.iload_n 3, 1) := by decide +kernel
theorem dMo_breach_15 : decode zbMo_breach 15 = .ok (.aload_n 0, 1) := by decide +kernel
theorem dMo_breach_16 : decode zbMo_breach 16 = .ok (.getfield 54, 3) := by decide +kernel
theorem dMo_breach_19 : decode zbMo_breach 19 = .ok (.iload_n 3, 1) := by decide +kernel
theorem dMo_breach_20 : decode zbMo_breach 20 = .ok (.iaload, 1) := by decide +kernel
theorem dMo_breach_21 : decode zbMo_breach 21 = .ok (.iconst 1, 1) := by decide +kernel
theorem dMo_breach_22 : decode zbMo_breach 22 = .ok (.iadd, 1) := by decide +kernel
theorem dMo_breach_23 : decode zbMo_breach 23 = .ok (.iastore, 1) := by decide +kernel
theorem dMo_breach_24 : decode zbMo_breach 24 = .ok (.aload_n 0, 1) := by decide +kernel
theorem dMo_breach_25 : decode zbMo_breach 25 = .ok (.aload_n 0, 1) := by decide +kernel
theorem dMo_breach_26 : decode zbMo_breach 26 = .ok (.getfield 131, 3) := by decide +kernel
theorem dMo_breach_29 : decode zbMo_breach 29 = .ok (.iconst 1, 1) := by decide +kernel
theorem dMo_breach_30 : decode zbMo_breach 30 = .ok (.iadd, 1) := by decide +kernel
theorem dMo_breach_31 : decode zbMo_breach 31 = .ok (.putfield 131, 3) := by decide +kernel
theorem dMo_breach_34 : decode zbMo_breach 34 = .ok (.aload_n 0, 1) := by decide +kernel
theorem dMo_breach_35 : decode zbMo_breach 35 = .ok (.aload_n 0, 1) := by decide +kernel
theorem dMo_breach_36 : decode zbMo_breach 36 = .ok (.getfield 134, 3) := by decide +kernel
theorem dMo_breach_39 : decode zbMo_breach 39 = .ok (.iconst 1, 1) := by decide +kernel
theorem dMo_breach_40 : decode zbMo_breach 40 = .ok (.aload_n 0, 1) := by decide +kernel
theorem dMo_breach_41 : decode zbMo_breach 41 = .ok (.getfield 45, 3) := by decide +kernel
theorem dMo_breach_44 : decode zbMo_breach 44 = .ok (.bipush 10, 2) := by decide +kernel
theorem dMo_breach_46 : decode zbMo_breach 46 = .ok (.aload_n 0, 1) := by decide +kernel
theorem dMo_breach_47 : decode zbMo_breach 47 = .ok (.getfield 112, 3) := by decide +kernel
theorem dMo_breach_50 : decode zbMo_breach 50 = .ok (.imul, 1) := by decide +kernel
theorem dMo_breach_51 : decode zbMo_breach 51 = .ok (.iload_n 2, 1) := by decide +kernel
theorem dMo_breach_52 : decode zbMo_breach 52 = .ok (.iadd, 1) := by decide +kernel
theorem dMo_breach_53 : decode zbMo_breach 53 = .ok (.iaload, 1) := by decide +kernel
theorem dMo_breach_54 : decode zbMo_breach 54 = .ok (.ishl, 1) := by decide +kernel
theorem dMo_breach_55 : decode zbMo_breach 55 = .ok (.ior, 1) := by decide +kernel
theorem dMo_breach_56 : decode zbMo_breach 56 = .ok (.putfield 134, 3) := by decide +kernel
theorem dMo_breach_59 : decode zbMo_breach 59 = .ok (.aload_n 0, 1) := by decide +kernel
theorem dMo_breach_60 : decode zbMo_breach 60 = .ok (.iconst 2, 1) := by decide +kernel
theorem dMo_breach_61 : decode zbMo_breach 61 = .ok (.iload_n 2, 1) := by decide +kernel
theorem dMo_breach_62 : decode zbMo_breach 62 = .ok (.iconst 0, 1) := by decide +kernel
theorem dMo_breach_63 : decode zbMo_breach 63 = .ok (.invokevirtual 137, 3) := by decide +kernel
theorem dMo_breach_66 : decode zbMo_breach 66 = .ok (.return_, 1) := by decide +kernel
theorem dMo_act_0 : decode zbMo_act 0 = .ok (.bipush 10, 2) := by decide +kernel
theorem dMo_act_2 : decode zbMo_act 2 = .ok (.aload_n 0, 1) := by decide +kernel
theorem dMo_act_3 : decode zbMo_act 3 = .ok (.getfield 112, 3) := by decide +kernel
theorem dMo_act_6 : decode zbMo_act 6 = .ok (.imul, 1) := by decide +kernel
theorem dMo_act_7 : decode zbMo_act 7 = .ok (.iload_n 2, 1) := by decide +kernel
theorem dMo_act_8 : decode zbMo_act 8 = .ok (.iadd, 1) := by decide +kernel
theorem dMo_act_9 : decode zbMo_act 9 = .ok (.istore_n 3, 1) := by decide +kernel
theorem dMo_act_10 : decode zbMo_act 10 = .ok (.aload_n 0, 1) := by decide +kernel
theorem dMo_act_11 : decode zbMo_act 11 = .ok (.getfield 54, 3) := by decide +kernel
theorem dMo_act_14 : decode zbMo_act 14 = .ok (.bipush 71, 2) := by decide +kernel
theorem dMo_act_16 : decode zbMo_act 16 = .ok (.iload_n 1, 1) := by decide +kernel
theorem dMo_act_17 : decode zbMo_act 17 = .ok (.imul, 1) := by decide +kernel
theorem dMo_act_18 : decode zbMo_act 18 = .ok (.iaload, 1) := by decide +kernel
theorem dMo_act_19 : decode zbMo_act 19 = .ok (.istore 4, 2) := by decide +kernel
theorem dMo_act_21 : decode zbMo_act 21 = .ok (.aload_n 0, 1) := by decide +kernel
theorem dMo_act_22 : decode zbMo_act 22 = .ok (.getfield 42, 3) := by decide +kernel
theorem dMo_act_25 : decode zbMo_act 25 = .ok (.iload_n 3, 1) := by decide +kernel
theorem dMo_act_26 : decode zbMo_act 26 = .ok (.iaload, 1) := by decide +kernel
theorem dMo_act_27 : decode zbMo_act 27 = .ok (.istore 5, 2) := by decide +kernel
theorem dMo_act_29 : decode zbMo_act 29 = .ok (.iload 5, 2) := by decide +kernel
theorem dMo_act_31 : decode zbMo_act 31 = .ok (.ifCond .ne 25, 3) := by decide +kernel
theorem dMo_act_34 : decode zbMo_act 34 = .ok (.aload_n 0, 1) := by decide +kernel
theorem dMo_act_35 : decode zbMo_act 35 = .ok (.iload_n 1, 1) := by decide +kernel
theorem dMo_act_36 : decode zbMo_act 36 = .ok (.iconst 1, 1) := by decide +kernel
theorem dMo_act_37 : decode zbMo_act 37 = .ok (.iload_n 2, 1) := by decide +kernel
theorem dMo_act_38 : decode zbMo_act 38 = .ok (.aload_n 0, 1) := by decide +kernel
theorem dMo_act_39 : decode zbMo_act 39 = .ok (.iload 4, 2) := by decide +kernel
theorem dMo_act_41 : decode zbMo_act 41 = .ok (.aload_n 0, 1) := by decide +kernel
theorem dMo_act_42 : decode zbMo_act 42 = .ok (.getfield 51, 3) := by decide +kernel
theorem dMo_act_45 : decode zbMo_act 45 = .ok (.iload_n 3, 1) := by decide +kernel
theorem dMo_act_46 : decode zbMo_act 46 = .ok (.iaload, 1) := by decide +kernel
theorem dMo_act_47 : decode zbMo_act 47 = .ok (.invokevirtual 141, 3) := by decide +kernel
theorem dMo_act_50 : decode zbMo_act 50 = .ok (.invokevirtual 144, 3) := by decide +kernel
theorem dMo_act_53 : decode zbMo_act 53 = .ok (.goto 156, 3) := by decide +kernel
theorem dMo_act_56 : decode zbMo_act 56 = .ok (.iload 5, 2) := by decide +kernel
theorem dMo_act_58 : decode zbMo_act 58 = .ok (.iconst 3, 1) := by decide +kernel
theorem dMo_act_59 : decode zbMo_act 59 = .ok (.if_icmp .ge 34, 3) := by decide +kernel
theorem dMo_act_62 : decode zbMo_act 62 = .ok (.aload_n 0, 1) := by decide +kernel
theorem dMo_act_63 : decode zbMo_act 63 = .ok (.iload_n 1, 1) := by decide +kernel
theorem dMo_act_64 : decode zbMo_act 64 = .ok (.iload 5, 2) := by decide +kernel
theorem dMo_act_66 : decode zbMo_act 66 = .ok (.iconst 1, 1) := by decide +kernel
theorem dMo_act_67 : decode zbMo_act 67 = .ok (.if_icmp .ne 8, 3) := by decide +kernel
theorem dMo_act_70 : decode zbMo_act 70 = .ok (.bipush 18, 2) := by decide +kernel
theorem dMo_act_72 : decode zbMo_act 72 = .ok (.goto 5, 3) := by decide +kernel
theorem dMo_act_75 : decode zbMo_act 75 = .ok (.bipush 35, 2) := by decide +kernel
theorem dMo_act_77 : decode zbMo_act 77 = .ok (.iload_n 2, 1) := by decide +kernel
theorem dMo_act_78 : decode zbMo_act 78 = .ok (.iload 4, 2) := by decide +kernel
theorem dMo_act_80 : decode zbMo_act 80 = .ok (.aload_n 0, 1) := by decide +kernel
theorem dMo_act_81 : decode zbMo_act 81 = .ok (.getfield 51, 3) := by decide +kernel
theorem dMo_act_84 : decode zbMo_act 84 = .ok (.iload_n 3, 1) := by decide +kernel
theorem dMo_act_85 : decode zbMo_act 85 = .ok (.iaload, 1) := by decide +kernel
theorem dMo_act_86 : decode zbMo_act 86 = .ok (.iadd, 1) := by decide +kernel
theorem dMo_act_87 : decode zbMo_act 87 = .ok (.invokevirtual 144, 3) := by decide +kernel
theorem dMo_act_90 : decode zbMo_act 90 = .ok (.goto 119, 3) := by decide +kernel
theorem dMo_act_93 : decode zbMo_act 93 = .ok (.iload 5, 2) := by decide +kernel
theorem dMo_act_95 : decode zbMo_act 95 = .ok (.iconst 3, 1) := by decide +kernel
theorem dMo_act_96 : decode zbMo_act 96 = .ok (.if_icmp .ne 88, 3) := by decide +kernel
theorem dMo_act_99 : decode zbMo_act 99 = .ok (.bipush 71, 2) := by decide +kernel
theorem dMo_act_101 : decode zbMo_act 101 = .ok (.iload_n 1, 1) := by decide +kernel
theorem dMo_act_102 : decode zbMo_act 102 = .ok (.imul, 1) := by decide +kernel
theorem dMo_act_103 : decode zbMo_act 103 = .ok (.bipush 52, 2) := by decide +kernel
theorem dMo_act_105 : decode zbMo_act 105 = .ok (.iadd, 1) := by decide +kernel
theorem dMo_act_106 : decode zbMo_act 106 = .ok (.iconst 3, 1) := by decide +kernel
theorem dMo_act_107 : decode zbMo_act 107 = .ok (.aload_n 0, 1) := by decide +kernel
theorem dMo_act_108 : decode zbMo_act 108 = .ok (.getfield 45, 3) := by decide +kernel
theorem dMo_act_111 : decode zbMo_act 111 = .ok (.iload_n 3, 1) := by decide +kernel
theorem dMo_act_112 : decode zbMo_act 112 = .ok (.iaload, 1) := by decide +kernel
theorem dMo_act_113 : decode zbMo_act 113 = .ok (.imul, 1) := by decide +kernel
theorem dMo_act_114 : decode zbMo_act 114 = .ok (.iadd, 1) := by decide +kernel
theorem dMo_act_115 : decode zbMo_act 115 = .ok (.aload_n 0, 1) := by decide +kernel
theorem dMo_act_116 : decode zbMo_act 116 = .ok (.getfield 48, 3) := by decide +kernel
theorem dMo_act_119 : decode zbMo_act 119 = .ok (.iload_n 3, 1) := by decide +kernel
theorem dMo_act_120 : decode zbMo_act 120 = .ok (.iaload, 1) := by decide +kernel
theorem dMo_act_121 : decode zbMo_act 121 = .ok (.iadd, 1) := by decide +kernel
theorem dMo_act_122 : decode zbMo_act 122 = .ok (.istore 6, 2) := by decide +kernel
theorem dMo_act_124 : decode zbMo_act 124 = .ok (.aload_n 0, 1) := by decide +kernel
theorem dMo_act_125 : decode zbMo_act 125 = .ok (.aload_n 0, 1) := by decide +kernel
theorem dMo_act_126 : decode zbMo_act 126 = .ok (.getfield 109, 3) := by decide +kernel
theorem dMo_act_129 : decode zbMo_act 129 = .ok (.ifCond .ne 23, 3) := by decide +kernel
theorem dMo_act_132 : decode zbMo_act 132 = .ok (.aload_n 0, 1) := by decide +kernel
theorem dMo_act_133 : decode zbMo_act 133 = .ok (.getfield 54, 3) := by decide +kernel
theorem dMo_act_136 : decode zbMo_act 136 = .ok (.iload 6, 2) := by decide +kernel
theorem dMo_act_138 : decode zbMo_act 138 = .ok (.iaload, 1) := by decide +kernel
theorem dMo_act_139 : decode zbMo_act 139 = .ok (.aload_n 0, 1) := by decide +kernel
theorem dMo_act_140 : decode zbMo_act 140 = .ok (.getfield 51, 3) := by decide +kernel
theorem dMo_act_143 : decode zbMo_act 143 = .ok (.iload_n 3, 1) := by decide +kernel
theorem dMo_act_144 : decode zbMo_act 144 = .ok (.iaload, 1) := by decide +kernel
theorem dMo_act_145 : decode zbMo_act 145 = .ok (.iadd, 1) := by decide +kernel
theorem dMo_act_146 : decode zbMo_act 146 = .ok (.sipush 999, 3) := by decide +kernel
theorem dMo_act_149 : decode zbMo_act 149 = .ok (.if_icmp .le 7, 3) := by decide +kernel
theorem dMo_act_152 : decode zbMo_act 152 = .ok (.iconst 1, 1) := by decide +kernel
theorem dMo_act_153 : decode zbMo_act 153 = .ok (.goto 4, 3) := by decide +kernel
theorem dMo_act_156 : decode zbMo_act 156 = .ok (.iconst 0, 1) := by decide +kernel
theorem dMo_act_157 : decode zbMo_act 157 = .ok (.putfield 109, 3) := by decide +kernel
theorem dMo_act_160 : decode zbMo_act 160 = .ok (.aload_n 0, 1) := by decide +kernel
theorem dMo_act_161 : decode zbMo_act 161 = .ok (.getfield 54, 3) := by decide +kernel
theorem dMo_act_164 : decode zbMo_act 164 = .ok (.iload 6, 2) := by decide +kernel
theorem dMo_act_166 : decode zbMo_act 166 = .ok (.aload_n 0, 1) := by decide +kernel
theorem dMo_act_167 : decode zbMo_act 167 = .ok (.getfield 54, 3) := by decide +kernel
theorem dMo_act_170 : decode zbMo_act 170 = .ok (.iload 6, 2) := by decide +kernel
theorem dMo_act_172 : decode zbMo_act 172 = .ok (.iaload, 1) := by decide +kernel
theorem dMo_act_173 : decode zbMo_act 173 = .ok (.aload_n 0, 1) := by decide +kernel
theorem dMo_act_174 : decode zbMo_act 174 = .ok (.getfield 51, 3) := by decide +kernel
theorem dMo_act_177 : decode zbMo_act 177 = .ok (.iload_n 3, 1) := by decide +kernel
theorem dMo_act_178 : decode zbMo_act 178 = .ok (.iaload, 1) := by decide +kernel
theorem dMo_act_179 : decode zbMo_act 179 = .ok (.iadd, 1) := by decide +kernel
theorem dMo_act_180 : decode zbMo_act 180 = .ok (.iastore, 1) := by decide +kernel
theorem dMo_act_181 : decode zbMo_act 181 = .ok (.goto 28, 3) := by decide +kernel
theorem dMo_act_184 : decode zbMo_act 184 = .ok (.aload_n 0, 1) := by decide +kernel
theorem dMo_act_185 : decode zbMo_act 185 = .ok (.getfield 57, 3) := by decide +kernel
theorem dMo_act_188 : decode zbMo_act 188 = .ok (.aload_n 0, 1) := by decide +kernel
theorem dMo_act_189 : decode zbMo_act 189 = .ok (.getfield 128, 3) := by decide +kernel
theorem dMo_act_192 : decode zbMo_act 192 = .ok (.aload_n 0, 1) := by decide +kernel
theorem dMo_act_193 : decode zbMo_act 193 = .ok (.getfield 45, 3) := by decide +kernel
theorem dMo_act_196 : decode zbMo_act 196 = .ok (.iload_n 3, 1) := by decide +kernel
theorem dMo_act_197 : decode zbMo_act 197 = .ok (.iaload, 1) := by decide +kernel
theorem dMo_act_198 : decode zbMo_act 198 = .ok (.iastore, 1) := by decide +kernel
theorem dMo_act_199 : decode zbMo_act 199 = .ok (.aload_n 0, 1) := by decide +kernel
theorem dMo_act_200 : decode zbMo_act 200 = .ok (.aload_n 0, 1) := by decide +kernel
theorem dMo_act_201 : decode zbMo_act 201 = .ok (.getfield 128, 3) := by decide +kernel
theorem dMo_act_204 : decode zbMo_act 204 = .ok (.iconst 1, 1) := by decide +kernel
theorem dMo_act_205 : decode zbMo_act 205 = .ok (.iadd, 1) := by decide +kernel
theorem dMo_act_206 : decode zbMo_act 206 = .ok (.putfield 128, 3) := by decide +kernel
theorem dMo_act_209 : decode zbMo_act 209 = .ok (.return_, 1) := by decide +kernel
theorem dMo_run_0 : decode zbMo_run 0 = .ok (.iconst 0, 1) := by decide +kernel
theorem dMo_run_1 : decode zbMo_run 1 = .ok (.istore_n 2, 1) := by decide +kernel
theorem dMo_run_2 : decode zbMo_run 2 = .ok (.iload_n 2, 1) := by decide +kernel
theorem dMo_run_3 : decode zbMo_run 3 = .ok (.aload_n 0, 1) := by decide +kernel
theorem dMo_run_4 : decode zbMo_run 4 = .ok (.getfield 128, 3) := by decide +kernel
theorem dMo_run_7 : decode zbMo_run 7 = .ok (.if_icmp .ge 100, 3) := by decide +kernel
theorem dMo_run_10 : decode zbMo_run 10 = .ok (.aload_n 0, 1) := by decide +kernel
theorem dMo_run_11 : decode zbMo_run 11 = .ok (.getfield 109, 3) := by decide +kernel
theorem dMo_run_14 : decode zbMo_run 14 = .ok (.ifCond .ne 93, 3) := by decide +kernel
theorem dMo_run_17 : decode zbMo_run 17 = .ok (.bipush 10, 2) := by decide +kernel
theorem dMo_run_19 : decode zbMo_run 19 = .ok (.aload_n 0, 1) := by decide +kernel
theorem dMo_run_20 : decode zbMo_run 20 = .ok (.getfield 112, 3) := by decide +kernel
theorem dMo_run_23 : decode zbMo_run 23 = .ok (.imul, 1) := by decide +kernel
theorem dMo_run_24 : decode zbMo_run 24 = .ok (.aload_n 0, 1) := by decide +kernel
theorem dMo_run_25 : decode zbMo_run 25 = .ok (.getfield 57, 3) := by decide +kernel
theorem dMo_run_28 : decode zbMo_run 28 = .ok (.iload_n 2, 1) := by decide +kernel
theorem dMo_run_29 : decode zbMo_run 29 = .ok (.iaload, 1) := by decide +kernel
theorem dMo_run_30 : decode zbMo_run 30 = .ok (.iadd, 1) := by decide +kernel
theorem dMo_run_31 : decode zbMo_run 31 = .ok (.istore_n 3, 1) := by decide +kernel
theorem dMo_run_32 : decode zbMo_run 32 = .ok (.aload_n 0, 1) := by decide +kernel
theorem dMo_run_33 : decode zbMo_run 33 = .ok (.getfield 30, 3) := by decide +kernel
theorem dMo_run_36 : decode zbMo_run 36 = .ok (.iload_n 3, 1) := by decide +kernel
theorem dMo_run_37 : decode zbMo_run 37 = .ok (.baload, 1) := by decide +kernel
theorem dMo_run_38 : decode zbMo_run 38 = .ok (.ifCond .eq 40, 3) := by decide +kernel
theorem dMo_run_41 : decode zbMo_run 41 = .ok (.aload_n 0, 1) := by decide +kernel
theorem dMo_run_42 : decode zbMo_run 42 = .ok (.getfield 54, 3) := by decide +kernel
theorem dMo_run_45 : decode zbMo_run 45 = .ok (.bipush 71, 2) := by decide +kernel
theorem dMo_run_47 : decode zbMo_run 47 = .ok (.iload_n 1, 1) := by decide +kernel
theorem dMo_run_48 : decode zbMo_run 48 = .ok (.imul, 1) := by decide +kernel
theorem dMo_run_49 : decode zbMo_run 49 = .ok (.bipush 52, 2) := by decide +kernel
theorem dMo_run_51 : decode zbMo_run 51 = .ok (.iadd, 1) := by decide +kernel
theorem dMo_run_52 : decode zbMo_run 52 = .ok (.iconst 3, 1) := by decide +kernel
theorem dMo_run_53 : decode zbMo_run 53 = .ok (.aload_n 0, 1) := by decide +kernel
theorem dMo_run_54 : decode zbMo_run 54 = .ok (.getfield 33, 3) := by decide +kernel
theorem dMo_run_57 : decode zbMo_run 57 = .ok (.iload_n 3, 1) := by decide +kernel
theorem dMo_run_58 : decode zbMo_run 58 = .ok (.iaload, 1) := by decide +kernel
theorem dMo_run_59 : decode zbMo_run 59 = .ok (.imul, 1) := by decide +kernel
theorem dMo_run_60 : decode zbMo_run 60 = .ok (.iadd, 1) := by decide +kernel
theorem dMo_run_61 : decode zbMo_run 61 = .ok (.aload_n 0, 1) := by decide +kernel
theorem dMo_run_62 : decode zbMo_run 62 = .ok (.getfield 36, 3) := by decide +kernel
theorem dMo_run_65 : decode zbMo_run 65 = .ok (.iload_n 3, 1) := by decide +kernel
theorem dMo_run_66 : decode zbMo_run 66 = .ok (.iaload, 1) := by decide +kernel
theorem dMo_run_67 : decode zbMo_run 67 = .ok (.iadd, 1) := by decide +kernel
theorem dMo_run_68 : decode zbMo_run 68 = .ok (.iaload, 1) := by decide +kernel
theorem dMo_run_69 : decode zbMo_run 69 = .ok (.aload_n 0, 1) := by decide +kernel
theorem dMo_run_70 : decode zbMo_run 70 = .ok (.getfield 39, 3) := by decide +kernel
theorem dMo_run_73 : decode zbMo_run 73 = .ok (.iload_n 3, 1) := by decide +kernel
theorem dMo_run_74 : decode zbMo_run 74 = .ok (.iaload, 1) := by decide +kernel
theorem dMo_run_75 : decode zbMo_run 75 = .ok (.if_icmp .le 7, 3) := by decide +kernel
theorem dMo_run_78 : decode zbMo_run 78 = .ok (.iconst 1, 1) := by decide +kernel
theorem dMo_run_79 : decode zbMo_run 79 = .ok (.goto 4, 3) := by decide +kernel
theorem dMo_run_82 : decode zbMo_run 82 = .ok (.iconst 0, 1) := by decide +kernel
theorem dMo_run_83 : decode zbMo_run 83 = .ok (.istore 4, 2) := by decide +kernel
theorem dMo_run_85 : decode zbMo_run 85 = .ok (.iload 4, 2) := by decide +kernel
theorem dMo_run_87 : decode zbMo_run 87 = .ok (.ifCond .eq 14, 3) := by decide +kernel
theorem dMo_run_90 : decode zbMo_run 90 = .ok (.aload_n 0, 1) := by decide +kernel
theorem dMo_run_91 : decode zbMo_run 91 = .ok (.iload_n 1, 1) := by decide +kernel
theorem dMo_run_92 : decode zbMo_run 92 = .ok (.aload_n 0, 1) := by decide +kernel
theorem dMo_run_93 : decode zbMo_run 93 = .ok (.getfield 57, 3) := by decide +kernel
theorem dMo_run_96 : decode zbMo_run 96 = .ok (.iload_n 2, 1) := by decide +kernel
theorem dMo_run_97 : decode zbMo_run 97 = .ok (.iaload, 1) := by decide +kernel
theorem dMo_run_98 : decode zbMo_run 98 = .ok (.invokevirtual 148, 3) := by decide +kernel
theorem dMo_run_101 : decode zbMo_run 101 = .ok (.iinc 2 1, 3) := by decide +kernel
theorem dMo_run_104 : decode zbMo_run 104 = .ok (.goto (-102), 3) := by decide +kernel
theorem dMo_run_107 : decode zbMo_run 107 = .ok (.return_, 1) := by decide +kernel
theorem dMo_start_0 : decode zbMo_start 0 = .ok (.aload_n 0, 1) := by decide +kernel
theorem dMo_start_1 : decode zbMo_start 1 = .ok (.iconst 0, 1) := by decide +kernel
theorem dMo_start_2 : decode zbMo_start 2 = .ok (.putfield 128, 3) := by decide +kernel
theorem dMo_start_5 : decode zbMo_start 5 = .ok (.aload_n 0, 1) := by decide +kernel
theorem dMo_start_6 : decode zbMo_start 6 = .ok (.iconst 0, 1) := by decide +kernel
theorem dMo_start_7 : decode zbMo_start 7 = .ok (.putfield 109, 3) := by decide +kernel
theorem dMo_start_10 : decode zbMo_start 10 = .ok (.aload_n 0, 1) := by decide +kernel
theorem dMo_start_11 : decode zbMo_start 11 = .ok (.iconst 0, 1) := by decide +kernel
theorem dMo_start_12 : decode zbMo_start 12 = .ok (.putfield 131, 3) := by decide +kernel
theorem dMo_start_15 : decode zbMo_start 15 = .ok (.aload_n 0, 1) := by decide +kernel
theorem dMo_start_16 : decode zbMo_start 16 = .ok (.iconst 0, 1) := by decide +kernel
theorem dMo_start_17 : decode zbMo_start 17 = .ok (.putfield 134, 3) := by decide +kernel
theorem dMo_start_20 : decode zbMo_start 20 = .ok (.return_, 1) := by decide +kernel
theorem dMo_eventIn_0 : decode zbMo_eventIn 0 = .ok (.aload_n 0, 1) := by decide +kernel
theorem dMo_eventIn_1 : decode zbMo_eventIn 1 = .ok (.invokevirtual 152, 3) := by decide +kernel
theorem dMo_eventIn_4 : decode zbMo_eventIn 4 = .ok (.aload_n 0, 1) := by decide +kernel
theorem dMo_eventIn_5 : decode zbMo_eventIn 5 = .ok (.iconst 1, 1) := by decide +kernel
theorem dMo_eventIn_6 : decode zbMo_eventIn 6 = .ok (.iload_n 2, 1) := by decide +kernel
theorem dMo_eventIn_7 : decode zbMo_eventIn 7 = .ok (.iload_n 3, 1) := by decide +kernel
theorem dMo_eventIn_8 : decode zbMo_eventIn 8 = .ok (.invokevirtual 137, 3) := by decide +kernel
theorem dMo_eventIn_11 : decode zbMo_eventIn 11 = .ok (.aload_n 0, 1) := by decide +kernel
theorem dMo_eventIn_12 : decode zbMo_eventIn 12 = .ok (.iload_n 1, 1) := by decide +kernel
theorem dMo_eventIn_13 : decode zbMo_eventIn 13 = .ok (.bipush 18, 2) := by decide +kernel
theorem dMo_eventIn_15 : decode zbMo_eventIn 15 = .ok (.iload_n 2, 1) := by decide +kernel
theorem dMo_eventIn_16 : decode zbMo_eventIn 16 = .ok (.iload_n 3, 1) := by decide +kernel
theorem dMo_eventIn_17 : decode zbMo_eventIn 17 = .ok (.invokevirtual 155, 3) := by decide +kernel
theorem dMo_eventIn_20 : decode zbMo_eventIn 20 = .ok (.ifCond .lt 109, 3) := by decide +kernel
theorem dMo_eventIn_23 : decode zbMo_eventIn 23 = .ok (.aload_n 0, 1) := by decide +kernel
theorem dMo_eventIn_24 : decode zbMo_eventIn 24 = .ok (.iload_n 1, 1) := by decide +kernel
theorem dMo_eventIn_25 : decode zbMo_eventIn 25 = .ok (.bipush 35, 2) := by decide +kernel
theorem dMo_eventIn_27 : decode zbMo_eventIn 27 = .ok (.iload_n 2, 1) := by decide +kernel
theorem dMo_eventIn_28 : decode zbMo_eventIn 28 = .ok (.iload_n 3, 1) := by decide +kernel
theorem dMo_eventIn_29 : decode zbMo_eventIn 29 = .ok (.invokevirtual 155, 3) := by decide +kernel
theorem dMo_eventIn_32 : decode zbMo_eventIn 32 = .ok (.istore 4, 2) := by decide +kernel
theorem dMo_eventIn_34 : decode zbMo_eventIn 34 = .ok (.iload 4, 2) := by decide +kernel
theorem dMo_eventIn_36 : decode zbMo_eventIn 36 = .ok (.ifCond .lt 12, 3) := by decide +kernel
theorem dMo_eventIn_39 : decode zbMo_eventIn 39 = .ok (.aload_n 0, 1) := by decide +kernel
theorem dMo_eventIn_40 : decode zbMo_eventIn 40 = .ok (.iload_n 1, 1) := by decide +kernel
theorem dMo_eventIn_41 : decode zbMo_eventIn 41 = .ok (.bipush 35, 2) := by decide +kernel
theorem dMo_eventIn_43 : decode zbMo_eventIn 43 = .ok (.iload 4, 2) := by decide +kernel
theorem dMo_eventIn_45 : decode zbMo_eventIn 45 = .ok (.invokevirtual 159, 3) := by decide +kernel
theorem dMo_eventIn_48 : decode zbMo_eventIn 48 = .ok (.iconst 0, 1) := by decide +kernel
theorem dMo_eventIn_49 : decode zbMo_eventIn 49 = .ok (.istore 5, 2) := by decide +kernel
theorem dMo_eventIn_51 : decode zbMo_eventIn 51 = .ok (.iload 5, 2) := by decide +kernel
theorem dMo_eventIn_53 : decode zbMo_eventIn 53 = .ok (.aload_n 0, 1) := by decide +kernel
theorem dMo_eventIn_54 : decode zbMo_eventIn 54 = .ok (.getfield 125, 3) := by decide +kernel
theorem dMo_eventIn_57 : decode zbMo_eventIn 57 = .ok (.if_icmp .ge 72, 3) := by decide +kernel
theorem dMo_eventIn_60 : decode zbMo_eventIn 60 = .ok (.iload 4, 2) := by decide +kernel
theorem dMo_eventIn_62 : decode zbMo_eventIn 62 = .ok (.ifCond .ge 67, 3) := by decide +kernel
theorem dMo_eventIn_65 : decode zbMo_eventIn 65 = .ok (.iconst 0, 1) := by decide +kernel
theorem dMo_eventIn_66 : decode zbMo_eventIn 66 = .ok (.istore 6, 2) := by decide +kernel
theorem dMo_eventIn_68 : decode zbMo_eventIn 68 = .ok (.iload 6, 2) := by decide +kernel
theorem dMo_eventIn_70 : decode zbMo_eventIn 70 = .ok (.aload_n 0, 1) := by decide +kernel
theorem dMo_eventIn_71 : decode zbMo_eventIn 71 = .ok (.getfield 54, 3) := by decide +kernel
theorem dMo_eventIn_74 : decode zbMo_eventIn 74 = .ok (.bipush 71, 2) := by decide +kernel
theorem dMo_eventIn_76 : decode zbMo_eventIn 76 = .ok (.iload_n 1, 1) := by decide +kernel
theorem dMo_eventIn_77 : decode zbMo_eventIn 77 = .ok (.imul, 1) := by decide +kernel
theorem dMo_eventIn_78 : decode zbMo_eventIn 78 = .ok (.bipush 18, 2) := by decide +kernel
theorem dMo_eventIn_80 : decode zbMo_eventIn 80 = .ok (.iadd, 1) := by decide +kernel
theorem dMo_eventIn_81 : decode zbMo_eventIn 81 = .ok (.iaload, 1) := by decide +kernel
theorem dMo_eventIn_82 : decode zbMo_eventIn 82 = .ok (.if_icmp .ge 41, 3) := by decide +kernel
theorem dMo_eventIn_85 : decode zbMo_eventIn 85 = .ok (.aload_n 0, 1) := by decide +kernel
theorem dMo_eventIn_86 : decode zbMo_eventIn 86 = .ok (.iload_n 1, 1) := by decide +kernel
theorem dMo_eventIn_87 : decode zbMo_eventIn 87 = .ok (.bipush 18, 2) := by decide +kernel
theorem dMo_eventIn_89 : decode zbMo_eventIn 89 = .ok (.iload 6, 2) := by decide +kernel
theorem dMo_eventIn_91 : decode zbMo_eventIn 91 = .ok (.invokevirtual 115, 3) := by decide +kernel
theorem dMo_eventIn_94 : decode zbMo_eventIn 94 = .ok (.iload 5, 2) := by decide +kernel
theorem dMo_eventIn_96 : decode zbMo_eventIn 96 = .ok (.if_icmp .ne 21, 3) := by decide +kernel
theorem dMo_eventIn_99 : decode zbMo_eventIn 99 = .ok (.aload_n 0, 1) := by decide +kernel
theorem dMo_eventIn_100 : decode zbMo_eventIn 100 = .ok (.iload 5, 2) := by decide +kernel
theorem dMo_eventIn_102 : decode zbMo_eventIn 102 = .ok (.iload_n 2, 1) := by decide +kernel
theorem dMo_eventIn_103 : decode zbMo_eventIn 103 = .ok (.iload_n 3, 1) := by decide +kernel
theorem dMo_eventIn_104 : decode zbMo_eventIn 104 = .ok (.invokevirtual 119, 3) := by decide +kernel
theorem dMo_eventIn_107 : decode zbMo_eventIn 107 = .ok (.ifCond .eq 10, 3) := by decide +kernel
theorem dMo_eventIn_110 : decode zbMo_eventIn 110 = .ok (.aload_n 0, 1) := by decide +kernel
theorem dMo_eventIn_111 : decode zbMo_eventIn 111 = .ok (.iload_n 1, 1) := by decide +kernel
theorem dMo_eventIn_112 : decode zbMo_eventIn 112 = .ok (.iload 5, 2) := by decide +kernel
theorem dMo_eventIn_114 : decode zbMo_eventIn 114 = .ok (.invokevirtual 162, 3) := by decide +kernel
theorem dMo_eventIn_117 : decode zbMo_eventIn 117 = .ok (.iinc 6 1, 3) := by decide +kernel
theorem dMo_eventIn_120 : decode zbMo_eventIn 120 = .ok (.goto (-52), 3) := by decide +kernel
theorem dMo_eventIn_123 : decode zbMo_eventIn 123 = .ok (.iinc 5 1, 3) := by decide +kernel
theorem dMo_eventIn_126 : decode zbMo_eventIn 126 = .ok (.goto (-75), 3) := by decide +kernel
theorem dMo_eventIn_129 : decode zbMo_eventIn 129 = .ok (.aload_n 0, 1) := by decide +kernel
theorem dMo_eventIn_130 : decode zbMo_eventIn 130 = .ok (.iload_n 1, 1) := by decide +kernel
theorem dMo_eventIn_131 : decode zbMo_eventIn 131 = .ok (.iconst 1, 1) := by decide +kernel
theorem dMo_eventIn_132 : decode zbMo_eventIn 132 = .ok (.iload_n 2, 1) := by decide +kernel
theorem dMo_eventIn_133 : decode zbMo_eventIn 133 = .ok (.iload_n 3, 1) := by decide +kernel
theorem dMo_eventIn_134 : decode zbMo_eventIn 134 = .ok (.invokevirtual 155, 3) := by decide +kernel
theorem dMo_eventIn_137 : decode zbMo_eventIn 137 = .ok (.istore 4, 2) := by decide +kernel
theorem dMo_eventIn_139 : decode zbMo_eventIn 139 = .ok (.iload 4, 2) := by decide +kernel
theorem dMo_eventIn_141 : decode zbMo_eventIn 141 = .ok (.ifCond .lt 29, 3) := by decide +kernel
theorem dMo_eventIn_144 : decode zbMo_eventIn 144 = .ok (.aload_n 0, 1) := by decide +kernel
theorem dMo_eventIn_145 : decode zbMo_eventIn 145 = .ok (.iload_n 1, 1) := by decide +kernel
theorem dMo_eventIn_146 : decode zbMo_eventIn 146 = .ok (.iconst 1, 1) := by decide +kernel
theorem dMo_eventIn_147 : decode zbMo_eventIn 147 = .ok (.iload 4, 2) := by decide +kernel
theorem dMo_eventIn_149 : decode zbMo_eventIn 149 = .ok (.invokevirtual 115, 3) := by decide +kernel
theorem dMo_eventIn_152 : decode zbMo_eventIn 152 = .ok (.istore 5, 2) := by decide +kernel
theorem dMo_eventIn_154 : decode zbMo_eventIn 154 = .ok (.aload_n 0, 1) := by decide +kernel
theorem dMo_eventIn_155 : decode zbMo_eventIn 155 = .ok (.iload_n 1, 1) := by decide +kernel
theorem dMo_eventIn_156 : decode zbMo_eventIn 156 = .ok (.iconst 1, 1) := by decide +kernel
theorem dMo_eventIn_157 : decode zbMo_eventIn 157 = .ok (.iload 4, 2) := by decide +kernel
theorem dMo_eventIn_159 : decode zbMo_eventIn 159 = .ok (.invokevirtual 159, 3) := by decide +kernel
theorem dMo_eventIn_162 : decode zbMo_eventIn 162 = .ok (.aload_n 0, 1) := by decide +kernel
theorem dMo_eventIn_163 : decode zbMo_eventIn 163 = .ok (.iconst 3, 1) := by decide +kernel
theorem dMo_eventIn_164 : decode zbMo_eventIn 164 = .ok (.iload 5, 2) := by decide +kernel
theorem dMo_eventIn_166 : decode zbMo_eventIn 166 = .ok (.iconst 0, 1) := by decide +kernel
theorem dMo_eventIn_167 : decode zbMo_eventIn 167 = .ok (.invokevirtual 137, 3) := by decide +kernel
theorem dMo_eventIn_170 : decode zbMo_eventIn 170 = .ok (.aload_n 0, 1) := by decide +kernel
theorem dMo_eventIn_171 : decode zbMo_eventIn 171 = .ok (.iload_n 1, 1) := by decide +kernel
theorem dMo_eventIn_172 : decode zbMo_eventIn 172 = .ok (.invokevirtual 165, 3) := by decide +kernel
theorem dMo_eventIn_175 : decode zbMo_eventIn 175 = .ok (.return_, 1) := by decide +kernel
theorem dMo_passOver_0 : decode zbMo_passOver 0 = .ok (.iconst 0, 1) := by decide +kernel
theorem dMo_passOver_1 : decode zbMo_passOver 1 = .ok (.istore_n 3, 1) := by decide +kernel
theorem dMo_passOver_2 : decode zbMo_passOver 2 = .ok (.iload_n 3, 1) := by decide +kernel
theorem dMo_passOver_3 : decode zbMo_passOver 3 = .ok (.aload_n 0, 1) := by decide +kernel
theorem dMo_passOver_4 : decode zbMo_passOver 4 = .ok (.getfield 54, 3) := by decide +kernel
theorem dMo_passOver_7 : decode zbMo_passOver 7 = .ok (.bipush 71, 2) := by decide +kernel
theorem dMo_passOver_9 : decode zbMo_passOver 9 = .ok (.iload_n 1, 1) := by decide +kernel
theorem dMo_passOver_10 : decode zbMo_passOver 10 = .ok (.imul, 1) := by decide +kernel
theorem dMo_passOver_11 : decode zbMo_passOver 11 = .ok (.iload_n 2, 1) := by decide +kernel
theorem dMo_passOver_12 : decode zbMo_passOver 12 = .ok (.iadd, 1) := by decide +kernel
theorem dMo_passOver_13 : decode zbMo_passOver 13 = .ok (.iaload, 1) := by decide +kernel
theorem dMo_passOver_14 : decode zbMo_passOver 14 = .ok (.if_icmp .ge 39, 3) := by decide +kernel
theorem dMo_passOver_17 : decode zbMo_passOver 17 = .ok (.aload_n 0, 1) := by decide +kernel
theorem dMo_passOver_18 : decode zbMo_passOver 18 = .ok (.iload_n 1, 1) := by decide +kernel
theorem dMo_passOver_19 : decode zbMo_passOver 19 = .ok (.iload_n 2, 1) := by decide +kernel
theorem dMo_passOver_20 : decode zbMo_passOver 20 = .ok (.iload_n 3, 1) := by decide +kernel
theorem dMo_passOver_21 : decode zbMo_passOver 21 = .ok (.invokevirtual 122, 3) := by decide +kernel
theorem dMo_passOver_24 : decode zbMo_passOver 24 = .ok (.aload_n 0, 1) := by decide +kernel
theorem dMo_passOver_25 : decode zbMo_passOver 25 = .ok (.getfield 54, 3) := by decide +kernel
theorem dMo_passOver_28 : decode zbMo_passOver 28 = .ok (.bipush 71, 2) := by decide +kernel
theorem dMo_passOver_30 : decode zbMo_passOver 30 = .ok (.iload_n 1, 1) := by decide +kernel
theorem dMo_passOver_31 : decode zbMo_passOver 31 = .ok (.imul, 1) := by decide +kernel
theorem dMo_passOver_32 : decode zbMo_passOver 32 = .ok (.iaload, 1) := by decide +kernel
theorem dMo_passOver_33 : decode zbMo_passOver 33 = .ok (.if_icmp .ge 13, 3) := by decide +kernel
theorem dMo_passOver_36 : decode zbMo_passOver 36 = .ok (.aload_n 0, 1) := by decide +kernel
theorem dMo_passOver_37 : decode zbMo_passOver 37 = .ok (.iload_n 1, 1) := by decide +kernel
theorem dMo_passOver_38 : decode zbMo_passOver 38 = .ok (.iload_n 2, 1) := by decide +kernel
theorem dMo_passOver_39 : decode zbMo_passOver 39 = .ok (.iload_n 3, 1) := by decide +kernel
theorem dMo_passOver_40 : decode zbMo_passOver 40 = .ok (.invokevirtual 159, 3) := by decide +kernel
theorem dMo_passOver_43 : decode zbMo_passOver 43 = .ok (.goto (-41), 3) := by decide +kernel
theorem dMo_passOver_46 : decode zbMo_passOver 46 = .ok (.iload_n 3, 1) := by decide +kernel
theorem dMo_passOver_47 : decode zbMo_passOver 47 = .ok (.iconst 1, 1) := by decide +kernel
theorem dMo_passOver_48 : decode zbMo_passOver 48 = .ok (.iadd, 1) := by decide +kernel
theorem dMo_passOver_49 : decode zbMo_passOver 49 = .ok (.istore_n 3, 1) := by decide +kernel
theorem dMo_passOver_50 : decode zbMo_passOver 50 = .ok (.goto (-48), 3) := by decide +kernel
theorem dMo_passOver_53 : decode zbMo_passOver 53 = .ok (.return_, 1) := by decide +kernel
theorem dMo_endIn_0 : decode zbMo_endIn 0 = .ok (.aload_n 0, 1) := by decide +kernel
theorem dMo_endIn_1 : decode zbMo_endIn 1 = .ok (.invokevirtual 152, 3) := by decide +kernel
theorem dMo_endIn_4 : decode zbMo_endIn 4 = .ok (.iconst 0, 1) := by decide +kernel
theorem dMo_endIn_5 : decode zbMo_endIn 5 = .ok (.istore_n 2, 1) := by decide +kernel
theorem dMo_endIn_6 : decode zbMo_endIn 6 = .ok (.iload_n 2, 1) := by decide +kernel
theorem dMo_endIn_7 : decode zbMo_endIn 7 = .ok (.aload_n 0, 1) := by decide +kernel
theorem dMo_endIn_8 : decode zbMo_endIn 8 = .ok (.getfield 125, 3) := by decide +kernel
theorem dMo_endIn_11 : decode zbMo_endIn 11 = .ok (.if_icmp .ge 79, 3) := by decide +kernel
theorem dMo_endIn_14 : decode zbMo_endIn 14 = .ok (.iconst 0, 1) := by decide +kernel
theorem dMo_endIn_15 : decode zbMo_endIn 15 = .ok (.istore_n 3, 1) := by decide +kernel
theorem dMo_endIn_16 : decode zbMo_endIn 16 = .ok (.iload_n 3, 1) := by decide +kernel
theorem dMo_endIn_17 : decode zbMo_endIn 17 = .ok (.aload_n 0, 1) := by decide +kernel
theorem dMo_endIn_18 : decode zbMo_endIn 18 = .ok (.getfield 54, 3) := by decide +kernel
theorem dMo_endIn_21 : decode zbMo_endIn 21 = .ok (.bipush 71, 2) := by decide +kernel
theorem dMo_endIn_23 : decode zbMo_endIn 23 = .ok (.iload_n 1, 1) := by decide +kernel
theorem dMo_endIn_24 : decode zbMo_endIn 24 = .ok (.imul, 1) := by decide +kernel
theorem dMo_endIn_25 : decode zbMo_endIn 25 = .ok (.iconst 1, 1) := by decide +kernel
theorem dMo_endIn_26 : decode zbMo_endIn 26 = .ok (.iadd, 1) := by decide +kernel
theorem dMo_endIn_27 : decode zbMo_endIn 27 = .ok (.iaload, 1) := by decide +kernel
theorem dMo_endIn_28 : decode zbMo_endIn 28 = .ok (.if_icmp .ge 56, 3) := by decide +kernel
theorem dMo_endIn_31 : decode zbMo_endIn 31 = .ok (.aload_n 0, 1) := by decide +kernel
theorem dMo_endIn_32 : decode zbMo_endIn 32 = .ok (.iload_n 1, 1) := by decide +kernel
theorem dMo_endIn_33 : decode zbMo_endIn 33 = .ok (.iconst 1, 1) := by decide +kernel
theorem dMo_endIn_34 : decode zbMo_endIn 34 = .ok (.iload_n 3, 1) := by decide +kernel
theorem dMo_endIn_35 : decode zbMo_endIn 35 = .ok (.invokevirtual 115, 3) := by decide +kernel
theorem dMo_endIn_38 : decode zbMo_endIn 38 = .ok (.iload_n 2, 1) := by decide +kernel
theorem dMo_endIn_39 : decode zbMo_endIn 39 = .ok (.if_icmp .ne 38, 3) := by decide +kernel
theorem dMo_endIn_42 : decode zbMo_endIn 42 = .ok (.aload_n 0, 1) := by decide +kernel
theorem dMo_endIn_43 : decode zbMo_endIn 43 = .ok (.iload_n 1, 1) := by decide +kernel
theorem dMo_endIn_44 : decode zbMo_endIn 44 = .ok (.iconst 1, 1) := by decide +kernel
theorem dMo_endIn_45 : decode zbMo_endIn 45 = .ok (.iload_n 3, 1) := by decide +kernel
theorem dMo_endIn_46 : decode zbMo_endIn 46 = .ok (.invokevirtual 122, 3) := by decide +kernel
theorem dMo_endIn_49 : decode zbMo_endIn 49 = .ok (.aload_n 0, 1) := by decide +kernel
theorem dMo_endIn_50 : decode zbMo_endIn 50 = .ok (.getfield 54, 3) := by decide +kernel
theorem dMo_endIn_53 : decode zbMo_endIn 53 = .ok (.bipush 71, 2) := by decide +kernel
theorem dMo_endIn_55 : decode zbMo_endIn 55 = .ok (.iload_n 1, 1) := by decide +kernel
theorem dMo_endIn_56 : decode zbMo_endIn 56 = .ok (.imul, 1) := by decide +kernel
theorem dMo_endIn_57 : decode zbMo_endIn 57 = .ok (.iaload, 1) := by decide +kernel
theorem dMo_endIn_58 : decode zbMo_endIn 58 = .ok (.if_icmp .gt 19, 3) := by decide +kernel
theorem dMo_endIn_61 : decode zbMo_endIn 61 = .ok (.aload_n 0, 1) := by decide +kernel
theorem dMo_endIn_62 : decode zbMo_endIn 62 = .ok (.iload_n 1, 1) := by decide +kernel
theorem dMo_endIn_63 : decode zbMo_endIn 63 = .ok (.iconst 1, 1) := by decide +kernel
theorem dMo_endIn_64 : decode zbMo_endIn 64 = .ok (.iload_n 3, 1) := by decide +kernel
theorem dMo_endIn_65 : decode zbMo_endIn 65 = .ok (.invokevirtual 159, 3) := by decide +kernel
theorem dMo_endIn_68 : decode zbMo_endIn 68 = .ok (.aload_n 0, 1) := by decide +kernel
theorem dMo_endIn_69 : decode zbMo_endIn 69 = .ok (.iload_n 1, 1) := by decide +kernel
theorem dMo_endIn_70 : decode zbMo_endIn 70 = .ok (.iload_n 2, 1) := by decide +kernel
theorem dMo_endIn_71 : decode zbMo_endIn 71 = .ok (.invokevirtual 162, 3) := by decide +kernel
theorem dMo_endIn_74 : decode zbMo_endIn 74 = .ok (.goto (-58), 3) := by decide +kernel
theorem dMo_endIn_77 : decode zbMo_endIn 77 = .ok (.iload_n 3, 1) := by decide +kernel
theorem dMo_endIn_78 : decode zbMo_endIn 78 = .ok (.iconst 1, 1) := by decide +kernel
theorem dMo_endIn_79 : decode zbMo_endIn 79 = .ok (.iadd, 1) := by decide +kernel
theorem dMo_endIn_80 : decode zbMo_endIn 80 = .ok (.istore_n 3, 1) := by decide +kernel
theorem dMo_endIn_81 : decode zbMo_endIn 81 = .ok (.goto (-65), 3) := by decide +kernel
theorem dMo_endIn_84 : decode zbMo_endIn 84 = .ok (.iinc 2 1, 3) := by decide +kernel
theorem dMo_endIn_87 : decode zbMo_endIn 87 = .ok (.goto (-81), 3) := by decide +kernel
theorem dMo_endIn_90 : decode zbMo_endIn 90 = .ok (.aload_n 0, 1) := by decide +kernel
theorem dMo_endIn_91 : decode zbMo_endIn 91 = .ok (.iload_n 1, 1) := by decide +kernel
theorem dMo_endIn_92 : decode zbMo_endIn 92 = .ok (.invokevirtual 165, 3) := by decide +kernel
theorem dMo_endIn_95 : decode zbMo_endIn 95 = .ok (.aload_n 0, 1) := by decide +kernel
theorem dMo_endIn_96 : decode zbMo_endIn 96 = .ok (.getfield 54, 3) := by decide +kernel
theorem dMo_endIn_99 : decode zbMo_endIn 99 = .ok (.bipush 71, 2) := by decide +kernel
theorem dMo_endIn_101 : decode zbMo_endIn 101 = .ok (.iload_n 1, 1) := by decide +kernel
theorem dMo_endIn_102 : decode zbMo_endIn 102 = .ok (.imul, 1) := by decide +kernel
theorem dMo_endIn_103 : decode zbMo_endIn 103 = .ok (.aload_n 0, 1) := by decide +kernel
theorem dMo_endIn_104 : decode zbMo_endIn 104 = .ok (.getfield 54, 3) := by decide +kernel
theorem dMo_endIn_107 : decode zbMo_endIn 107 = .ok (.bipush 71, 2) := by decide +kernel
theorem dMo_endIn_109 : decode zbMo_endIn 109 = .ok (.iload_n 1, 1) := by decide +kernel
theorem dMo_endIn_110 : decode zbMo_endIn 110 = .ok (.imul, 1) := by decide +kernel
theorem dMo_endIn_111 : decode zbMo_endIn 111 = .ok (.iaload, 1) := by decide +kernel
theorem dMo_endIn_112 : decode zbMo_endIn 112 = .ok (.iconst 1, 1) := by decide +kernel
theorem dMo_endIn_113 : decode zbMo_endIn 113 = .ok (.iadd, 1) := by decide +kernel
theorem dMo_endIn_114 : decode zbMo_endIn 114 = .ok (.iastore, 1) := by decide +kernel
theorem dMo_endIn_115 : decode zbMo_endIn 115 = .ok (.aload_n 0, 1) := by decide +kernel
theorem dMo_endIn_116 : decode zbMo_endIn 116 = .ok (.iload_n 1, 1) := by decide +kernel
theorem dMo_endIn_117 : decode zbMo_endIn 117 = .ok (.bipush 18, 2) := by decide +kernel
theorem dMo_endIn_119 : decode zbMo_endIn 119 = .ok (.invokevirtual 169, 3) := by decide +kernel
theorem dMo_endIn_122 : decode zbMo_endIn 122 = .ok (.aload_n 0, 1) := by decide +kernel
theorem dMo_endIn_123 : decode zbMo_endIn 123 = .ok (.iload_n 1, 1) := by decide +kernel
theorem dMo_endIn_124 : decode zbMo_endIn 124 = .ok (.bipush 35, 2) := by decide +kernel
theorem dMo_endIn_126 : decode zbMo_endIn 126 = .ok (.invokevirtual 169, 3) := by decide +kernel
theorem dMo_endIn_129 : decode zbMo_endIn 129 = .ok (.return_, 1) := by decide +kernel
theorem dMo_begin_0 : decode zbMo_begin 0 = .ok (.iconst 1, 1) := by decide +kernel
theorem dMo_begin_1 : decode zbMo_begin 1 = .ok (.aload_n 0, 1) := by decide +kernel
theorem dMo_begin_2 : decode zbMo_begin 2 = .ok (.getfield 112, 3) := by decide +kernel
theorem dMo_begin_5 : decode zbMo_begin 5 = .ok (.isub, 1) := by decide +kernel
theorem dMo_begin_6 : decode zbMo_begin 6 = .ok (.istore_n 1, 1) := by decide +kernel
theorem dMo_begin_7 : decode zbMo_begin 7 = .ok (.aload_n 0, 1) := by decide +kernel
theorem dMo_begin_8 : decode zbMo_begin 8 = .ok (.bipush 10, 2) := by decide +kernel
theorem dMo_begin_10 : decode zbMo_begin 10 = .ok (.iload_n 1, 1) := by decide +kernel
theorem dMo_begin_11 : decode zbMo_begin 11 = .ok (.imul, 1) := by decide +kernel
theorem dMo_begin_12 : decode zbMo_begin 12 = .ok (.invokevirtual 172, 3) := by decide +kernel
theorem dMo_begin_15 : decode zbMo_begin 15 = .ok (.istore_n 2, 1) := by decide +kernel
theorem dMo_begin_16 : decode zbMo_begin 16 = .ok (.aload_n 0, 1) := by decide +kernel
theorem dMo_begin_17 : decode zbMo_begin 17 = .ok (.aload_n 0, 1) := by decide +kernel
theorem dMo_begin_18 : decode zbMo_begin 18 = .ok (.bipush 10, 2) := by decide +kernel
theorem dMo_begin_20 : decode zbMo_begin 20 = .ok (.iload_n 1, 1) := by decide +kernel
theorem dMo_begin_21 : decode zbMo_begin 21 = .ok (.imul, 1) := by decide +kernel
theorem dMo_begin_22 : decode zbMo_begin 22 = .ok (.iload_n 2, 1) := by decide +kernel
theorem dMo_begin_23 : decode zbMo_begin 23 = .ok (.invokevirtual 175, 3) := by decide +kernel
theorem dMo_begin_26 : decode zbMo_begin 26 = .ok (.putfield 13, 3) := by decide +kernel
theorem dMo_begin_29 : decode zbMo_begin 29 = .ok (.aload_n 0, 1) := by decide +kernel
theorem dMo_begin_30 : decode zbMo_begin 30 = .ok (.aload_n 0, 1) := by decide +kernel
theorem dMo_begin_31 : decode zbMo_begin 31 = .ok (.getfield 13, 3) := by decide +kernel
theorem dMo_begin_34 : decode zbMo_begin 34 = .ok (.ifCond .lt 7, 3) := by decide +kernel
theorem dMo_begin_37 : decode zbMo_begin 37 = .ok (.iconst 1, 1) := by decide +kernel
theorem dMo_begin_38 : decode zbMo_begin 38 = .ok (.goto 4, 3) := by decide +kernel
theorem dMo_begin_41 : decode zbMo_begin 41 = .ok (.iconst 0, 1) := by decide +kernel
theorem dMo_begin_42 : decode zbMo_begin 42 = .ok (.putfield 60, 3) := by decide +kernel
theorem dMo_begin_45 : decode zbMo_begin 45 = .ok (.aload_n 0, 1) := by decide +kernel
theorem dMo_begin_46 : decode zbMo_begin 46 = .ok (.getfield 60, 3) := by decide +kernel
theorem dMo_begin_49 : decode zbMo_begin 49 = .ok (.ifCond .le 5, 3) := by decide +kernel
theorem dMo_begin_52 : decode zbMo_begin 52 = .ok (.iconst 0, 1) := by decide +kernel
theorem dMo_begin_53 : decode zbMo_begin 53 = .ok (.ireturn, 1) := by decide +kernel
theorem dMo_begin_54 : decode zbMo_begin 54 = .ok (.aload_n 0, 1) := by decide +kernel
theorem dMo_begin_55 : decode zbMo_begin 55 = .ok (.getfield 125, 3) := by decide +kernel
theorem dMo_begin_58 : decode zbMo_begin 58 = .ok (.istore_n 3, 1) := by decide +kernel
theorem dMo_begin_59 : decode zbMo_begin 59 = .ok (.aload_n 0, 1) := by decide +kernel
theorem dMo_begin_60 : decode zbMo_begin 60 = .ok (.iload_n 1, 1) := by decide +kernel
theorem dMo_begin_61 : decode zbMo_begin 61 = .ok (.putfield 112, 3) := by decide +kernel
theorem dMo_begin_64 : decode zbMo_begin 64 = .ok (.aload_n 0, 1) := by decide +kernel
theorem dMo_begin_65 : decode zbMo_begin 65 = .ok (.iload_n 2, 1) := by decide +kernel
theorem dMo_begin_66 : decode zbMo_begin 66 = .ok (.putfield 125, 3) := by decide +kernel
theorem dMo_begin_69 : decode zbMo_begin 69 = .ok (.iconst 0, 1) := by decide +kernel
theorem dMo_begin_70 : decode zbMo_begin 70 = .ok (.istore 4, 2) := by decide +kernel
theorem dMo_begin_72 : decode zbMo_begin 72 = .ok (.iload 4, 2) := by decide +kernel
theorem dMo_begin_74 : decode zbMo_begin 74 = .ok (.bipush 71, 2) := by decide +kernel
theorem dMo_begin_76 : decode zbMo_begin 76 = .ok (.if_icmp .ge 21, 3) := by decide +kernel
theorem dMo_begin_79 : decode zbMo_begin 79 = .ok (.aload_n 0, 1) := by decide +kernel
theorem dMo_begin_80 : decode zbMo_begin 80 = .ok (.getfield 54, 3) := by decide +kernel
theorem dMo_begin_83 : decode zbMo_begin 83 = .ok (.sipush 923, 3) := by decide +kernel
theorem dMo_begin_86 : decode zbMo_begin 86 = .ok (.iload 4, 2) := by decide +kernel
theorem dMo_begin_88 : decode zbMo_begin 88 = .ok (.iadd, 1) := by decide +kernel
theorem dMo_begin_89 : decode zbMo_begin 89 = .ok (.iconst 0, 1) := by decide +kernel
theorem dMo_begin_90 : decode zbMo_begin 90 = .ok (.iastore, 1) := by decide +kernel
theorem dMo_begin_91 : decode zbMo_begin 91 = .ok (.iinc 4 1, 3) := by decide +kernel
theorem dMo_begin_94 : decode zbMo_begin 94 = .ok (.goto (-22), 3) := by decide +kernel
theorem dMo_begin_97 : decode zbMo_begin 97 = .ok (.aload_n 0, 1) := by decide +kernel
theorem dMo_begin_98 : decode zbMo_begin 98 = .ok (.invokevirtual 152, 3) := by decide +kernel
theorem dMo_begin_101 : decode zbMo_begin 101 = .ok (.aload_n 0, 1) := by decide +kernel
theorem dMo_begin_102 : decode zbMo_begin 102 = .ok (.iconst 0, 1) := by decide +kernel
theorem dMo_begin_103 : decode zbMo_begin 103 = .ok (.iconst 0, 1) := by decide +kernel
theorem dMo_begin_104 : decode zbMo_begin 104 = .ok (.iconst 0, 1) := by decide +kernel
theorem dMo_begin_105 : decode zbMo_begin 105 = .ok (.invokevirtual 137, 3) := by decide +kernel
theorem dMo_begin_108 : decode zbMo_begin 108 = .ok (.aload_n 0, 1) := by decide +kernel
theorem dMo_begin_109 : decode zbMo_begin 109 = .ok (.bipush 13, 2) := by decide +kernel
theorem dMo_begin_111 : decode zbMo_begin 111 = .ok (.invokevirtual 165, 3) := by decide +kernel
theorem dMo_begin_114 : decode zbMo_begin 114 = .ok (.aload_n 0, 1) := by decide +kernel
theorem dMo_begin_115 : decode zbMo_begin 115 = .ok (.getfield 109, 3) := by decide +kernel
theorem dMo_begin_118 : decode zbMo_begin 118 = .ok (.ifCond .eq 25, 3) := by decide +kernel
theorem dMo_begin_121 : decode zbMo_begin 121 = .ok (.aload_n 0, 1) := by decide +kernel
theorem dMo_begin_122 : decode zbMo_begin 122 = .ok (.iconst 1, 1) := by decide +kernel
theorem dMo_begin_123 : decode zbMo_begin 123 = .ok (.aload_n 0, 1) := by decide +kernel
theorem dMo_begin_124 : decode zbMo_begin 124 = .ok (.getfield 112, 3) := by decide +kernel
theorem dMo_begin_127 : decode zbMo_begin 127 = .ok (.isub, 1) := by decide +kernel
theorem dMo_begin_128 : decode zbMo_begin 128 = .ok (.putfield 112, 3) := by decide +kernel
theorem dMo_begin_131 : decode zbMo_begin 131 = .ok (.aload_n 0, 1) := by decide +kernel
theorem dMo_begin_132 : decode zbMo_begin 132 = .ok (.iload_n 3, 1) := by decide +kernel
theorem dMo_begin_133 : decode zbMo_begin 133 = .ok (.putfield 125, 3) := by decide +kernel
theorem dMo_begin_136 : decode zbMo_begin 136 = .ok (.aload_n 0, 1) := by decide +kernel
theorem dMo_begin_137 : decode zbMo_begin 137 = .ok (.iconst 2, 1) := by decide +kernel
theorem dMo_begin_138 : decode zbMo_begin 138 = .ok (.putfield 60, 3) := by decide +kernel
theorem dMo_begin_141 : decode zbMo_begin 141 = .ok (.iconst 0, 1) := by decide +kernel
theorem dMo_begin_142 : decode zbMo_begin 142 = .ok (.ireturn, 1) := by decide +kernel
theorem dMo_begin_143 : decode zbMo_begin 143 = .ok (.aload_n 0, 1) := by decide +kernel
theorem dMo_begin_144 : decode zbMo_begin 144 = .ok (.bipush 13, 2) := by decide +kernel
theorem dMo_begin_146 : decode zbMo_begin 146 = .ok (.iconst 0, 1) := by decide +kernel
theorem dMo_begin_147 : decode zbMo_begin 147 = .ok (.invokevirtual 178, 3) := by decide +kernel
theorem dMo_begin_150 : decode zbMo_begin 150 = .ok (.aload_n 0, 1) := by decide +kernel
theorem dMo_begin_151 : decode zbMo_begin 151 = .ok (.iconst 1, 1) := by decide +kernel
theorem dMo_begin_152 : decode zbMo_begin 152 = .ok (.putfield 68, 3) := by decide +kernel
theorem dMo_begin_155 : decode zbMo_begin 155 = .ok (.aload_n 0, 1) := by decide +kernel
theorem dMo_begin_156 : decode zbMo_begin 156 = .ok (.iconst 0, 1) := by decide +kernel
theorem dMo_begin_157 : decode zbMo_begin 157 = .ok (.putfield 181, 3) := by decide +kernel
theorem dMo_begin_160 : decode zbMo_begin 160 = .ok (.aload_n 0, 1) := by decide +kernel
theorem dMo_begin_161 : decode zbMo_begin 161 = .ok (.iconst 0, 1) := by decide +kernel
theorem dMo_begin_162 : decode zbMo_begin 162 = .ok (.putfield 65, 3) := by decide +kernel
theorem dMo_begin_165 : decode zbMo_begin 165 = .ok (.iload_n 2, 1) := by decide +kernel
theorem dMo_begin_166 : decode zbMo_begin 166 = .ok (.ireturn, 1) := by decide +kernel
theorem dMo_stop_0 : decode zbMo_stop 0 = .ok (.aload_n 0, 1) := by decide +kernel
theorem dMo_stop_1 : decode zbMo_stop 1 = .ok (.iconst 0, 1) := by decide +kernel
theorem dMo_stop_2 : decode zbMo_stop 2 = .ok (.putfield 60, 3) := by decide +kernel
theorem dMo_stop_5 : decode zbMo_stop 5 = .ok (.aload_n 0, 1) := by decide +kernel
theorem dMo_stop_6 : decode zbMo_stop 6 = .ok (.getfield 68, 3) := by decide +kernel
theorem dMo_stop_9 : decode zbMo_stop 9 = .ok (.istore_n 1, 1) := by decide +kernel
theorem dMo_stop_10 : decode zbMo_stop 10 = .ok (.aload_n 0, 1) := by decide +kernel
theorem dMo_stop_11 : decode zbMo_stop 11 = .ok (.iconst 0, 1) := by decide +kernel
theorem dMo_stop_12 : decode zbMo_stop 12 = .ok (.putfield 68, 3) := by decide +kernel
theorem dMo_stop_15 : decode zbMo_stop 15 = .ok (.aload_n 0, 1) := by decide +kernel
theorem dMo_stop_16 : decode zbMo_stop 16 = .ok (.iconst 0, 1) := by decide +kernel
theorem dMo_stop_17 : decode zbMo_stop 17 = .ok (.putfield 181, 3) := by decide +kernel
theorem dMo_stop_20 : decode zbMo_stop 20 = .ok (.iload_n 1, 1) := by decide +kernel
theorem dMo_stop_21 : decode zbMo_stop 21 = .ok (.ireturn, 1) := by decide +kernel
theorem dMo_fault_0 : decode zbMo_fault 0 = .ok (.aload_n 0, 1) := by decide +kernel
theorem dMo_fault_1 : decode zbMo_fault 1 = .ok (.iconst 0, 1) := by decide +kernel
theorem dMo_fault_2 : decode zbMo_fault 2 = .ok (.putfield 60, 3) := by decide +kernel
theorem dMo_fault_5 : decode zbMo_fault 5 = .ok (.aload_n 0, 1) := by decide +kernel
theorem dMo_fault_6 : decode zbMo_fault 6 = .ok (.getfield 13, 3) := by decide +kernel
theorem dMo_fault_9 : decode zbMo_fault 9 = .ok (.ireturn, 1) := by decide +kernel
theorem dMo_settle_0 : decode zbMo_settle 0 = .ok (.aload_n 0, 1) := by decide +kernel
theorem dMo_settle_1 : decode zbMo_settle 1 = .ok (.getfield 109, 3) := by decide +kernel
theorem dMo_settle_4 : decode zbMo_settle 4 = .ok (.ifCond .eq 10, 3) := by decide +kernel
theorem dMo_settle_7 : decode zbMo_settle 7 = .ok (.aload_n 0, 1) := by decide +kernel
theorem dMo_settle_8 : decode zbMo_settle 8 = .ok (.iconst 3, 1) := by decide +kernel
theorem dMo_settle_9 : decode zbMo_settle 9 = .ok (.putfield 60, 3) := by decide +kernel
theorem dMo_settle_12 : decode zbMo_settle 12 = .ok (.iconst 0, 1) := by decide +kernel
theorem dMo_settle_13 : decode zbMo_settle 13 = .ok (.ireturn, 1) := by decide +kernel
theorem dMo_settle_14 : decode zbMo_settle 14 = .ok (.aload_n 0, 1) := by decide +kernel
theorem dMo_settle_15 : decode zbMo_settle 15 = .ok (.getfield 181, 3) := by decide +kernel
theorem dMo_settle_18 : decode zbMo_settle 18 = .ok (.bipush 12, 2) := by decide +kernel
theorem dMo_settle_20 : decode zbMo_settle 20 = .ok (.if_icmp .ge 10, 3) := by decide +kernel
theorem dMo_settle_23 : decode zbMo_settle 23 = .ok (.aload_n 0, 1) := by decide +kernel
theorem dMo_settle_24 : decode zbMo_settle 24 = .ok (.getfield 181, 3) := by decide +kernel
theorem dMo_settle_27 : decode zbMo_settle 27 = .ok (.goto 5, 3) := by decide +kernel
theorem dMo_settle_30 : decode zbMo_settle 30 = .ok (.bipush 11, 2) := by decide +kernel
theorem dMo_settle_32 : decode zbMo_settle 32 = .ok (.istore_n 1, 1) := by decide +kernel
theorem dMo_settle_33 : decode zbMo_settle 33 = .ok (.iload_n 1, 1) := by decide +kernel
theorem dMo_settle_34 : decode zbMo_settle 34 = .ok (.ifCond .le 17, 3) := by decide +kernel
theorem dMo_settle_37 : decode zbMo_settle 37 = .ok (.aload_n 0, 1) := by decide +kernel
theorem dMo_settle_38 : decode zbMo_settle 38 = .ok (.iload_n 1, 1) := by decide +kernel
theorem dMo_settle_39 : decode zbMo_settle 39 = .ok (.iload_n 1, 1) := by decide +kernel
theorem dMo_settle_40 : decode zbMo_settle 40 = .ok (.iconst 1, 1) := by decide +kernel
theorem dMo_settle_41 : decode zbMo_settle 41 = .ok (.iadd, 1) := by decide +kernel
theorem dMo_settle_42 : decode zbMo_settle 42 = .ok (.invokevirtual 178, 3) := by decide +kernel
theorem dMo_settle_45 : decode zbMo_settle 45 = .ok (.iinc 1 (-1), 3) := by decide +kernel
theorem dMo_settle_48 : decode zbMo_settle 48 = .ok (.goto (-15), 3) := by decide +kernel
theorem dMo_settle_51 : decode zbMo_settle 51 = .ok (.aload_n 0, 1) := by decide +kernel
theorem dMo_settle_52 : decode zbMo_settle 52 = .ok (.aload_n 0, 1) := by decide +kernel
theorem dMo_settle_53 : decode zbMo_settle 53 = .ok (.getfield 181, 3) := by decide +kernel
theorem dMo_settle_56 : decode zbMo_settle 56 = .ok (.bipush 12, 2) := by decide +kernel
theorem dMo_settle_58 : decode zbMo_settle 58 = .ok (.if_icmp .ge 12, 3) := by decide +kernel
theorem dMo_settle_61 : decode zbMo_settle 61 = .ok (.aload_n 0, 1) := by decide +kernel
theorem dMo_settle_62 : decode zbMo_settle 62 = .ok (.getfield 181, 3) := by decide +kernel
theorem dMo_settle_65 : decode zbMo_settle 65 = .ok (.iconst 1, 1) := by decide +kernel
theorem dMo_settle_66 : decode zbMo_settle 66 = .ok (.iadd, 1) := by decide +kernel
theorem dMo_settle_67 : decode zbMo_settle 67 = .ok (.goto 5, 3) := by decide +kernel
theorem dMo_settle_70 : decode zbMo_settle 70 = .ok (.bipush 12, 2) := by decide +kernel
theorem dMo_settle_72 : decode zbMo_settle 72 = .ok (.putfield 181, 3) := by decide +kernel
theorem dMo_settle_75 : decode zbMo_settle 75 = .ok (.aload_n 0, 1) := by decide +kernel
theorem dMo_settle_76 : decode zbMo_settle 76 = .ok (.iconst 0, 1) := by decide +kernel
theorem dMo_settle_77 : decode zbMo_settle 77 = .ok (.iconst 1, 1) := by decide +kernel
theorem dMo_settle_78 : decode zbMo_settle 78 = .ok (.invokevirtual 178, 3) := by decide +kernel
theorem dMo_settle_81 : decode zbMo_settle 81 = .ok (.aload_n 0, 1) := by decide +kernel
theorem dMo_settle_82 : decode zbMo_settle 82 = .ok (.bipush 13, 2) := by decide +kernel
theorem dMo_settle_84 : decode zbMo_settle 84 = .ok (.iconst 0, 1) := by decide +kernel
theorem dMo_settle_85 : decode zbMo_settle 85 = .ok (.invokevirtual 178, 3) := by decide +kernel
theorem dMo_settle_88 : decode zbMo_settle 88 = .ok (.aload_n 0, 1) := by decide +kernel
theorem dMo_settle_89 : decode zbMo_settle 89 = .ok (.getfield 131, 3) := by decide +kernel
theorem dMo_settle_92 : decode zbMo_settle 92 = .ok (.ireturn, 1) := by decide +kernel
theorem dMo_isParty_0 : decode zbMo_isParty 0 = .ok (.iload_n 0, 1) := by decide +kernel
theorem dMo_isParty_1 : decode zbMo_isParty 1 = .ok (.ifCond .lt 12, 3) := by decide +kernel
theorem dMo_isParty_4 : decode zbMo_isParty 4 = .ok (.iload_n 0, 1) := by decide +kernel
theorem dMo_isParty_5 : decode zbMo_isParty 5 = .ok (.iconst 3, 1) := by decide +kernel
theorem dMo_isParty_6 : decode zbMo_isParty 6 = .ok (.if_icmp .ge 7, 3) := by decide +kernel
theorem dMo_isParty_9 : decode zbMo_isParty 9 = .ok (.iconst 1, 1) := by decide +kernel
theorem dMo_isParty_10 : decode zbMo_isParty 10 = .ok (.goto 4, 3) := by decide +kernel
theorem dMo_isParty_13 : decode zbMo_isParty 13 = .ok (.iconst 0, 1) := by decide +kernel
theorem dMo_isParty_14 : decode zbMo_isParty 14 = .ok (.ireturn, 1) := by decide +kernel
theorem dMo_isKind_0 : decode zbMo_isKind 0 = .ok (.iload_n 0, 1) := by decide +kernel
theorem dMo_isKind_1 : decode zbMo_isKind 1 = .ok (.ifCond .lt 12, 3) := by decide +kernel
theorem dMo_isKind_4 : decode zbMo_isKind 4 = .ok (.iload_n 0, 1) := by decide +kernel
theorem dMo_isKind_5 : decode zbMo_isKind 5 = .ok (.iconst 5, 1) := by decide +kernel
theorem dMo_isKind_6 : decode zbMo_isKind 6 = .ok (.if_icmp .ge 7, 3) := by decide +kernel
theorem dMo_isKind_9 : decode zbMo_isKind 9 = .ok (.iconst 1, 1) := by decide +kernel
theorem dMo_isKind_10 : decode zbMo_isKind 10 = .ok (.goto 4, 3) := by decide +kernel
theorem dMo_isKind_13 : decode zbMo_isKind 13 = .ok (.iconst 0, 1) := by decide +kernel
theorem dMo_isKind_14 : decode zbMo_isKind 14 = .ok (.ireturn, 1) := by decide +kernel
theorem dMo_event_0 : decode zbMo_event 0 = .ok (.aload_n 0, 1) := by decide +kernel
theorem dMo_event_1 : decode zbMo_event 1 = .ok (.aload_n 0, 1) := by decide +kernel
theorem dMo_event_2 : decode zbMo_event 2 = .ok (.getfield 68, 3) := by decide +kernel
theorem dMo_event_5 : decode zbMo_event 5 = .ok (.ifCond .ne 7, 3) := by decide +kernel
theorem dMo_event_8 : decode zbMo_event 8 = .ok (.iconst 1, 1) := by decide +kernel
theorem dMo_event_9 : decode zbMo_event 9 = .ok (.goto 22, 3) := by decide +kernel
theorem dMo_event_12 : decode zbMo_event 12 = .ok (.iload_n 1, 1) := by decide +kernel
theorem dMo_event_13 : decode zbMo_event 13 = .ok (.invokestatic 184, 3) := by decide +kernel
theorem dMo_event_16 : decode zbMo_event 16 = .ok (.ifCond .eq 10, 3) := by decide +kernel
theorem dMo_event_19 : decode zbMo_event 19 = .ok (.iload_n 2, 1) := by decide +kernel
theorem dMo_event_20 : decode zbMo_event 20 = .ok (.invokestatic 188, 3) := by decide +kernel
theorem dMo_event_23 : decode zbMo_event 23 = .ok (.ifCond .ne 7, 3) := by decide +kernel
theorem dMo_event_26 : decode zbMo_event 26 = .ok (.iconst 2, 1) := by decide +kernel
theorem dMo_event_27 : decode zbMo_event 27 = .ok (.goto 4, 3) := by decide +kernel
theorem dMo_event_30 : decode zbMo_event 30 = .ok (.iconst 0, 1) := by decide +kernel
theorem dMo_event_31 : decode zbMo_event 31 = .ok (.putfield 60, 3) := by decide +kernel
theorem dMo_event_34 : decode zbMo_event 34 = .ok (.aload_n 0, 1) := by decide +kernel
theorem dMo_event_35 : decode zbMo_event 35 = .ok (.getfield 60, 3) := by decide +kernel
theorem dMo_event_38 : decode zbMo_event 38 = .ok (.ifCond .le 5, 3) := by decide +kernel
theorem dMo_event_41 : decode zbMo_event 41 = .ok (.iconst 0, 1) := by decide +kernel
theorem dMo_event_42 : decode zbMo_event 42 = .ok (.ireturn, 1) := by decide +kernel
theorem dMo_event_43 : decode zbMo_event 43 = .ok (.aload_n 0, 1) := by decide +kernel
theorem dMo_event_44 : decode zbMo_event 44 = .ok (.iconst 0, 1) := by decide +kernel
theorem dMo_event_45 : decode zbMo_event 45 = .ok (.bipush 13, 2) := by decide +kernel
theorem dMo_event_47 : decode zbMo_event 47 = .ok (.invokevirtual 178, 3) := by decide +kernel
theorem dMo_event_50 : decode zbMo_event 50 = .ok (.aload_n 0, 1) := by decide +kernel
theorem dMo_event_51 : decode zbMo_event 51 = .ok (.bipush 13, 2) := by decide +kernel
theorem dMo_event_53 : decode zbMo_event 53 = .ok (.iload_n 1, 1) := by decide +kernel
theorem dMo_event_54 : decode zbMo_event 54 = .ok (.iload_n 2, 1) := by decide +kernel
theorem dMo_event_55 : decode zbMo_event 55 = .ok (.invokevirtual 191, 3) := by decide +kernel
theorem dMo_event_58 : decode zbMo_event 58 = .ok (.aload_n 0, 1) := by decide +kernel
theorem dMo_event_59 : decode zbMo_event 59 = .ok (.invokevirtual 194, 3) := by decide +kernel
theorem dMo_event_62 : decode zbMo_event 62 = .ok (.ireturn, 1) := by decide +kernel
theorem dMo_nextDay_0 : decode zbMo_nextDay 0 = .ok (.aload_n 0, 1) := by decide +kernel
theorem dMo_nextDay_1 : decode zbMo_nextDay 1 = .ok (.aload_n 0, 1) := by decide +kernel
theorem dMo_nextDay_2 : decode zbMo_nextDay 2 = .ok (.getfield 68, 3) := by decide +kernel
theorem dMo_nextDay_5 : decode zbMo_nextDay 5 = .ok (.ifCond .eq 14, 3) := by decide +kernel
theorem dMo_nextDay_8 : decode zbMo_nextDay 8 = .ok (.aload_n 0, 1) := by decide +kernel
theorem dMo_nextDay_9 : decode zbMo_nextDay 9 = .ok (.getfield 54, 3) := by decide +kernel
theorem dMo_nextDay_12 : decode zbMo_nextDay 12 = .ok (.iconst 0, 1) := by decide +kernel
theorem dMo_nextDay_13 : decode zbMo_nextDay 13 = .ok (.iaload, 1) := by decide +kernel
theorem dMo_nextDay_14 : decode zbMo_nextDay 14 = .ok (.bipush 60, 2) := by decide +kernel
theorem dMo_nextDay_16 : decode zbMo_nextDay 16 = .ok (.if_icmp .ne 7, 3) := by decide +kernel
theorem dMo_nextDay_19 : decode zbMo_nextDay 19 = .ok (.iconst 1, 1) := by decide +kernel
theorem dMo_nextDay_20 : decode zbMo_nextDay 20 = .ok (.goto 4, 3) := by decide +kernel
theorem dMo_nextDay_23 : decode zbMo_nextDay 23 = .ok (.iconst 0, 1) := by decide +kernel
theorem dMo_nextDay_24 : decode zbMo_nextDay 24 = .ok (.putfield 60, 3) := by decide +kernel
theorem dMo_nextDay_27 : decode zbMo_nextDay 27 = .ok (.aload_n 0, 1) := by decide +kernel
theorem dMo_nextDay_28 : decode zbMo_nextDay 28 = .ok (.getfield 60, 3) := by decide +kernel
theorem dMo_nextDay_31 : decode zbMo_nextDay 31 = .ok (.ifCond .le 5, 3) := by decide +kernel
theorem dMo_nextDay_34 : decode zbMo_nextDay 34 = .ok (.iconst 0, 1) := by decide +kernel
theorem dMo_nextDay_35 : decode zbMo_nextDay 35 = .ok (.ireturn, 1) := by decide +kernel
theorem dMo_nextDay_36 : decode zbMo_nextDay 36 = .ok (.aload_n 0, 1) := by decide +kernel
theorem dMo_nextDay_37 : decode zbMo_nextDay 37 = .ok (.iconst 0, 1) := by decide +kernel
theorem dMo_nextDay_38 : decode zbMo_nextDay 38 = .ok (.bipush 13, 2) := by decide +kernel
theorem dMo_nextDay_40 : decode zbMo_nextDay 40 = .ok (.invokevirtual 178, 3) := by decide +kernel
theorem dMo_nextDay_43 : decode zbMo_nextDay 43 = .ok (.aload_n 0, 1) := by decide +kernel
theorem dMo_nextDay_44 : decode zbMo_nextDay 44 = .ok (.bipush 13, 2) := by decide +kernel
theorem dMo_nextDay_46 : decode zbMo_nextDay 46 = .ok (.invokevirtual 198, 3) := by decide +kernel
theorem dMo_nextDay_49 : decode zbMo_nextDay 49 = .ok (.aload_n 0, 1) := by decide +kernel
theorem dMo_nextDay_50 : decode zbMo_nextDay 50 = .ok (.invokevirtual 194, 3) := by decide +kernel
theorem dMo_nextDay_53 : decode zbMo_nextDay 53 = .ok (.istore_n 1, 1) := by decide +kernel
theorem dMo_nextDay_54 : decode zbMo_nextDay 54 = .ok (.aload_n 0, 1) := by decide +kernel
theorem dMo_nextDay_55 : decode zbMo_nextDay 55 = .ok (.aload_n 0, 1) := by decide +kernel
theorem dMo_nextDay_56 : decode zbMo_nextDay 56 = .ok (.getfield 60, 3) := by decide +kernel
theorem dMo_nextDay_59 : decode zbMo_nextDay 59 = .ok (.iconst 3, 1) := by decide +kernel
theorem dMo_nextDay_60 : decode zbMo_nextDay 60 = .ok (.if_icmp .ne 7, 3) := by decide +kernel
theorem dMo_nextDay_63 : decode zbMo_nextDay 63 = .ok (.iconst 2, 1) := by decide +kernel
theorem dMo_nextDay_64 : decode zbMo_nextDay 64 = .ok (.goto 7, 3) := by decide +kernel
theorem dMo_nextDay_67 : decode zbMo_nextDay 67 = .ok (.aload_n 0, 1) := by decide +kernel
theorem dMo_nextDay_68 : decode zbMo_nextDay 68 = .ok (.getfield 60, 3) := by decide +kernel
theorem dMo_nextDay_71 : decode zbMo_nextDay 71 = .ok (.putfield 60, 3) := by decide +kernel
theorem dMo_nextDay_74 : decode zbMo_nextDay 74 = .ok (.iload_n 1, 1) := by decide +kernel
theorem dMo_nextDay_75 : decode zbMo_nextDay 75 = .ok (.ireturn, 1) := by decide +kernel
theorem dMo_undo_0 : decode zbMo_undo 0 = .ok (.aload_n 0, 1) := by decide +kernel
theorem dMo_undo_1 : decode zbMo_undo 1 = .ok (.iconst 0, 1) := by decide +kernel
theorem dMo_undo_2 : decode zbMo_undo 2 = .ok (.putfield 60, 3) := by decide +kernel
theorem dMo_undo_5 : decode zbMo_undo 5 = .ok (.aload_n 0, 1) := by decide +kernel
theorem dMo_undo_6 : decode zbMo_undo 6 = .ok (.getfield 181, 3) := by decide +kernel
theorem dMo_undo_9 : decode zbMo_undo 9 = .ok (.ifCond .ne 5, 3) := by decide +kernel
theorem dMo_undo_12 : decode zbMo_undo 12 = .ok (.iconst 0, 1) := by decide +kernel
theorem dMo_undo_13 : decode zbMo_undo 13 = .ok (.ireturn, 1) := by decide +kernel
theorem dMo_undo_14 : decode zbMo_undo 14 = .ok (.iconst 0, 1) := by decide +kernel
theorem dMo_undo_15 : decode zbMo_undo 15 = .ok (.istore_n 1, 1) := by decide +kernel
theorem dMo_undo_16 : decode zbMo_undo 16 = .ok (.iload_n 1, 1) := by decide +kernel
theorem dMo_undo_17 : decode zbMo_undo 17 = .ok (.aload_n 0, 1) := by decide +kernel
theorem dMo_undo_18 : decode zbMo_undo 18 = .ok (.getfield 181, 3) := by decide +kernel
theorem dMo_undo_21 : decode zbMo_undo 21 = .ok (.if_icmp .ge 17, 3) := by decide +kernel
theorem dMo_undo_24 : decode zbMo_undo 24 = .ok (.aload_n 0, 1) := by decide +kernel
theorem dMo_undo_25 : decode zbMo_undo 25 = .ok (.iload_n 1, 1) := by decide +kernel
theorem dMo_undo_26 : decode zbMo_undo 26 = .ok (.iconst 1, 1) := by decide +kernel
theorem dMo_undo_27 : decode zbMo_undo 27 = .ok (.iadd, 1) := by decide +kernel
theorem dMo_undo_28 : decode zbMo_undo 28 = .ok (.iload_n 1, 1) := by decide +kernel
theorem dMo_undo_29 : decode zbMo_undo 29 = .ok (.invokevirtual 178, 3) := by decide +kernel
theorem dMo_undo_32 : decode zbMo_undo 32 = .ok (.iinc 1 1, 3) := by decide +kernel
theorem dMo_undo_35 : decode zbMo_undo 35 = .ok (.goto (-19), 3) := by decide +kernel
theorem dMo_undo_38 : decode zbMo_undo 38 = .ok (.aload_n 0, 1) := by decide +kernel
theorem dMo_undo_39 : decode zbMo_undo 39 = .ok (.aload_n 0, 1) := by decide +kernel
theorem dMo_undo_40 : decode zbMo_undo 40 = .ok (.getfield 181, 3) := by decide +kernel
theorem dMo_undo_43 : decode zbMo_undo 43 = .ok (.iconst 1, 1) := by decide +kernel
theorem dMo_undo_44 : decode zbMo_undo 44 = .ok (.isub, 1) := by decide +kernel
theorem dMo_undo_45 : decode zbMo_undo 45 = .ok (.putfield 181, 3) := by decide +kernel
theorem dMo_undo_48 : decode zbMo_undo 48 = .ok (.iconst 1, 1) := by decide +kernel
theorem dMo_undo_49 : decode zbMo_undo 49 = .ok (.ireturn, 1) := by decide +kernel
theorem dMo_today_0 : decode zbMo_today 0 = .ok (.aload_n 0, 1) := by decide +kernel
theorem dMo_today_1 : decode zbMo_today 1 = .ok (.iconst 0, 1) := by decide +kernel
theorem dMo_today_2 : decode zbMo_today 2 = .ok (.putfield 60, 3) := by decide +kernel
theorem dMo_today_5 : decode zbMo_today 5 = .ok (.aload_n 0, 1) := by decide +kernel
theorem dMo_today_6 : decode zbMo_today 6 = .ok (.getfield 68, 3) := by decide +kernel
theorem dMo_today_9 : decode zbMo_today 9 = .ok (.ifCond .eq 12, 3) := by decide +kernel
theorem dMo_today_12 : decode zbMo_today 12 = .ok (.aload_n 0, 1) := by decide +kernel
theorem dMo_today_13 : decode zbMo_today 13 = .ok (.getfield 54, 3) := by decide +kernel
theorem dMo_today_16 : decode zbMo_today 16 = .ok (.iconst 0, 1) := by decide +kernel
theorem dMo_today_17 : decode zbMo_today 17 = .ok (.iaload, 1) := by decide +kernel
theorem dMo_today_18 : decode zbMo_today 18 = .ok (.goto 4, 3) := by decide +kernel
theorem dMo_today_21 : decode zbMo_today 21 = .ok (.iconst (-1), 1) := by decide +kernel
theorem dMo_today_22 : decode zbMo_today 22 = .ok (.ireturn, 1) := by decide +kernel
theorem dMo_duty_0 : decode zbMo_duty 0 = .ok (.aload_n 0, 1) := by decide +kernel
theorem dMo_duty_1 : decode zbMo_duty 1 = .ok (.iconst 0, 1) := by decide +kernel
theorem dMo_duty_2 : decode zbMo_duty 2 = .ok (.putfield 60, 3) := by decide +kernel
theorem dMo_duty_5 : decode zbMo_duty 5 = .ok (.aload_n 0, 1) := by decide +kernel
theorem dMo_duty_6 : decode zbMo_duty 6 = .ok (.getfield 68, 3) := by decide +kernel
theorem dMo_duty_9 : decode zbMo_duty 9 = .ok (.ifCond .eq 12, 3) := by decide +kernel
theorem dMo_duty_12 : decode zbMo_duty 12 = .ok (.aload_n 0, 1) := by decide +kernel
theorem dMo_duty_13 : decode zbMo_duty 13 = .ok (.getfield 54, 3) := by decide +kernel
theorem dMo_duty_16 : decode zbMo_duty 16 = .ok (.iconst 1, 1) := by decide +kernel
theorem dMo_duty_17 : decode zbMo_duty 17 = .ok (.iaload, 1) := by decide +kernel
theorem dMo_duty_18 : decode zbMo_duty 18 = .ok (.goto 4, 3) := by decide +kernel
theorem dMo_duty_21 : decode zbMo_duty 21 = .ok (.iconst 0, 1) := by decide +kernel
theorem dMo_duty_22 : decode zbMo_duty 22 = .ok (.istore_n 2, 1) := by decide +kernel
theorem dMo_duty_23 : decode zbMo_duty 23 = .ok (.iconst 0, 1) := by decide +kernel
theorem dMo_duty_24 : decode zbMo_duty 24 = .ok (.istore_n 3, 1) := by decide +kernel
theorem dMo_duty_25 : decode zbMo_duty 25 = .ok (.iload_n 3, 1) := by decide +kernel
theorem dMo_duty_26 : decode zbMo_duty 26 = .ok (.iload_n 2, 1) := by decide +kernel
theorem dMo_duty_27 : decode zbMo_duty 27 = .ok (.if_icmp .ge 109, 3) := by decide +kernel
theorem dMo_duty_30 : decode zbMo_duty 30 = .ok (.bipush 100, 2) := by decide +kernel
theorem dMo_duty_32 : decode zbMo_duty 32 = .ok (.aload_n 0, 1) := by decide +kernel
theorem dMo_duty_33 : decode zbMo_duty 33 = .ok (.iconst 0, 1) := by decide +kernel
theorem dMo_duty_34 : decode zbMo_duty 34 = .ok (.iconst 1, 1) := by decide +kernel
theorem dMo_duty_35 : decode zbMo_duty 35 = .ok (.iload_n 3, 1) := by decide +kernel
theorem dMo_duty_36 : decode zbMo_duty 36 = .ok (.invokevirtual 122, 3) := by decide +kernel
theorem dMo_duty_39 : decode zbMo_duty 39 = .ok (.imul, 1) := by decide +kernel
theorem dMo_duty_40 : decode zbMo_duty 40 = .ok (.aload_n 0, 1) := by decide +kernel
theorem dMo_duty_41 : decode zbMo_duty 41 = .ok (.iconst 0, 1) := by decide +kernel
theorem dMo_duty_42 : decode zbMo_duty 42 = .ok (.iconst 1, 1) := by decide +kernel
theorem dMo_duty_43 : decode zbMo_duty 43 = .ok (.iload_n 3, 1) := by decide +kernel
theorem dMo_duty_44 : decode zbMo_duty 44 = .ok (.invokevirtual 115, 3) := by decide +kernel
theorem dMo_duty_47 : decode zbMo_duty 47 = .ok (.iadd, 1) := by decide +kernel
theorem dMo_duty_48 : decode zbMo_duty 48 = .ok (.istore 4, 2) := by decide +kernel
theorem dMo_duty_50 : decode zbMo_duty 50 = .ok (.iconst 0, 1) := by decide +kernel
theorem dMo_duty_51 : decode zbMo_duty 51 = .ok (.istore 5, 2) := by decide +kernel
theorem dMo_duty_53 : decode zbMo_duty 53 = .ok (.iconst 0, 1) := by decide +kernel
theorem dMo_duty_54 : decode zbMo_duty 54 = .ok (.istore 6, 2) := by decide +kernel
theorem dMo_duty_56 : decode zbMo_duty 56 = .ok (.iload 6, 2) := by decide +kernel
theorem dMo_duty_58 : decode zbMo_duty 58 = .ok (.iload_n 2, 1) := by decide +kernel
theorem dMo_duty_59 : decode zbMo_duty 59 = .ok (.if_icmp .ge 62, 3) := by decide +kernel
theorem dMo_duty_62 : decode zbMo_duty 62 = .ok (.bipush 100, 2) := by decide +kernel
theorem dMo_duty_64 : decode zbMo_duty 64 = .ok (.aload_n 0, 1) := by decide +kernel
theorem dMo_duty_65 : decode zbMo_duty 65 = .ok (.iconst 0, 1) := by decide +kernel
theorem dMo_duty_66 : decode zbMo_duty 66 = .ok (.iconst 1, 1) := by decide +kernel
theorem dMo_duty_67 : decode zbMo_duty 67 = .ok (.iload 6, 2) := by decide +kernel
theorem dMo_duty_69 : decode zbMo_duty 69 = .ok (.invokevirtual 122, 3) := by decide +kernel
theorem dMo_duty_72 : decode zbMo_duty 72 = .ok (.imul, 1) := by decide +kernel
theorem dMo_duty_73 : decode zbMo_duty 73 = .ok (.aload_n 0, 1) := by decide +kernel
theorem dMo_duty_74 : decode zbMo_duty 74 = .ok (.iconst 0, 1) := by decide +kernel
theorem dMo_duty_75 : decode zbMo_duty 75 = .ok (.iconst 1, 1) := by decide +kernel
theorem dMo_duty_76 : decode zbMo_duty 76 = .ok (.iload 6, 2) := by decide +kernel
theorem dMo_duty_78 : decode zbMo_duty 78 = .ok (.invokevirtual 115, 3) := by decide +kernel
theorem dMo_duty_81 : decode zbMo_duty 81 = .ok (.iadd, 1) := by decide +kernel
theorem dMo_duty_82 : decode zbMo_duty 82 = .ok (.istore 7, 2) := by decide +kernel
theorem dMo_duty_84 : decode zbMo_duty 84 = .ok (.iload 7, 2) := by decide +kernel
theorem dMo_duty_86 : decode zbMo_duty 86 = .ok (.iload 4, 2) := by decide +kernel
theorem dMo_duty_88 : decode zbMo_duty 88 = .ok (.if_icmp .lt 16, 3) := by decide +kernel
theorem dMo_duty_91 : decode zbMo_duty 91 = .ok (.iload 7, 2) := by decide +kernel
theorem dMo_duty_93 : decode zbMo_duty 93 = .ok (.iload 4, 2) := by decide +kernel
theorem dMo_duty_95 : decode zbMo_duty 95 = .ok (.if_icmp .ne 16, 3) := by decide +kernel
theorem dMo_duty_98 : decode zbMo_duty 98 = .ok (.iload 6, 2) := by decide +kernel
theorem dMo_duty_100 : decode zbMo_duty 100 = .ok (.iload_n 3, 1) := by decide +kernel
theorem dMo_duty_101 : decode zbMo_duty 101 = .ok (.if_icmp .ge 10, 3) := by decide +kernel
theorem dMo_duty_104 : decode zbMo_duty 104 = .ok (.iload 5, 2) := by decide +kernel
theorem dMo_duty_106 : decode zbMo_duty 106 = .ok (.iconst 1, 1) := by decide +kernel
theorem dMo_duty_107 : decode zbMo_duty 107 = .ok (.iadd, 1) := by decide +kernel
theorem dMo_duty_108 : decode zbMo_duty 108 = .ok (.goto 5, 3) := by decide +kernel
theorem dMo_duty_111 : decode zbMo_duty 111 = .ok (.iload 5, 2) := by decide +kernel
theorem dMo_duty_113 : decode zbMo_duty 113 = .ok (.istore 5, 2) := by decide +kernel
theorem dMo_duty_115 : decode zbMo_duty 115 = .ok (.iinc 6 1, 3) := by decide +kernel
theorem dMo_duty_118 : decode zbMo_duty 118 = .ok (.goto (-62), 3) := by decide +kernel
theorem dMo_duty_121 : decode zbMo_duty 121 = .ok (.iload 5, 2) := by decide +kernel
theorem dMo_duty_123 : decode zbMo_duty 123 = .ok (.iload_n 1, 1) := by decide +kernel
theorem dMo_duty_124 : decode zbMo_duty 124 = .ok (.if_icmp .ne 6, 3) := by decide +kernel
theorem dMo_duty_127 : decode zbMo_duty 127 = .ok (.iload 4, 2) := by decide +kernel
theorem dMo_duty_129 : decode zbMo_duty 129 = .ok (.ireturn, 1) := by decide +kernel
theorem dMo_duty_130 : decode zbMo_duty 130 = .ok (.iinc 3 1, 3) := by decide +kernel
theorem dMo_duty_133 : decode zbMo_duty 133 = .ok (.goto (-108), 3) := by decide +kernel
theorem dMo_duty_136 : decode zbMo_duty 136 = .ok (.iconst (-1), 1) := by decide +kernel
theorem dMo_duty_137 : decode zbMo_duty 137 = .ok (.ireturn, 1) := by decide +kernel
theorem dMo_count_0 : decode zbMo_count 0 = .ok (.aload_n 0, 1) := by decide +kernel
theorem dMo_count_1 : decode zbMo_count 1 = .ok (.iconst 0, 1) := by decide +kernel
theorem dMo_count_2 : decode zbMo_count 2 = .ok (.putfield 60, 3) := by decide +kernel
theorem dMo_count_5 : decode zbMo_count 5 = .ok (.aload_n 0, 1) := by decide +kernel
theorem dMo_count_6 : decode zbMo_count 6 = .ok (.getfield 68, 3) := by decide +kernel
theorem dMo_count_9 : decode zbMo_count 9 = .ok (.ifCond .eq 12, 3) := by decide +kernel
theorem dMo_count_12 : decode zbMo_count 12 = .ok (.iload_n 1, 1) := by decide +kernel
theorem dMo_count_13 : decode zbMo_count 13 = .ok (.ifCond .lt 8, 3) := by decide +kernel
theorem dMo_count_16 : decode zbMo_count 16 = .ok (.iload_n 1, 1) := by decide +kernel
theorem dMo_count_17 : decode zbMo_count 17 = .ok (.iconst 2, 1) := by decide +kernel
theorem dMo_count_18 : decode zbMo_count 18 = .ok (.if_icmp .le 7, 3) := by decide +kernel
theorem dMo_count_21 : decode zbMo_count 21 = .ok (.iconst 0, 1) := by decide +kernel
theorem dMo_count_22 : decode zbMo_count 22 = .ok (.goto 28, 3) := by decide +kernel
theorem dMo_count_25 : decode zbMo_count 25 = .ok (.aload_n 0, 1) := by decide +kernel
theorem dMo_count_26 : decode zbMo_count 26 = .ok (.getfield 54, 3) := by decide +kernel
theorem dMo_count_29 : decode zbMo_count 29 = .ok (.iload_n 1, 1) := by decide +kernel
theorem dMo_count_30 : decode zbMo_count 30 = .ok (.ifCond .ne 7, 3) := by decide +kernel
theorem dMo_count_33 : decode zbMo_count 33 = .ok (.iconst 1, 1) := by decide +kernel
theorem dMo_count_34 : decode zbMo_count 34 = .ok (.goto 15, 3) := by decide +kernel
theorem dMo_count_37 : decode zbMo_count 37 = .ok (.iload_n 1, 1) := by decide +kernel
theorem dMo_count_38 : decode zbMo_count 38 = .ok (.iconst 1, 1) := by decide +kernel
theorem dMo_count_39 : decode zbMo_count 39 = .ok (.if_icmp .ne 8, 3) := by decide +kernel
theorem dMo_count_42 : decode zbMo_count 42 = .ok (.bipush 18, 2) := by decide +kernel
theorem dMo_count_44 : decode zbMo_count 44 = .ok (.goto 5, 3) := by decide +kernel
theorem dMo_count_47 : decode zbMo_count 47 = .ok (.bipush 35, 2) := by decide +kernel
theorem dMo_count_49 : decode zbMo_count 49 = .ok (.iaload, 1) := by decide +kernel
theorem dMo_count_50 : decode zbMo_count 50 = .ok (.ireturn, 1) := by decide +kernel
theorem dMo_breaches_0 : decode zbMo_breaches 0 = .ok (.aload_n 0, 1) := by decide +kernel
end
section
theorem dMo_breaches_1 : decode zbMo_breaches 1 = .ok (.iconst 0, 1) := by decide +kernel
theorem dMo_breaches_2 : decode zbMo_breaches 2 = .ok (.putfield 60, 3) := by decide +kernel
theorem dMo_breaches_5 : decode zbMo_breaches 5 = .ok (.aload_n 0, 1) := by decide +kernel
theorem dMo_breaches_6 : decode zbMo_breaches 6 = .ok (.getfield 68, 3) := by decide +kernel
theorem dMo_breaches_9 : decode zbMo_breaches 9 = .ok (.ifCond .eq 27, 3) := by decide +kernel
theorem dMo_breaches_12 : decode zbMo_breaches 12 = .ok (.iload_n 1, 1) := by decide +kernel
theorem dMo_breaches_13 : decode zbMo_breaches 13 = .ok (.ifCond .lt 23, 3) := by decide +kernel
theorem dMo_breaches_16 : decode zbMo_breaches 16 = .ok (.iload_n 1, 1) := by decide +kernel
theorem dMo_breaches_17 : decode zbMo_breaches 17 = .ok (.aload_n 0, 1) := by decide +kernel
theorem dMo_breaches_18 : decode zbMo_breaches 18 = .ok (.getfield 125, 3) := by decide +kernel
theorem dMo_breaches_21 : decode zbMo_breaches 21 = .ok (.if_icmp .ge 15, 3) := by decide +kernel
theorem dMo_breaches_24 : decode zbMo_breaches 24 = .ok (.aload_n 0, 1) := by decide +kernel
theorem dMo_breaches_25 : decode zbMo_breaches 25 = .ok (.getfield 54, 3) := by decide +kernel
theorem dMo_breaches_28 : decode zbMo_breaches 28 = .ok (.bipush 61, 2) := by decide +kernel
theorem dMo_breaches_30 : decode zbMo_breaches 30 = .ok (.iload_n 1, 1) := by decide +kernel
theorem dMo_breaches_31 : decode zbMo_breaches 31 = .ok (.iadd, 1) := by decide +kernel
theorem dMo_breaches_32 : decode zbMo_breaches 32 = .ok (.iaload, 1) := by decide +kernel
theorem dMo_breaches_33 : decode zbMo_breaches 33 = .ok (.goto 4, 3) := by decide +kernel
theorem dMo_breaches_36 : decode zbMo_breaches 36 = .ok (.iconst 0, 1) := by decide +kernel
theorem dMo_breaches_37 : decode zbMo_breaches 37 = .ok (.ireturn, 1) := by decide +kernel
theorem dMo_may_0 : decode zbMo_may 0 = .ok (.aload_n 0, 1) := by decide +kernel
theorem dMo_may_1 : decode zbMo_may 1 = .ok (.iconst 0, 1) := by decide +kernel
theorem dMo_may_2 : decode zbMo_may 2 = .ok (.putfield 60, 3) := by decide +kernel
theorem dMo_may_5 : decode zbMo_may 5 = .ok (.aload_n 0, 1) := by decide +kernel
theorem dMo_may_6 : decode zbMo_may 6 = .ok (.getfield 68, 3) := by decide +kernel
theorem dMo_may_9 : decode zbMo_may 9 = .ok (.ifCond .eq 17, 3) := by decide +kernel
theorem dMo_may_12 : decode zbMo_may 12 = .ok (.iload_n 1, 1) := by decide +kernel
theorem dMo_may_13 : decode zbMo_may 13 = .ok (.invokestatic 184, 3) := by decide +kernel
theorem dMo_may_16 : decode zbMo_may 16 = .ok (.ifCond .eq 10, 3) := by decide +kernel
theorem dMo_may_19 : decode zbMo_may 19 = .ok (.iload_n 2, 1) := by decide +kernel
theorem dMo_may_20 : decode zbMo_may 20 = .ok (.invokestatic 188, 3) := by decide +kernel
theorem dMo_may_23 : decode zbMo_may 23 = .ok (.ifCond .ne 5, 3) := by decide +kernel
theorem dMo_may_26 : decode zbMo_may 26 = .ok (.iconst (-1), 1) := by decide +kernel
theorem dMo_may_27 : decode zbMo_may 27 = .ok (.ireturn, 1) := by decide +kernel
theorem dMo_may_28 : decode zbMo_may 28 = .ok (.aload_n 0, 1) := by decide +kernel
theorem dMo_may_29 : decode zbMo_may 29 = .ok (.iconst 0, 1) := by decide +kernel
theorem dMo_may_30 : decode zbMo_may 30 = .ok (.bipush 18, 2) := by decide +kernel
theorem dMo_may_32 : decode zbMo_may 32 = .ok (.iload_n 1, 1) := by decide +kernel
theorem dMo_may_33 : decode zbMo_may 33 = .ok (.iload_n 2, 1) := by decide +kernel
theorem dMo_may_34 : decode zbMo_may 34 = .ok (.invokevirtual 155, 3) := by decide +kernel
theorem dMo_may_37 : decode zbMo_may 37 = .ok (.ifCond .ge 7, 3) := by decide +kernel
theorem dMo_may_40 : decode zbMo_may 40 = .ok (.iconst 0, 1) := by decide +kernel
theorem dMo_may_41 : decode zbMo_may 41 = .ok (.goto 20, 3) := by decide +kernel
theorem dMo_may_44 : decode zbMo_may 44 = .ok (.aload_n 0, 1) := by decide +kernel
theorem dMo_may_45 : decode zbMo_may 45 = .ok (.iconst 0, 1) := by decide +kernel
theorem dMo_may_46 : decode zbMo_may 46 = .ok (.bipush 35, 2) := by decide +kernel
theorem dMo_may_48 : decode zbMo_may 48 = .ok (.iload_n 1, 1) := by decide +kernel
theorem dMo_may_49 : decode zbMo_may 49 = .ok (.iload_n 2, 1) := by decide +kernel
theorem dMo_may_50 : decode zbMo_may 50 = .ok (.invokevirtual 155, 3) := by decide +kernel
theorem dMo_may_53 : decode zbMo_may 53 = .ok (.ifCond .ge 7, 3) := by decide +kernel
theorem dMo_may_56 : decode zbMo_may 56 = .ok (.iconst 2, 1) := by decide +kernel
theorem dMo_may_57 : decode zbMo_may 57 = .ok (.goto 4, 3) := by decide +kernel
theorem dMo_may_60 : decode zbMo_may 60 = .ok (.iconst 1, 1) := by decide +kernel
theorem dMo_may_61 : decode zbMo_may 61 = .ok (.ireturn, 1) := by decide +kernel
theorem dMo_owed_0 : decode zbMo_owed 0 = .ok (.aload_n 0, 1) := by decide +kernel
theorem dMo_owed_1 : decode zbMo_owed 1 = .ok (.iconst 0, 1) := by decide +kernel
theorem dMo_owed_2 : decode zbMo_owed 2 = .ok (.putfield 60, 3) := by decide +kernel
theorem dMo_owed_5 : decode zbMo_owed 5 = .ok (.aload_n 0, 1) := by decide +kernel
theorem dMo_owed_6 : decode zbMo_owed 6 = .ok (.getfield 68, 3) := by decide +kernel
theorem dMo_owed_9 : decode zbMo_owed 9 = .ok (.ifCond .eq 33, 3) := by decide +kernel
theorem dMo_owed_12 : decode zbMo_owed 12 = .ok (.iload_n 1, 1) := by decide +kernel
theorem dMo_owed_13 : decode zbMo_owed 13 = .ok (.invokestatic 184, 3) := by decide +kernel
theorem dMo_owed_16 : decode zbMo_owed 16 = .ok (.ifCond .eq 26, 3) := by decide +kernel
theorem dMo_owed_19 : decode zbMo_owed 19 = .ok (.iload_n 2, 1) := by decide +kernel
theorem dMo_owed_20 : decode zbMo_owed 20 = .ok (.invokestatic 184, 3) := by decide +kernel
theorem dMo_owed_23 : decode zbMo_owed 23 = .ok (.ifCond .eq 19, 3) := by decide +kernel
theorem dMo_owed_26 : decode zbMo_owed 26 = .ok (.aload_n 0, 1) := by decide +kernel
theorem dMo_owed_27 : decode zbMo_owed 27 = .ok (.getfield 54, 3) := by decide +kernel
theorem dMo_owed_30 : decode zbMo_owed 30 = .ok (.bipush 52, 2) := by decide +kernel
theorem dMo_owed_32 : decode zbMo_owed 32 = .ok (.iconst 3, 1) := by decide +kernel
theorem dMo_owed_33 : decode zbMo_owed 33 = .ok (.iload_n 1, 1) := by decide +kernel
theorem dMo_owed_34 : decode zbMo_owed 34 = .ok (.imul, 1) := by decide +kernel
theorem dMo_owed_35 : decode zbMo_owed 35 = .ok (.iadd, 1) := by decide +kernel
theorem dMo_owed_36 : decode zbMo_owed 36 = .ok (.iload_n 2, 1) := by decide +kernel
theorem dMo_owed_37 : decode zbMo_owed 37 = .ok (.iadd, 1) := by decide +kernel
theorem dMo_owed_38 : decode zbMo_owed 38 = .ok (.iaload, 1) := by decide +kernel
theorem dMo_owed_39 : decode zbMo_owed 39 = .ok (.goto 4, 3) := by decide +kernel
theorem dMo_owed_42 : decode zbMo_owed 42 = .ok (.iconst 0, 1) := by decide +kernel
theorem dMo_owed_43 : decode zbMo_owed 43 = .ok (.ireturn, 1) := by decide +kernel
theorem dMo_goes_0 : decode zbMo_goes 0 = .ok (.aload_n 0, 1) := by decide +kernel
theorem dMo_goes_1 : decode zbMo_goes 1 = .ok (.iload_n 1, 1) := by decide +kernel
theorem dMo_goes_2 : decode zbMo_goes 2 = .ok (.iload_n 2, 1) := by decide +kernel
theorem dMo_goes_3 : decode zbMo_goes 3 = .ok (.invokevirtual 178, 3) := by decide +kernel
theorem dMo_goes_6 : decode zbMo_goes 6 = .ok (.iconst 1, 1) := by decide +kernel
theorem dMo_goes_7 : decode zbMo_goes 7 = .ok (.istore 5, 2) := by decide +kernel
theorem dMo_goes_9 : decode zbMo_goes 9 = .ok (.iconst 0, 1) := by decide +kernel
theorem dMo_goes_10 : decode zbMo_goes 10 = .ok (.istore 6, 2) := by decide +kernel
theorem dMo_goes_12 : decode zbMo_goes 12 = .ok (.iload 6, 2) := by decide +kernel
theorem dMo_goes_14 : decode zbMo_goes 14 = .ok (.iconst 2, 1) := by decide +kernel
theorem dMo_goes_15 : decode zbMo_goes 15 = .ok (.if_icmp .ge 108, 3) := by decide +kernel
theorem dMo_goes_18 : decode zbMo_goes 18 = .ok (.iload 5, 2) := by decide +kernel
theorem dMo_goes_20 : decode zbMo_goes 20 = .ok (.ifCond .eq 103, 3) := by decide +kernel
theorem dMo_goes_23 : decode zbMo_goes 23 = .ok (.iload 4, 2) := by decide +kernel
theorem dMo_goes_25 : decode zbMo_goes 25 = .ok (.ifCond .ne 7, 3) := by decide +kernel
theorem dMo_goes_28 : decode zbMo_goes 28 = .ok (.iconst (-1), 1) := by decide +kernel
theorem dMo_goes_29 : decode zbMo_goes 29 = .ok (.goto 48, 3) := by decide +kernel
theorem dMo_goes_32 : decode zbMo_goes 32 = .ok (.iload 4, 2) := by decide +kernel
theorem dMo_goes_34 : decode zbMo_goes 34 = .ok (.bipush 6, 2) := by decide +kernel
theorem dMo_goes_36 : decode zbMo_goes 36 = .ok (.if_icmp .ge 19, 3) := by decide +kernel
theorem dMo_goes_39 : decode zbMo_goes 39 = .ok (.iload 6, 2) := by decide +kernel
theorem dMo_goes_41 : decode zbMo_goes 41 = .ok (.ifCond .ne 10, 3) := by decide +kernel
theorem dMo_goes_44 : decode zbMo_goes 44 = .ok (.iload 4, 2) := by decide +kernel
theorem dMo_goes_46 : decode zbMo_goes 46 = .ok (.iconst 1, 1) := by decide +kernel
theorem dMo_goes_47 : decode zbMo_goes 47 = .ok (.isub, 1) := by decide +kernel
theorem dMo_goes_48 : decode zbMo_goes 48 = .ok (.goto 29, 3) := by decide +kernel
theorem dMo_goes_51 : decode zbMo_goes 51 = .ok (.iconst (-1), 1) := by decide +kernel
theorem dMo_goes_52 : decode zbMo_goes 52 = .ok (.goto 25, 3) := by decide +kernel
theorem dMo_goes_55 : decode zbMo_goes 55 = .ok (.iload 6, 2) := by decide +kernel
theorem dMo_goes_57 : decode zbMo_goes 57 = .ok (.ifCond .ne 13, 3) := by decide +kernel
theorem dMo_goes_60 : decode zbMo_goes 60 = .ok (.iload 4, 2) := by decide +kernel
theorem dMo_goes_62 : decode zbMo_goes 62 = .ok (.bipush 6, 2) := by decide +kernel
theorem dMo_goes_64 : decode zbMo_goes 64 = .ok (.isub, 1) := by decide +kernel
theorem dMo_goes_65 : decode zbMo_goes 65 = .ok (.iconst 5, 1) := by decide +kernel
theorem dMo_goes_66 : decode zbMo_goes 66 = .ok (.idiv, 1) := by decide +kernel
theorem dMo_goes_67 : decode zbMo_goes 67 = .ok (.goto 10, 3) := by decide +kernel
theorem dMo_goes_70 : decode zbMo_goes 70 = .ok (.iload 4, 2) := by decide +kernel
theorem dMo_goes_72 : decode zbMo_goes 72 = .ok (.bipush 6, 2) := by decide +kernel
theorem dMo_goes_74 : decode zbMo_goes 74 = .ok (.isub, 1) := by decide +kernel
theorem dMo_goes_75 : decode zbMo_goes 75 = .ok (.iconst 5, 1) := by decide +kernel
theorem dMo_goes_76 : decode zbMo_goes 76 = .ok (.irem, 1) := by decide +kernel
theorem dMo_goes_77 : decode zbMo_goes 77 = .ok (.istore 7, 2) := by decide +kernel
theorem dMo_goes_79 : decode zbMo_goes 79 = .ok (.iload 7, 2) := by decide +kernel
theorem dMo_goes_81 : decode zbMo_goes 81 = .ok (.ifCond .lt 36, 3) := by decide +kernel
theorem dMo_goes_84 : decode zbMo_goes 84 = .ok (.aload_n 0, 1) := by decide +kernel
theorem dMo_goes_85 : decode zbMo_goes 85 = .ok (.iload_n 2, 1) := by decide +kernel
theorem dMo_goes_86 : decode zbMo_goes 86 = .ok (.iload_n 3, 1) := by decide +kernel
theorem dMo_goes_87 : decode zbMo_goes 87 = .ok (.iload 7, 2) := by decide +kernel
theorem dMo_goes_89 : decode zbMo_goes 89 = .ok (.invokevirtual 191, 3) := by decide +kernel
theorem dMo_goes_92 : decode zbMo_goes 92 = .ok (.aload_n 0, 1) := by decide +kernel
theorem dMo_goes_93 : decode zbMo_goes 93 = .ok (.getfield 109, 3) := by decide +kernel
theorem dMo_goes_96 : decode zbMo_goes 96 = .ok (.ifCond .ne 18, 3) := by decide +kernel
theorem dMo_goes_99 : decode zbMo_goes 99 = .ok (.aload_n 0, 1) := by decide +kernel
theorem dMo_goes_100 : decode zbMo_goes 100 = .ok (.getfield 134, 3) := by decide +kernel
theorem dMo_goes_103 : decode zbMo_goes 103 = .ok (.iload_n 3, 1) := by decide +kernel
theorem dMo_goes_104 : decode zbMo_goes 104 = .ok (.ishr, 1) := by decide +kernel
theorem dMo_goes_105 : decode zbMo_goes 105 = .ok (.iconst 1, 1) := by decide +kernel
theorem dMo_goes_106 : decode zbMo_goes 106 = .ok (.iand, 1) := by decide +kernel
theorem dMo_goes_107 : decode zbMo_goes 107 = .ok (.ifCond .ne 7, 3) := by decide +kernel
theorem dMo_goes_110 : decode zbMo_goes 110 = .ok (.iconst 1, 1) := by decide +kernel
theorem dMo_goes_111 : decode zbMo_goes 111 = .ok (.goto 4, 3) := by decide +kernel
theorem dMo_goes_114 : decode zbMo_goes 114 = .ok (.iconst 0, 1) := by decide +kernel
theorem dMo_goes_115 : decode zbMo_goes 115 = .ok (.istore 5, 2) := by decide +kernel
theorem dMo_goes_117 : decode zbMo_goes 117 = .ok (.iinc 6 1, 3) := by decide +kernel
theorem dMo_goes_120 : decode zbMo_goes 120 = .ok (.goto (-108), 3) := by decide +kernel
theorem dMo_goes_123 : decode zbMo_goes 123 = .ok (.iload 5, 2) := by decide +kernel
theorem dMo_goes_125 : decode zbMo_goes 125 = .ok (.ifCond .eq 33, 3) := by decide +kernel
theorem dMo_goes_128 : decode zbMo_goes 128 = .ok (.aload_n 0, 1) := by decide +kernel
theorem dMo_goes_129 : decode zbMo_goes 129 = .ok (.iload_n 2, 1) := by decide +kernel
theorem dMo_goes_130 : decode zbMo_goes 130 = .ok (.invokevirtual 198, 3) := by decide +kernel
theorem dMo_goes_133 : decode zbMo_goes 133 = .ok (.aload_n 0, 1) := by decide +kernel
theorem dMo_goes_134 : decode zbMo_goes 134 = .ok (.getfield 109, 3) := by decide +kernel
theorem dMo_goes_137 : decode zbMo_goes 137 = .ok (.ifCond .ne 18, 3) := by decide +kernel
theorem dMo_goes_140 : decode zbMo_goes 140 = .ok (.aload_n 0, 1) := by decide +kernel
theorem dMo_goes_141 : decode zbMo_goes 141 = .ok (.getfield 134, 3) := by decide +kernel
theorem dMo_goes_144 : decode zbMo_goes 144 = .ok (.iload_n 3, 1) := by decide +kernel
theorem dMo_goes_145 : decode zbMo_goes 145 = .ok (.ishr, 1) := by decide +kernel
theorem dMo_goes_146 : decode zbMo_goes 146 = .ok (.iconst 1, 1) := by decide +kernel
theorem dMo_goes_147 : decode zbMo_goes 147 = .ok (.iand, 1) := by decide +kernel
theorem dMo_goes_148 : decode zbMo_goes 148 = .ok (.ifCond .ne 7, 3) := by decide +kernel
theorem dMo_goes_151 : decode zbMo_goes 151 = .ok (.iconst 1, 1) := by decide +kernel
theorem dMo_goes_152 : decode zbMo_goes 152 = .ok (.goto 4, 3) := by decide +kernel
theorem dMo_goes_155 : decode zbMo_goes 155 = .ok (.iconst 0, 1) := by decide +kernel
theorem dMo_goes_156 : decode zbMo_goes 156 = .ok (.istore 5, 2) := by decide +kernel
theorem dMo_goes_158 : decode zbMo_goes 158 = .ok (.iload 5, 2) := by decide +kernel
theorem dMo_goes_160 : decode zbMo_goes 160 = .ok (.ireturn, 1) := by decide +kernel
theorem dMo_hasOne_0 : decode zbMo_hasOne 0 = .ok (.iconst 0, 1) := by decide +kernel
theorem dMo_hasOne_1 : decode zbMo_hasOne 1 = .ok (.istore 4, 2) := by decide +kernel
theorem dMo_hasOne_3 : decode zbMo_hasOne 3 = .ok (.iconst 0, 1) := by decide +kernel
theorem dMo_hasOne_4 : decode zbMo_hasOne 4 = .ok (.istore 5, 2) := by decide +kernel
theorem dMo_hasOne_6 : decode zbMo_hasOne 6 = .ok (.iload 5, 2) := by decide +kernel
theorem dMo_hasOne_8 : decode zbMo_hasOne 8 = .ok (.bipush 31, 2) := by decide +kernel
theorem dMo_hasOne_10 : decode zbMo_hasOne 10 = .ok (.if_icmp .ge 25, 3) := by decide +kernel
theorem dMo_hasOne_13 : decode zbMo_hasOne 13 = .ok (.iload 4, 2) := by decide +kernel
theorem dMo_hasOne_15 : decode zbMo_hasOne 15 = .ok (.ifCond .ne 20, 3) := by decide +kernel
theorem dMo_hasOne_18 : decode zbMo_hasOne 18 = .ok (.aload_n 0, 1) := by decide +kernel
theorem dMo_hasOne_19 : decode zbMo_hasOne 19 = .ok (.iload_n 1, 1) := by decide +kernel
theorem dMo_hasOne_20 : decode zbMo_hasOne 20 = .ok (.iload_n 2, 1) := by decide +kernel
theorem dMo_hasOne_21 : decode zbMo_hasOne 21 = .ok (.iload_n 3, 1) := by decide +kernel
theorem dMo_hasOne_22 : decode zbMo_hasOne 22 = .ok (.iload 5, 2) := by decide +kernel
theorem dMo_hasOne_24 : decode zbMo_hasOne 24 = .ok (.invokevirtual 201, 3) := by decide +kernel
theorem dMo_hasOne_27 : decode zbMo_hasOne 27 = .ok (.istore 4, 2) := by decide +kernel
theorem dMo_hasOne_29 : decode zbMo_hasOne 29 = .ok (.iinc 5 1, 3) := by decide +kernel
theorem dMo_hasOne_32 : decode zbMo_hasOne 32 = .ok (.goto (-26), 3) := by decide +kernel
theorem dMo_hasOne_35 : decode zbMo_hasOne 35 = .ok (.iload 4, 2) := by decide +kernel
theorem dMo_hasOne_37 : decode zbMo_hasOne 37 = .ok (.ireturn, 1) := by decide +kernel
theorem dMo_firstCourse_0 : decode zbMo_firstCourse 0 = .ok (.iconst 0, 1) := by decide +kernel
theorem dMo_firstCourse_1 : decode zbMo_firstCourse 1 = .ok (.istore 4, 2) := by decide +kernel
theorem dMo_firstCourse_3 : decode zbMo_firstCourse 3 = .ok (.iload 4, 2) := by decide +kernel
theorem dMo_firstCourse_5 : decode zbMo_firstCourse 5 = .ok (.bipush 31, 2) := by decide +kernel
theorem dMo_firstCourse_7 : decode zbMo_firstCourse 7 = .ok (.if_icmp .ge 42, 3) := by decide +kernel
theorem dMo_firstCourse_10 : decode zbMo_firstCourse 10 = .ok (.aload_n 0, 1) := by decide +kernel
theorem dMo_firstCourse_11 : decode zbMo_firstCourse 11 = .ok (.iload_n 1, 1) := by decide +kernel
theorem dMo_firstCourse_12 : decode zbMo_firstCourse 12 = .ok (.bipush 15, 2) := by decide +kernel
theorem dMo_firstCourse_14 : decode zbMo_firstCourse 14 = .ok (.iload_n 2, 1) := by decide +kernel
theorem dMo_firstCourse_15 : decode zbMo_firstCourse 15 = .ok (.iload 4, 2) := by decide +kernel
theorem dMo_firstCourse_17 : decode zbMo_firstCourse 17 = .ok (.invokevirtual 201, 3) := by decide +kernel
theorem dMo_firstCourse_20 : decode zbMo_firstCourse 20 = .ok (.ifCond .eq 23, 3) := by decide +kernel
theorem dMo_firstCourse_23 : decode zbMo_firstCourse 23 = .ok (.iload_n 3, 1) := by decide +kernel
theorem dMo_firstCourse_24 : decode zbMo_firstCourse 24 = .ok (.iconst 1, 1) := by decide +kernel
theorem dMo_firstCourse_25 : decode zbMo_firstCourse 25 = .ok (.if_icmp .eq 15, 3) := by decide +kernel
theorem dMo_firstCourse_28 : decode zbMo_firstCourse 28 = .ok (.aload_n 0, 1) := by decide +kernel
theorem dMo_firstCourse_29 : decode zbMo_firstCourse 29 = .ok (.bipush 15, 2) := by decide +kernel
theorem dMo_firstCourse_31 : decode zbMo_firstCourse 31 = .ok (.bipush 16, 2) := by decide +kernel
theorem dMo_firstCourse_33 : decode zbMo_firstCourse 33 = .ok (.iload_n 2, 1) := by decide +kernel
theorem dMo_firstCourse_34 : decode zbMo_firstCourse 34 = .ok (.invokevirtual 205, 3) := by decide +kernel
theorem dMo_firstCourse_37 : decode zbMo_firstCourse 37 = .ok (.ifCond .eq 6, 3) := by decide +kernel
theorem dMo_firstCourse_40 : decode zbMo_firstCourse 40 = .ok (.iload 4, 2) := by decide +kernel
theorem dMo_firstCourse_42 : decode zbMo_firstCourse 42 = .ok (.ireturn, 1) := by decide +kernel
theorem dMo_firstCourse_43 : decode zbMo_firstCourse 43 = .ok (.iinc 4 1, 3) := by decide +kernel
theorem dMo_firstCourse_46 : decode zbMo_firstCourse 46 = .ok (.goto (-43), 3) := by decide +kernel
theorem dMo_firstCourse_49 : decode zbMo_firstCourse 49 = .ok (.iconst (-1), 1) := by decide +kernel
theorem dMo_firstCourse_50 : decode zbMo_firstCourse 50 = .ok (.ireturn, 1) := by decide +kernel
theorem dMo_askCode_0 : decode zbMo_askCode 0 = .ok (.aload_n 0, 1) := by decide +kernel
theorem dMo_askCode_1 : decode zbMo_askCode 1 = .ok (.getfield 68, 3) := by decide +kernel
theorem dMo_askCode_4 : decode zbMo_askCode 4 = .ok (.ifCond .ne 7, 3) := by decide +kernel
theorem dMo_askCode_7 : decode zbMo_askCode 7 = .ok (.iconst 1, 1) := by decide +kernel
theorem dMo_askCode_8 : decode zbMo_askCode 8 = .ok (.goto 36, 3) := by decide +kernel
theorem dMo_askCode_11 : decode zbMo_askCode 11 = .ok (.iload_n 1, 1) := by decide +kernel
theorem dMo_askCode_12 : decode zbMo_askCode 12 = .ok (.invokestatic 184, 3) := by decide +kernel
theorem dMo_askCode_15 : decode zbMo_askCode 15 = .ok (.ifCond .eq 24, 3) := by decide +kernel
theorem dMo_askCode_18 : decode zbMo_askCode 18 = .ok (.iload_n 2, 1) := by decide +kernel
theorem dMo_askCode_19 : decode zbMo_askCode 19 = .ok (.iconst 1, 1) := by decide +kernel
theorem dMo_askCode_20 : decode zbMo_askCode 20 = .ok (.if_icmp .lt 19, 3) := by decide +kernel
theorem dMo_askCode_23 : decode zbMo_askCode 23 = .ok (.iload_n 2, 1) := by decide +kernel
theorem dMo_askCode_24 : decode zbMo_askCode 24 = .ok (.iconst 2, 1) := by decide +kernel
theorem dMo_askCode_25 : decode zbMo_askCode 25 = .ok (.if_icmp .gt 14, 3) := by decide +kernel
theorem dMo_askCode_28 : decode zbMo_askCode 28 = .ok (.aload_n 0, 1) := by decide +kernel
theorem dMo_askCode_29 : decode zbMo_askCode 29 = .ok (.getfield 54, 3) := by decide +kernel
theorem dMo_askCode_32 : decode zbMo_askCode 32 = .ok (.iconst 0, 1) := by decide +kernel
theorem dMo_askCode_33 : decode zbMo_askCode 33 = .ok (.iaload, 1) := by decide +kernel
theorem dMo_askCode_34 : decode zbMo_askCode 34 = .ok (.bipush 58, 2) := by decide +kernel
theorem dMo_askCode_36 : decode zbMo_askCode 36 = .ok (.if_icmp .le 7, 3) := by decide +kernel
theorem dMo_askCode_39 : decode zbMo_askCode 39 = .ok (.iconst 2, 1) := by decide +kernel
theorem dMo_askCode_40 : decode zbMo_askCode 40 = .ok (.goto 4, 3) := by decide +kernel
theorem dMo_askCode_43 : decode zbMo_askCode 43 = .ok (.iconst 0, 1) := by decide +kernel
theorem dMo_askCode_44 : decode zbMo_askCode 44 = .ok (.ireturn, 1) := by decide +kernel
theorem dMo_course_0 : decode zbMo_course 0 = .ok (.aload_n 0, 1) := by decide +kernel
theorem dMo_course_1 : decode zbMo_course 1 = .ok (.aload_n 0, 1) := by decide +kernel
theorem dMo_course_2 : decode zbMo_course 2 = .ok (.iload_n 1, 1) := by decide +kernel
theorem dMo_course_3 : decode zbMo_course 3 = .ok (.iload_n 2, 1) := by decide +kernel
theorem dMo_course_4 : decode zbMo_course 4 = .ok (.invokevirtual 208, 3) := by decide +kernel
theorem dMo_course_7 : decode zbMo_course 7 = .ok (.putfield 60, 3) := by decide +kernel
theorem dMo_course_10 : decode zbMo_course 10 = .ok (.aload_n 0, 1) := by decide +kernel
theorem dMo_course_11 : decode zbMo_course 11 = .ok (.getfield 60, 3) := by decide +kernel
theorem dMo_course_14 : decode zbMo_course 14 = .ok (.ifCond .le 5, 3) := by decide +kernel
theorem dMo_course_17 : decode zbMo_course 17 = .ok (.iconst 0, 1) := by decide +kernel
theorem dMo_course_18 : decode zbMo_course 18 = .ok (.ireturn, 1) := by decide +kernel
theorem dMo_course_19 : decode zbMo_course 19 = .ok (.aload_n 0, 1) := by decide +kernel
theorem dMo_course_20 : decode zbMo_course 20 = .ok (.iconst 0, 1) := by decide +kernel
theorem dMo_course_21 : decode zbMo_course 21 = .ok (.iload_n 1, 1) := by decide +kernel
theorem dMo_course_22 : decode zbMo_course 22 = .ok (.iload_n 2, 1) := by decide +kernel
theorem dMo_course_23 : decode zbMo_course 23 = .ok (.invokevirtual 211, 3) := by decide +kernel
theorem dMo_course_26 : decode zbMo_course 26 = .ok (.istore_n 3, 1) := by decide +kernel
theorem dMo_course_27 : decode zbMo_course 27 = .ok (.iload_n 3, 1) := by decide +kernel
theorem dMo_course_28 : decode zbMo_course 28 = .ok (.iconst 1, 1) := by decide +kernel
theorem dMo_course_29 : decode zbMo_course 29 = .ok (.if_icmp .ge 7, 3) := by decide +kernel
theorem dMo_course_32 : decode zbMo_course 32 = .ok (.iload_n 3, 1) := by decide +kernel
theorem dMo_course_33 : decode zbMo_course 33 = .ok (.goto 35, 3) := by decide +kernel
theorem dMo_course_36 : decode zbMo_course 36 = .ok (.iload_n 3, 1) := by decide +kernel
theorem dMo_course_37 : decode zbMo_course 37 = .ok (.bipush 6, 2) := by decide +kernel
theorem dMo_course_39 : decode zbMo_course 39 = .ok (.if_icmp .ge 10, 3) := by decide +kernel
theorem dMo_course_42 : decode zbMo_course 42 = .ok (.bipush 9, 2) := by decide +kernel
theorem dMo_course_44 : decode zbMo_course 44 = .ok (.iload_n 3, 1) := by decide +kernel
theorem dMo_course_45 : decode zbMo_course 45 = .ok (.iadd, 1) := by decide +kernel
theorem dMo_course_46 : decode zbMo_course 46 = .ok (.goto 22, 3) := by decide +kernel
theorem dMo_course_49 : decode zbMo_course 49 = .ok (.bipush 100, 2) := by decide +kernel
theorem dMo_course_51 : decode zbMo_course 51 = .ok (.bipush 10, 2) := by decide +kernel
theorem dMo_course_53 : decode zbMo_course 53 = .ok (.iload_n 3, 1) := by decide +kernel
theorem dMo_course_54 : decode zbMo_course 54 = .ok (.bipush 6, 2) := by decide +kernel
theorem dMo_course_56 : decode zbMo_course 56 = .ok (.isub, 1) := by decide +kernel
theorem dMo_course_57 : decode zbMo_course 57 = .ok (.iconst 5, 1) := by decide +kernel
theorem dMo_course_58 : decode zbMo_course 58 = .ok (.idiv, 1) := by decide +kernel
theorem dMo_course_59 : decode zbMo_course 59 = .ok (.imul, 1) := by decide +kernel
theorem dMo_course_60 : decode zbMo_course 60 = .ok (.iadd, 1) := by decide +kernel
theorem dMo_course_61 : decode zbMo_course 61 = .ok (.iload_n 3, 1) := by decide +kernel
theorem dMo_course_62 : decode zbMo_course 62 = .ok (.bipush 6, 2) := by decide +kernel
theorem dMo_course_64 : decode zbMo_course 64 = .ok (.isub, 1) := by decide +kernel
theorem dMo_course_65 : decode zbMo_course 65 = .ok (.iconst 5, 1) := by decide +kernel
theorem dMo_course_66 : decode zbMo_course 66 = .ok (.irem, 1) := by decide +kernel
theorem dMo_course_67 : decode zbMo_course 67 = .ok (.iadd, 1) := by decide +kernel
theorem dMo_course_68 : decode zbMo_course 68 = .ok (.ireturn, 1) := by decide +kernel
theorem dMo_threat_0 : decode zbMo_threat 0 = .ok (.aload_n 0, 1) := by decide +kernel
theorem dMo_threat_1 : decode zbMo_threat 1 = .ok (.aload_n 0, 1) := by decide +kernel
theorem dMo_threat_2 : decode zbMo_threat 2 = .ok (.iload_n 1, 1) := by decide +kernel
theorem dMo_threat_3 : decode zbMo_threat 3 = .ok (.iload_n 2, 1) := by decide +kernel
theorem dMo_threat_4 : decode zbMo_threat 4 = .ok (.invokevirtual 208, 3) := by decide +kernel
theorem dMo_threat_7 : decode zbMo_threat 7 = .ok (.putfield 60, 3) := by decide +kernel
theorem dMo_threat_10 : decode zbMo_threat 10 = .ok (.aload_n 0, 1) := by decide +kernel
theorem dMo_threat_11 : decode zbMo_threat 11 = .ok (.getfield 60, 3) := by decide +kernel
theorem dMo_threat_14 : decode zbMo_threat 14 = .ok (.ifCond .gt 13, 3) := by decide +kernel
theorem dMo_threat_17 : decode zbMo_threat 17 = .ok (.aload_n 0, 1) := by decide +kernel
theorem dMo_threat_18 : decode zbMo_threat 18 = .ok (.iconst 0, 1) := by decide +kernel
theorem dMo_threat_19 : decode zbMo_threat 19 = .ok (.iload_n 1, 1) := by decide +kernel
theorem dMo_threat_20 : decode zbMo_threat 20 = .ok (.iload_n 2, 1) := by decide +kernel
theorem dMo_threat_21 : decode zbMo_threat 21 = .ok (.invokevirtual 211, 3) := by decide +kernel
theorem dMo_threat_24 : decode zbMo_threat 24 = .ok (.ifCond .ge 16, 3) := by decide +kernel
theorem dMo_threat_27 : decode zbMo_threat 27 = .ok (.aload_n 0, 1) := by decide +kernel
theorem dMo_threat_28 : decode zbMo_threat 28 = .ok (.getfield 60, 3) := by decide +kernel
theorem dMo_threat_31 : decode zbMo_threat 31 = .ok (.ifCond .le 7, 3) := by decide +kernel
theorem dMo_threat_34 : decode zbMo_threat 34 = .ok (.iconst 0, 1) := by decide +kernel
theorem dMo_threat_35 : decode zbMo_threat 35 = .ok (.goto 4, 3) := by decide +kernel
theorem dMo_threat_38 : decode zbMo_threat 38 = .ok (.iconst (-1), 1) := by decide +kernel
theorem dMo_threat_39 : decode zbMo_threat 39 = .ok (.ireturn, 1) := by decide +kernel
theorem dMo_threat_40 : decode zbMo_threat 40 = .ok (.iconst 0, 1) := by decide +kernel
theorem dMo_threat_41 : decode zbMo_threat 41 = .ok (.istore_n 3, 1) := by decide +kernel
theorem dMo_threat_42 : decode zbMo_threat 42 = .ok (.iload_n 3, 1) := by decide +kernel
theorem dMo_threat_43 : decode zbMo_threat 43 = .ok (.bipush 15, 2) := by decide +kernel
theorem dMo_threat_45 : decode zbMo_threat 45 = .ok (.if_icmp .ge 74, 3) := by decide +kernel
theorem dMo_threat_48 : decode zbMo_threat 48 = .ok (.iload_n 3, 1) := by decide +kernel
theorem dMo_threat_49 : decode zbMo_threat 49 = .ok (.iconst 5, 1) := by decide +kernel
theorem dMo_threat_50 : decode zbMo_threat 50 = .ok (.idiv, 1) := by decide +kernel
theorem dMo_threat_51 : decode zbMo_threat 51 = .ok (.iload_n 1, 1) := by decide +kernel
theorem dMo_threat_52 : decode zbMo_threat 52 = .ok (.if_icmp .eq 61, 3) := by decide +kernel
theorem dMo_threat_55 : decode zbMo_threat 55 = .ok (.aload_n 0, 1) := by decide +kernel
theorem dMo_threat_56 : decode zbMo_threat 56 = .ok (.iconst 0, 1) := by decide +kernel
theorem dMo_threat_57 : decode zbMo_threat 57 = .ok (.bipush 14, 2) := by decide +kernel
theorem dMo_threat_59 : decode zbMo_threat 59 = .ok (.invokevirtual 178, 3) := by decide +kernel
theorem dMo_threat_62 : decode zbMo_threat 62 = .ok (.aload_n 0, 1) := by decide +kernel
theorem dMo_threat_63 : decode zbMo_threat 63 = .ok (.bipush 14, 2) := by decide +kernel
theorem dMo_threat_65 : decode zbMo_threat 65 = .ok (.iload_n 3, 1) := by decide +kernel
theorem dMo_threat_66 : decode zbMo_threat 66 = .ok (.iconst 5, 1) := by decide +kernel
theorem dMo_threat_67 : decode zbMo_threat 67 = .ok (.idiv, 1) := by decide +kernel
theorem dMo_threat_68 : decode zbMo_threat 68 = .ok (.iload_n 3, 1) := by decide +kernel
theorem dMo_threat_69 : decode zbMo_threat 69 = .ok (.iconst 5, 1) := by decide +kernel
theorem dMo_threat_70 : decode zbMo_threat 70 = .ok (.irem, 1) := by decide +kernel
theorem dMo_threat_71 : decode zbMo_threat 71 = .ok (.invokevirtual 191, 3) := by decide +kernel
theorem dMo_threat_74 : decode zbMo_threat 74 = .ok (.aload_n 0, 1) := by decide +kernel
theorem dMo_threat_75 : decode zbMo_threat 75 = .ok (.getfield 109, 3) := by decide +kernel
theorem dMo_threat_78 : decode zbMo_threat 78 = .ok (.ifCond .ne 14, 3) := by decide +kernel
theorem dMo_threat_81 : decode zbMo_threat 81 = .ok (.aload_n 0, 1) := by decide +kernel
theorem dMo_threat_82 : decode zbMo_threat 82 = .ok (.getfield 131, 3) := by decide +kernel
theorem dMo_threat_85 : decode zbMo_threat 85 = .ok (.ifCond .ne 7, 3) := by decide +kernel
theorem dMo_threat_88 : decode zbMo_threat 88 = .ok (.iconst 1, 1) := by decide +kernel
theorem dMo_threat_89 : decode zbMo_threat 89 = .ok (.goto 4, 3) := by decide +kernel
theorem dMo_threat_92 : decode zbMo_threat 92 = .ok (.iconst 0, 1) := by decide +kernel
theorem dMo_threat_93 : decode zbMo_threat 93 = .ok (.istore 4, 2) := by decide +kernel
theorem dMo_threat_95 : decode zbMo_threat 95 = .ok (.iload 4, 2) := by decide +kernel
theorem dMo_threat_97 : decode zbMo_threat 97 = .ok (.ifCond .eq 16, 3) := by decide +kernel
theorem dMo_threat_100 : decode zbMo_threat 100 = .ok (.aload_n 0, 1) := by decide +kernel
theorem dMo_threat_101 : decode zbMo_threat 101 = .ok (.bipush 14, 2) := by decide +kernel
theorem dMo_threat_103 : decode zbMo_threat 103 = .ok (.iload_n 1, 1) := by decide +kernel
theorem dMo_threat_104 : decode zbMo_threat 104 = .ok (.iload_n 2, 1) := by decide +kernel
theorem dMo_threat_105 : decode zbMo_threat 105 = .ok (.invokevirtual 211, 3) := by decide +kernel
theorem dMo_threat_108 : decode zbMo_threat 108 = .ok (.ifCond .ge 5, 3) := by decide +kernel
theorem dMo_threat_111 : decode zbMo_threat 111 = .ok (.iload_n 3, 1) := by decide +kernel
theorem dMo_threat_112 : decode zbMo_threat 112 = .ok (.ireturn, 1) := by decide +kernel
theorem dMo_threat_113 : decode zbMo_threat 113 = .ok (.iinc 3 1, 3) := by decide +kernel
theorem dMo_threat_116 : decode zbMo_threat 116 = .ok (.goto (-74), 3) := by decide +kernel
theorem dMo_threat_119 : decode zbMo_threat 119 = .ok (.iconst (-1), 1) := by decide +kernel
theorem dMo_threat_120 : decode zbMo_threat 120 = .ok (.ireturn, 1) := by decide +kernel
theorem dAg_init_0 : decode zbAg_init 0 = .ok (.aload_n 0, 1) := by decide +kernel
theorem dAg_init_1 : decode zbAg_init 1 = .ok (.invokespecial 3, 3) := by decide +kernel
theorem dAg_init_4 : decode zbAg_init 4 = .ok (.aload_n 0, 1) := by decide +kernel
theorem dAg_init_5 : decode zbAg_init 5 = .ok (.bipush 10, 2) := by decide +kernel
theorem dAg_init_7 : decode zbAg_init 7 = .ok (.anewarray 9, 3) := by decide +kernel
theorem dAg_init_10 : decode zbAg_init 10 = .ok (.putfield 11, 3) := by decide +kernel
theorem dAg_init_13 : decode zbAg_init 13 = .ok (.aload_n 0, 1) := by decide +kernel
theorem dAg_init_14 : decode zbAg_init 14 = .ok (.iconst 0, 1) := by decide +kernel
theorem dAg_init_15 : decode zbAg_init 15 = .ok (.putfield 17, 3) := by decide +kernel
theorem dAg_init_18 : decode zbAg_init 18 = .ok (.iconst 0, 1) := by decide +kernel
theorem dAg_init_19 : decode zbAg_init 19 = .ok (.istore_n 1, 1) := by decide +kernel
theorem dAg_init_20 : decode zbAg_init 20 = .ok (.iload_n 1, 1) := by decide +kernel
theorem dAg_init_21 : decode zbAg_init 21 = .ok (.bipush 10, 2) := by decide +kernel
theorem dAg_init_23 : decode zbAg_init 23 = .ok (.if_icmp .ge 22, 3) := by decide +kernel
theorem dAg_init_26 : decode zbAg_init 26 = .ok (.aload_n 0, 1) := by decide +kernel
theorem dAg_init_27 : decode zbAg_init 27 = .ok (.getfield 11, 3) := by decide +kernel
theorem dAg_init_30 : decode zbAg_init 30 = .ok (.iload_n 1, 1) := by decide +kernel
theorem dAg_init_31 : decode zbAg_init 31 = .ok (.new 9, 3) := by decide +kernel
theorem dAg_init_34 : decode zbAg_init 34 = .ok (.dup, 1) := by decide +kernel
theorem dAg_init_35 : decode zbAg_init 35 = .ok (.invokespecial 21, 3) := by decide +kernel
theorem dAg_init_38 : decode zbAg_init 38 = .ok (.aastore, 1) := by decide +kernel
theorem dAg_init_39 : decode zbAg_init 39 = .ok (.iinc 1 1, 3) := by decide +kernel
theorem dAg_init_42 : decode zbAg_init 42 = .ok (.goto (-22), 3) := by decide +kernel
theorem dAg_init_45 : decode zbAg_init 45 = .ok (.return_, 1) := by decide +kernel
theorem dAg_find_0 : decode zbAg_find 0 = .ok (.iconst 0, 1) := by decide +kernel
theorem dAg_find_1 : decode zbAg_find 1 = .ok (.istore 4, 2) := by decide +kernel
theorem dAg_find_3 : decode zbAg_find 3 = .ok (.iload 4, 2) := by decide +kernel
theorem dAg_find_5 : decode zbAg_find 5 = .ok (.aload_n 1, 1) := by decide +kernel
theorem dAg_find_6 : decode zbAg_find 6 = .ok (.getfield 22, 3) := by decide +kernel
theorem dAg_find_9 : decode zbAg_find 9 = .ok (.if_icmp .ge 31, 3) := by decide +kernel
theorem dAg_find_12 : decode zbAg_find 12 = .ok (.aload_n 0, 1) := by decide +kernel
theorem dAg_find_13 : decode zbAg_find 13 = .ok (.getfield 11, 3) := by decide +kernel
theorem dAg_find_16 : decode zbAg_find 16 = .ok (.aload_n 1, 1) := by decide +kernel
theorem dAg_find_17 : decode zbAg_find 17 = .ok (.iload 4, 2) := by decide +kernel
theorem dAg_find_19 : decode zbAg_find 19 = .ok (.invokevirtual 25, 3) := by decide +kernel
theorem dAg_find_22 : decode zbAg_find 22 = .ok (.aaload, 1) := by decide +kernel
theorem dAg_find_23 : decode zbAg_find 23 = .ok (.iload_n 2, 1) := by decide +kernel
theorem dAg_find_24 : decode zbAg_find 24 = .ok (.iload_n 3, 1) := by decide +kernel
theorem dAg_find_25 : decode zbAg_find 25 = .ok (.invokevirtual 29, 3) := by decide +kernel
theorem dAg_find_28 : decode zbAg_find 28 = .ok (.ifCond .eq 6, 3) := by decide +kernel
theorem dAg_find_31 : decode zbAg_find 31 = .ok (.iload 4, 2) := by decide +kernel
theorem dAg_find_33 : decode zbAg_find 33 = .ok (.ireturn, 1) := by decide +kernel
theorem dAg_find_34 : decode zbAg_find 34 = .ok (.iinc 4 1, 3) := by decide +kernel
theorem dAg_find_37 : decode zbAg_find 37 = .ok (.goto (-34), 3) := by decide +kernel
theorem dAg_find_40 : decode zbAg_find 40 = .ok (.iconst (-1), 1) := by decide +kernel
theorem dAg_find_41 : decode zbAg_find 41 = .ok (.ireturn, 1) := by decide +kernel
theorem dAg_isTouchedBy_0 : decode zbAg_isTouchedBy 0 = .ok (.iconst 0, 1) := by decide +kernel
theorem dAg_isTouchedBy_1 : decode zbAg_isTouchedBy 1 = .ok (.istore 4, 2) := by decide +kernel
theorem dAg_isTouchedBy_3 : decode zbAg_isTouchedBy 3 = .ok (.iload 4, 2) := by decide +kernel
theorem dAg_isTouchedBy_5 : decode zbAg_isTouchedBy 5 = .ok (.aload_n 0, 1) := by decide +kernel
theorem dAg_isTouchedBy_6 : decode zbAg_isTouchedBy 6 = .ok (.getfield 17, 3) := by decide +kernel
theorem dAg_isTouchedBy_9 : decode zbAg_isTouchedBy 9 = .ok (.if_icmp .ge 26, 3) := by decide +kernel
theorem dAg_isTouchedBy_12 : decode zbAg_isTouchedBy 12 = .ok (.aload_n 0, 1) := by decide +kernel
theorem dAg_isTouchedBy_13 : decode zbAg_isTouchedBy 13 = .ok (.getfield 11, 3) := by decide +kernel
theorem dAg_isTouchedBy_16 : decode zbAg_isTouchedBy 16 = .ok (.iload 4, 2) := by decide +kernel
theorem dAg_isTouchedBy_18 : decode zbAg_isTouchedBy 18 = .ok (.aaload, 1) := by decide +kernel
theorem dAg_isTouchedBy_19 : decode zbAg_isTouchedBy 19 = .ok (.iload_n 2, 1) := by decide +kernel
theorem dAg_isTouchedBy_20 : decode zbAg_isTouchedBy 20 = .ok (.iload_n 3, 1) := by decide +kernel
theorem dAg_isTouchedBy_21 : decode zbAg_isTouchedBy 21 = .ok (.invokevirtual 33, 3) := by decide +kernel
theorem dAg_isTouchedBy_24 : decode zbAg_isTouchedBy 24 = .ok (.ifCond .eq 5, 3) := by decide +kernel
theorem dAg_isTouchedBy_27 : decode zbAg_isTouchedBy 27 = .ok (.iconst 1, 1) := by decide +kernel
theorem dAg_isTouchedBy_28 : decode zbAg_isTouchedBy 28 = .ok (.ireturn, 1) := by decide +kernel
theorem dAg_isTouchedBy_29 : decode zbAg_isTouchedBy 29 = .ok (.iinc 4 1, 3) := by decide +kernel
theorem dAg_isTouchedBy_32 : decode zbAg_isTouchedBy 32 = .ok (.goto (-29), 3) := by decide +kernel
theorem dAg_isTouchedBy_35 : decode zbAg_isTouchedBy 35 = .ok (.aload_n 0, 1) := by decide +kernel
theorem dAg_isTouchedBy_36 : decode zbAg_isTouchedBy 36 = .ok (.aload_n 1, 1) := by decide +kernel
theorem dAg_isTouchedBy_37 : decode zbAg_isTouchedBy 37 = .ok (.getfield 36, 3) := by decide +kernel
theorem dAg_isTouchedBy_40 : decode zbAg_isTouchedBy 40 = .ok (.iload_n 2, 1) := by decide +kernel
theorem dAg_isTouchedBy_41 : decode zbAg_isTouchedBy 41 = .ok (.iload_n 3, 1) := by decide +kernel
theorem dAg_isTouchedBy_42 : decode zbAg_isTouchedBy 42 = .ok (.invokevirtual 42, 3) := by decide +kernel
theorem dAg_isTouchedBy_45 : decode zbAg_isTouchedBy 45 = .ok (.iconst (-1), 1) := by decide +kernel
theorem dAg_isTouchedBy_46 : decode zbAg_isTouchedBy 46 = .ok (.if_icmp .ne 17, 3) := by decide +kernel
theorem dAg_isTouchedBy_49 : decode zbAg_isTouchedBy 49 = .ok (.aload_n 0, 1) := by decide +kernel
theorem dAg_isTouchedBy_50 : decode zbAg_isTouchedBy 50 = .ok (.aload_n 1, 1) := by decide +kernel
theorem dAg_isTouchedBy_51 : decode zbAg_isTouchedBy 51 = .ok (.getfield 46, 3) := by decide +kernel
theorem dAg_isTouchedBy_54 : decode zbAg_isTouchedBy 54 = .ok (.iload_n 2, 1) := by decide +kernel
theorem dAg_isTouchedBy_55 : decode zbAg_isTouchedBy 55 = .ok (.iload_n 3, 1) := by decide +kernel
theorem dAg_isTouchedBy_56 : decode zbAg_isTouchedBy 56 = .ok (.invokevirtual 42, 3) := by decide +kernel
theorem dAg_isTouchedBy_59 : decode zbAg_isTouchedBy 59 = .ok (.iconst (-1), 1) := by decide +kernel
theorem dAg_isTouchedBy_60 : decode zbAg_isTouchedBy 60 = .ok (.if_icmp .eq 7, 3) := by decide +kernel
theorem dAg_isTouchedBy_63 : decode zbAg_isTouchedBy 63 = .ok (.iconst 1, 1) := by decide +kernel
theorem dAg_isTouchedBy_64 : decode zbAg_isTouchedBy 64 = .ok (.goto 4, 3) := by decide +kernel
theorem dAg_isTouchedBy_67 : decode zbAg_isTouchedBy 67 = .ok (.iconst 0, 1) := by decide +kernel
theorem dAg_isTouchedBy_68 : decode zbAg_isTouchedBy 68 = .ok (.ireturn, 1) := by decide +kernel
theorem dAg_hasDutyDue_0 : decode zbAg_hasDutyDue 0 = .ok (.iconst 0, 1) := by decide +kernel
theorem dAg_hasDutyDue_1 : decode zbAg_hasDutyDue 1 = .ok (.istore_n 3, 1) := by decide +kernel
theorem dAg_hasDutyDue_2 : decode zbAg_hasDutyDue 2 = .ok (.iload_n 3, 1) := by decide +kernel
theorem dAg_hasDutyDue_3 : decode zbAg_hasDutyDue 3 = .ok (.aload_n 1, 1) := by decide +kernel
theorem dAg_hasDutyDue_4 : decode zbAg_hasDutyDue 4 = .ok (.getfield 46, 3) := by decide +kernel
theorem dAg_hasDutyDue_7 : decode zbAg_hasDutyDue 7 = .ok (.getfield 22, 3) := by decide +kernel
theorem dAg_hasDutyDue_10 : decode zbAg_hasDutyDue 10 = .ok (.if_icmp .ge 46, 3) := by decide +kernel
theorem dAg_hasDutyDue_13 : decode zbAg_hasDutyDue 13 = .ok (.aload_n 1, 1) := by decide +kernel
theorem dAg_hasDutyDue_14 : decode zbAg_hasDutyDue 14 = .ok (.getfield 46, 3) := by decide +kernel
theorem dAg_hasDutyDue_17 : decode zbAg_hasDutyDue 17 = .ok (.iload_n 3, 1) := by decide +kernel
theorem dAg_hasDutyDue_18 : decode zbAg_hasDutyDue 18 = .ok (.invokevirtual 49, 3) := by decide +kernel
theorem dAg_hasDutyDue_21 : decode zbAg_hasDutyDue 21 = .ok (.aload_n 1, 1) := by decide +kernel
theorem dAg_hasDutyDue_22 : decode zbAg_hasDutyDue 22 = .ok (.getfield 52, 3) := by decide +kernel
theorem dAg_hasDutyDue_25 : decode zbAg_hasDutyDue 25 = .ok (.if_icmp .gt 25, 3) := by decide +kernel
theorem dAg_hasDutyDue_28 : decode zbAg_hasDutyDue 28 = .ok (.aload_n 0, 1) := by decide +kernel
theorem dAg_hasDutyDue_29 : decode zbAg_hasDutyDue 29 = .ok (.getfield 11, 3) := by decide +kernel
theorem dAg_hasDutyDue_32 : decode zbAg_hasDutyDue 32 = .ok (.aload_n 1, 1) := by decide +kernel
theorem dAg_hasDutyDue_33 : decode zbAg_hasDutyDue 33 = .ok (.getfield 46, 3) := by decide +kernel
theorem dAg_hasDutyDue_36 : decode zbAg_hasDutyDue 36 = .ok (.iload_n 3, 1) := by decide +kernel
theorem dAg_hasDutyDue_37 : decode zbAg_hasDutyDue 37 = .ok (.invokevirtual 25, 3) := by decide +kernel
theorem dAg_hasDutyDue_40 : decode zbAg_hasDutyDue 40 = .ok (.aaload, 1) := by decide +kernel
theorem dAg_hasDutyDue_41 : decode zbAg_hasDutyDue 41 = .ok (.getfield 55, 3) := by decide +kernel
theorem dAg_hasDutyDue_44 : decode zbAg_hasDutyDue 44 = .ok (.iload_n 2, 1) := by decide +kernel
theorem dAg_hasDutyDue_45 : decode zbAg_hasDutyDue 45 = .ok (.if_icmp .ne 5, 3) := by decide +kernel
theorem dAg_hasDutyDue_48 : decode zbAg_hasDutyDue 48 = .ok (.iconst 1, 1) := by decide +kernel
theorem dAg_hasDutyDue_49 : decode zbAg_hasDutyDue 49 = .ok (.ireturn, 1) := by decide +kernel
theorem dAg_hasDutyDue_50 : decode zbAg_hasDutyDue 50 = .ok (.iinc 3 1, 3) := by decide +kernel
theorem dAg_hasDutyDue_53 : decode zbAg_hasDutyDue 53 = .ok (.goto (-51), 3) := by decide +kernel
theorem dAg_hasDutyDue_56 : decode zbAg_hasDutyDue 56 = .ok (.iconst 0, 1) := by decide +kernel
theorem dAg_hasDutyDue_57 : decode zbAg_hasDutyDue 57 = .ok (.ireturn, 1) := by decide +kernel
theorem dAg_faultOfReferences_0 : decode zbAg_faultOfReferences 0 = .ok (.iconst 0, 1) := by decide +kernel
theorem dAg_faultOfReferences_1 : decode zbAg_faultOfReferences 1 = .ok (.istore_n 1, 1) := by decide +kernel
theorem dAg_faultOfReferences_2 : decode zbAg_faultOfReferences 2 = .ok (.iload_n 1, 1) := by decide +kernel
theorem dAg_faultOfReferences_3 : decode zbAg_faultOfReferences 3 = .ok (.aload_n 0, 1) := by decide +kernel
theorem dAg_faultOfReferences_4 : decode zbAg_faultOfReferences 4 = .ok (.getfield 17, 3) := by decide +kernel
theorem dAg_faultOfReferences_7 : decode zbAg_faultOfReferences 7 = .ok (.if_icmp .ge 28, 3) := by decide +kernel
theorem dAg_faultOfReferences_10 : decode zbAg_faultOfReferences 10 = .ok (.aload_n 0, 1) := by decide +kernel
theorem dAg_faultOfReferences_11 : decode zbAg_faultOfReferences 11 = .ok (.aload_n 0, 1) := by decide +kernel
theorem dAg_faultOfReferences_12 : decode zbAg_faultOfReferences 12 = .ok (.getfield 11, 3) := by decide +kernel
theorem dAg_faultOfReferences_15 : decode zbAg_faultOfReferences 15 = .ok (.iload_n 1, 1) := by decide +kernel
theorem dAg_faultOfReferences_16 : decode zbAg_faultOfReferences 16 = .ok (.aaload, 1) := by decide +kernel
theorem dAg_faultOfReferences_17 : decode zbAg_faultOfReferences 17 = .ok (.invokevirtual 58, 3) := by decide +kernel
theorem dAg_faultOfReferences_20 : decode zbAg_faultOfReferences 20 = .ok (.ifCond .ne 9, 3) := by decide +kernel
theorem dAg_faultOfReferences_23 : decode zbAg_faultOfReferences 23 = .ok (.sipush 200, 3) := by decide +kernel
theorem dAg_faultOfReferences_26 : decode zbAg_faultOfReferences 26 = .ok (.iload_n 1, 1) := by decide +kernel
theorem dAg_faultOfReferences_27 : decode zbAg_faultOfReferences 27 = .ok (.iadd, 1) := by decide +kernel
theorem dAg_faultOfReferences_28 : decode zbAg_faultOfReferences 28 = .ok (.ireturn, 1) := by decide +kernel
theorem dAg_faultOfReferences_29 : decode zbAg_faultOfReferences 29 = .ok (.iinc 1 1, 3) := by decide +kernel
theorem dAg_faultOfReferences_32 : decode zbAg_faultOfReferences 32 = .ok (.goto (-30), 3) := by decide +kernel
theorem dAg_faultOfReferences_35 : decode zbAg_faultOfReferences 35 = .ok (.iconst 0, 1) := by decide +kernel
theorem dAg_faultOfReferences_36 : decode zbAg_faultOfReferences 36 = .ok (.istore_n 1, 1) := by decide +kernel
theorem dAg_faultOfReferences_37 : decode zbAg_faultOfReferences 37 = .ok (.iload_n 1, 1) := by decide +kernel
theorem dAg_faultOfReferences_38 : decode zbAg_faultOfReferences 38 = .ok (.aload_n 0, 1) := by decide +kernel
theorem dAg_faultOfReferences_39 : decode zbAg_faultOfReferences 39 = .ok (.getfield 17, 3) := by decide +kernel
theorem dAg_faultOfReferences_42 : decode zbAg_faultOfReferences 42 = .ok (.if_icmp .ge 23, 3) := by decide +kernel
theorem dAg_faultOfReferences_45 : decode zbAg_faultOfReferences 45 = .ok (.aload_n 0, 1) := by decide +kernel
theorem dAg_faultOfReferences_46 : decode zbAg_faultOfReferences 46 = .ok (.iload_n 1, 1) := by decide +kernel
theorem dAg_faultOfReferences_47 : decode zbAg_faultOfReferences 47 = .ok (.invokevirtual 62, 3) := by decide +kernel
theorem dAg_faultOfReferences_50 : decode zbAg_faultOfReferences 50 = .ok (.ifCond .eq 9, 3) := by decide +kernel
theorem dAg_faultOfReferences_53 : decode zbAg_faultOfReferences 53 = .ok (.sipush 300, 3) := by decide +kernel
theorem dAg_faultOfReferences_56 : decode zbAg_faultOfReferences 56 = .ok (.iload_n 1, 1) := by decide +kernel
theorem dAg_faultOfReferences_57 : decode zbAg_faultOfReferences 57 = .ok (.iadd, 1) := by decide +kernel
theorem dAg_faultOfReferences_58 : decode zbAg_faultOfReferences 58 = .ok (.ireturn, 1) := by decide +kernel
theorem dAg_faultOfReferences_59 : decode zbAg_faultOfReferences 59 = .ok (.iinc 1 1, 3) := by decide +kernel
theorem dAg_faultOfReferences_62 : decode zbAg_faultOfReferences 62 = .ok (.goto (-25), 3) := by decide +kernel
theorem dAg_faultOfReferences_65 : decode zbAg_faultOfReferences 65 = .ok (.iconst (-1), 1) := by decide +kernel
theorem dAg_faultOfReferences_66 : decode zbAg_faultOfReferences 66 = .ok (.ireturn, 1) := by decide +kernel
theorem dAg_refersRightly_0 : decode zbAg_refersRightly 0 = .ok (.aload_n 1, 1) := by decide +kernel
theorem dAg_refersRightly_1 : decode zbAg_refersRightly 1 = .ok (.getfield 66, 3) := by decide +kernel
theorem dAg_refersRightly_4 : decode zbAg_refersRightly 4 = .ok (.bipush 61, 2) := by decide +kernel
theorem dAg_refersRightly_6 : decode zbAg_refersRightly 6 = .ok (.if_icmp .ne 16, 3) := by decide +kernel
theorem dAg_refersRightly_9 : decode zbAg_refersRightly 9 = .ok (.aload_n 1, 1) := by decide +kernel
theorem dAg_refersRightly_10 : decode zbAg_refersRightly 10 = .ok (.getfield 69, 3) := by decide +kernel
theorem dAg_refersRightly_13 : decode zbAg_refersRightly 13 = .ok (.aload_n 0, 1) := by decide +kernel
theorem dAg_refersRightly_14 : decode zbAg_refersRightly 14 = .ok (.getfield 17, 3) := by decide +kernel
theorem dAg_refersRightly_17 : decode zbAg_refersRightly 17 = .ok (.if_icmp .lt 5, 3) := by decide +kernel
theorem dAg_refersRightly_20 : decode zbAg_refersRightly 20 = .ok (.iconst 0, 1) := by decide +kernel
theorem dAg_refersRightly_21 : decode zbAg_refersRightly 21 = .ok (.ireturn, 1) := by decide +kernel
theorem dAg_refersRightly_22 : decode zbAg_refersRightly 22 = .ok (.aload_n 1, 1) := by decide +kernel
theorem dAg_refersRightly_23 : decode zbAg_refersRightly 23 = .ok (.getfield 72, 3) := by decide +kernel
theorem dAg_refersRightly_26 : decode zbAg_refersRightly 26 = .ok (.bipush 120, 2) := by decide +kernel
theorem dAg_refersRightly_28 : decode zbAg_refersRightly 28 = .ok (.if_icmp .eq 14, 3) := by decide +kernel
theorem dAg_refersRightly_31 : decode zbAg_refersRightly 31 = .ok (.aload_n 1, 1) := by decide +kernel
theorem dAg_refersRightly_32 : decode zbAg_refersRightly 32 = .ok (.getfield 72, 3) := by decide +kernel
theorem dAg_refersRightly_35 : decode zbAg_refersRightly 35 = .ok (.bipush 102, 2) := by decide +kernel
theorem dAg_refersRightly_37 : decode zbAg_refersRightly 37 = .ok (.if_icmp .eq 5, 3) := by decide +kernel
theorem dAg_refersRightly_40 : decode zbAg_refersRightly 40 = .ok (.iconst 1, 1) := by decide +kernel
theorem dAg_refersRightly_41 : decode zbAg_refersRightly 41 = .ok (.ireturn, 1) := by decide +kernel
theorem dAg_refersRightly_42 : decode zbAg_refersRightly 42 = .ok (.aload_n 1, 1) := by decide +kernel
theorem dAg_refersRightly_43 : decode zbAg_refersRightly 43 = .ok (.getfield 75, 3) := by decide +kernel
theorem dAg_refersRightly_46 : decode zbAg_refersRightly 46 = .ok (.aload_n 0, 1) := by decide +kernel
theorem dAg_refersRightly_47 : decode zbAg_refersRightly 47 = .ok (.getfield 17, 3) := by decide +kernel
theorem dAg_refersRightly_50 : decode zbAg_refersRightly 50 = .ok (.if_icmp .lt 5, 3) := by decide +kernel
theorem dAg_refersRightly_53 : decode zbAg_refersRightly 53 = .ok (.iconst 0, 1) := by decide +kernel
theorem dAg_refersRightly_54 : decode zbAg_refersRightly 54 = .ok (.ireturn, 1) := by decide +kernel
theorem dAg_refersRightly_55 : decode zbAg_refersRightly 55 = .ok (.aload_n 0, 1) := by decide +kernel
theorem dAg_refersRightly_56 : decode zbAg_refersRightly 56 = .ok (.getfield 11, 3) := by decide +kernel
theorem dAg_refersRightly_59 : decode zbAg_refersRightly 59 = .ok (.aload_n 1, 1) := by decide +kernel
theorem dAg_refersRightly_60 : decode zbAg_refersRightly 60 = .ok (.getfield 75, 3) := by decide +kernel
theorem dAg_refersRightly_63 : decode zbAg_refersRightly 63 = .ok (.aaload, 1) := by decide +kernel
theorem dAg_refersRightly_64 : decode zbAg_refersRightly 64 = .ok (.getfield 66, 3) := by decide +kernel
theorem dAg_refersRightly_67 : decode zbAg_refersRightly 67 = .ok (.istore_n 2, 1) := by decide +kernel
theorem dAg_refersRightly_68 : decode zbAg_refersRightly 68 = .ok (.iload_n 2, 1) := by decide +kernel
theorem dAg_refersRightly_69 : decode zbAg_refersRightly 69 = .ok (.bipush 33, 2) := by decide +kernel
theorem dAg_refersRightly_71 : decode zbAg_refersRightly 71 = .ok (.if_icmp .eq 18, 3) := by decide +kernel
theorem dAg_refersRightly_74 : decode zbAg_refersRightly 74 = .ok (.iload_n 2, 1) := by decide +kernel
theorem dAg_refersRightly_75 : decode zbAg_refersRightly 75 = .ok (.bipush 126, 2) := by decide +kernel
theorem dAg_refersRightly_77 : decode zbAg_refersRightly 77 = .ok (.if_icmp .ne 16, 3) := by decide +kernel
theorem dAg_refersRightly_80 : decode zbAg_refersRightly 80 = .ok (.aload_n 1, 1) := by decide +kernel
theorem dAg_refersRightly_81 : decode zbAg_refersRightly 81 = .ok (.getfield 72, 3) := by decide +kernel
theorem dAg_refersRightly_84 : decode zbAg_refersRightly 84 = .ok (.bipush 120, 2) := by decide +kernel
theorem dAg_refersRightly_86 : decode zbAg_refersRightly 86 = .ok (.if_icmp .ne 7, 3) := by decide +kernel
theorem dAg_refersRightly_89 : decode zbAg_refersRightly 89 = .ok (.iconst 1, 1) := by decide +kernel
theorem dAg_refersRightly_90 : decode zbAg_refersRightly 90 = .ok (.goto 4, 3) := by decide +kernel
theorem dAg_refersRightly_93 : decode zbAg_refersRightly 93 = .ok (.iconst 0, 1) := by decide +kernel
theorem dAg_refersRightly_94 : decode zbAg_refersRightly 94 = .ok (.ireturn, 1) := by decide +kernel
theorem dAg_liesOnRound_0 : decode zbAg_liesOnRound 0 = .ok (.iload_n 1, 1) := by decide +kernel
theorem dAg_liesOnRound_1 : decode zbAg_liesOnRound 1 = .ok (.istore_n 2, 1) := by decide +kernel
theorem dAg_liesOnRound_2 : decode zbAg_liesOnRound 2 = .ok (.iconst 0, 1) := by decide +kernel
theorem dAg_liesOnRound_3 : decode zbAg_liesOnRound 3 = .ok (.istore_n 3, 1) := by decide +kernel
theorem dAg_liesOnRound_4 : decode zbAg_liesOnRound 4 = .ok (.iload_n 3, 1) := by decide +kernel
theorem dAg_liesOnRound_5 : decode zbAg_liesOnRound 5 = .ok (.aload_n 0, 1) := by decide +kernel
theorem dAg_liesOnRound_6 : decode zbAg_liesOnRound 6 = .ok (.getfield 17, 3) := by decide +kernel
theorem dAg_liesOnRound_9 : decode zbAg_liesOnRound 9 = .ok (.if_icmp .ge 42, 3) := by decide +kernel
theorem dAg_liesOnRound_12 : decode zbAg_liesOnRound 12 = .ok (.aload_n 0, 1) := by decide +kernel
theorem dAg_liesOnRound_13 : decode zbAg_liesOnRound 13 = .ok (.getfield 11, 3) := by decide +kernel
theorem dAg_liesOnRound_16 : decode zbAg_liesOnRound 16 = .ok (.iload_n 2, 1) := by decide +kernel
theorem dAg_liesOnRound_17 : decode zbAg_liesOnRound 17 = .ok (.aaload, 1) := by decide +kernel
theorem dAg_liesOnRound_18 : decode zbAg_liesOnRound 18 = .ok (.getfield 66, 3) := by decide +kernel
theorem dAg_liesOnRound_21 : decode zbAg_liesOnRound 21 = .ok (.bipush 61, 2) := by decide +kernel
theorem dAg_liesOnRound_23 : decode zbAg_liesOnRound 23 = .ok (.if_icmp .eq 5, 3) := by decide +kernel
theorem dAg_liesOnRound_26 : decode zbAg_liesOnRound 26 = .ok (.iconst 0, 1) := by decide +kernel
theorem dAg_liesOnRound_27 : decode zbAg_liesOnRound 27 = .ok (.ireturn, 1) := by decide +kernel
theorem dAg_liesOnRound_28 : decode zbAg_liesOnRound 28 = .ok (.aload_n 0, 1) := by decide +kernel
theorem dAg_liesOnRound_29 : decode zbAg_liesOnRound 29 = .ok (.getfield 11, 3) := by decide +kernel
theorem dAg_liesOnRound_32 : decode zbAg_liesOnRound 32 = .ok (.iload_n 2, 1) := by decide +kernel
theorem dAg_liesOnRound_33 : decode zbAg_liesOnRound 33 = .ok (.aaload, 1) := by decide +kernel
theorem dAg_liesOnRound_34 : decode zbAg_liesOnRound 34 = .ok (.getfield 69, 3) := by decide +kernel
theorem dAg_liesOnRound_37 : decode zbAg_liesOnRound 37 = .ok (.istore_n 2, 1) := by decide +kernel
theorem dAg_liesOnRound_38 : decode zbAg_liesOnRound 38 = .ok (.iload_n 2, 1) := by decide +kernel
theorem dAg_liesOnRound_39 : decode zbAg_liesOnRound 39 = .ok (.iload_n 1, 1) := by decide +kernel
theorem dAg_liesOnRound_40 : decode zbAg_liesOnRound 40 = .ok (.if_icmp .ne 5, 3) := by decide +kernel
theorem dAg_liesOnRound_43 : decode zbAg_liesOnRound 43 = .ok (.iconst 1, 1) := by decide +kernel
theorem dAg_liesOnRound_44 : decode zbAg_liesOnRound 44 = .ok (.ireturn, 1) := by decide +kernel
theorem dAg_liesOnRound_45 : decode zbAg_liesOnRound 45 = .ok (.iinc 3 1, 3) := by decide +kernel
theorem dAg_liesOnRound_48 : decode zbAg_liesOnRound 48 = .ok (.goto (-44), 3) := by decide +kernel
theorem dAg_liesOnRound_51 : decode zbAg_liesOnRound 51 = .ok (.iconst 0, 1) := by decide +kernel
theorem dAg_liesOnRound_52 : decode zbAg_liesOnRound 52 = .ok (.ireturn, 1) := by decide +kernel
theorem dCl_init_0 : decode zbCl_init 0 = .ok (.aload_n 0, 1) := by decide +kernel
theorem dCl_init_1 : decode zbCl_init 1 = .ok (.invokespecial 3, 3) := by decide +kernel
theorem dCl_init_4 : decode zbCl_init 4 = .ok (.aload_n 0, 1) := by decide +kernel
theorem dCl_init_5 : decode zbCl_init 5 = .ok (.bipush 115, 2) := by decide +kernel
theorem dCl_init_7 : decode zbCl_init 7 = .ok (.putfield 9, 3) := by decide +kernel
theorem dCl_init_10 : decode zbCl_init 10 = .ok (.aload_n 0, 1) := by decide +kernel
theorem dCl_init_11 : decode zbCl_init 11 = .ok (.iconst (-1), 1) := by decide +kernel
theorem dCl_init_12 : decode zbCl_init 12 = .ok (.putfield 15, 3) := by decide +kernel
theorem dCl_init_15 : decode zbCl_init 15 = .ok (.aload_n 0, 1) := by decide +kernel
theorem dCl_init_16 : decode zbCl_init 16 = .ok (.iconst (-1), 1) := by decide +kernel
theorem dCl_init_17 : decode zbCl_init 17 = .ok (.putfield 18, 3) := by decide +kernel
theorem dCl_init_20 : decode zbCl_init 20 = .ok (.aload_n 0, 1) := by decide +kernel
theorem dCl_init_21 : decode zbCl_init 21 = .ok (.iconst (-1), 1) := by decide +kernel
theorem dCl_init_22 : decode zbCl_init 22 = .ok (.putfield 21, 3) := by decide +kernel
theorem dCl_init_25 : decode zbCl_init 25 = .ok (.aload_n 0, 1) := by decide +kernel
theorem dCl_init_26 : decode zbCl_init 26 = .ok (.iconst 0, 1) := by decide +kernel
theorem dCl_init_27 : decode zbCl_init 27 = .ok (.putfield 24, 3) := by decide +kernel
theorem dCl_init_30 : decode zbCl_init 30 = .ok (.aload_n 0, 1) := by decide +kernel
theorem dCl_init_31 : decode zbCl_init 31 = .ok (.iconst 0, 1) := by decide +kernel
theorem dCl_init_32 : decode zbCl_init 32 = .ok (.putfield 28, 3) := by decide +kernel
theorem dCl_init_35 : decode zbCl_init 35 = .ok (.aload_n 0, 1) := by decide +kernel
theorem dCl_init_36 : decode zbCl_init 36 = .ok (.iconst 0, 1) := by decide +kernel
theorem dCl_init_37 : decode zbCl_init 37 = .ok (.putfield 31, 3) := by decide +kernel
theorem dCl_init_40 : decode zbCl_init 40 = .ok (.aload_n 0, 1) := by decide +kernel
theorem dCl_init_41 : decode zbCl_init 41 = .ok (.iconst 0, 1) := by decide +kernel
theorem dCl_init_42 : decode zbCl_init 42 = .ok (.putfield 34, 3) := by decide +kernel
theorem dCl_init_45 : decode zbCl_init 45 = .ok (.aload_n 0, 1) := by decide +kernel
theorem dCl_init_46 : decode zbCl_init 46 = .ok (.bipush 36, 2) := by decide +kernel
theorem dCl_init_48 : decode zbCl_init 48 = .ok (.putfield 37, 3) := by decide +kernel
theorem dCl_init_51 : decode zbCl_init 51 = .ok (.aload_n 0, 1) := by decide +kernel
theorem dCl_init_52 : decode zbCl_init 52 = .ok (.iconst (-1), 1) := by decide +kernel
theorem dCl_init_53 : decode zbCl_init 53 = .ok (.putfield 40, 3) := by decide +kernel
theorem dCl_init_56 : decode zbCl_init 56 = .ok (.aload_n 0, 1) := by decide +kernel
theorem dCl_init_57 : decode zbCl_init 57 = .ok (.iconst (-1), 1) := by decide +kernel
theorem dCl_init_58 : decode zbCl_init 58 = .ok (.putfield 43, 3) := by decide +kernel
theorem dCl_init_61 : decode zbCl_init 61 = .ok (.aload_n 0, 1) := by decide +kernel
theorem dCl_init_62 : decode zbCl_init 62 = .ok (.iconst (-1), 1) := by decide +kernel
theorem dCl_init_63 : decode zbCl_init 63 = .ok (.putfield 46, 3) := by decide +kernel
theorem dCl_init_66 : decode zbCl_init 66 = .ok (.aload_n 0, 1) := by decide +kernel
theorem dCl_init_67 : decode zbCl_init 67 = .ok (.iconst 0, 1) := by decide +kernel
theorem dCl_init_68 : decode zbCl_init 68 = .ok (.putfield 49, 3) := by decide +kernel
theorem dCl_init_71 : decode zbCl_init 71 = .ok (.return_, 1) := by decide +kernel
theorem dCl_isOnEvent_0 : decode zbCl_isOnEvent 0 = .ok (.aload_n 0, 1) := by decide +kernel
theorem dCl_isOnEvent_1 : decode zbCl_isOnEvent 1 = .ok (.getfield 9, 3) := by decide +kernel
theorem dCl_isOnEvent_4 : decode zbCl_isOnEvent 4 = .ok (.bipush 101, 2) := by decide +kernel
theorem dCl_isOnEvent_6 : decode zbCl_isOnEvent 6 = .ok (.if_icmp .ne 23, 3) := by decide +kernel
theorem dCl_isOnEvent_9 : decode zbCl_isOnEvent 9 = .ok (.aload_n 0, 1) := by decide +kernel
theorem dCl_isOnEvent_10 : decode zbCl_isOnEvent 10 = .ok (.getfield 15, 3) := by decide +kernel
theorem dCl_isOnEvent_13 : decode zbCl_isOnEvent 13 = .ok (.iload_n 1, 1) := by decide +kernel
theorem dCl_isOnEvent_14 : decode zbCl_isOnEvent 14 = .ok (.if_icmp .ne 15, 3) := by decide +kernel
theorem dCl_isOnEvent_17 : decode zbCl_isOnEvent 17 = .ok (.aload_n 0, 1) := by decide +kernel
theorem dCl_isOnEvent_18 : decode zbCl_isOnEvent 18 = .ok (.getfield 18, 3) := by decide +kernel
theorem dCl_isOnEvent_21 : decode zbCl_isOnEvent 21 = .ok (.iload_n 2, 1) := by decide +kernel
theorem dCl_isOnEvent_22 : decode zbCl_isOnEvent 22 = .ok (.if_icmp .ne 7, 3) := by decide +kernel
theorem dCl_isOnEvent_25 : decode zbCl_isOnEvent 25 = .ok (.iconst 1, 1) := by decide +kernel
theorem dCl_isOnEvent_26 : decode zbCl_isOnEvent 26 = .ok (.goto 4, 3) := by decide +kernel
theorem dCl_isOnEvent_29 : decode zbCl_isOnEvent 29 = .ok (.iconst 0, 1) := by decide +kernel
theorem dCl_isOnEvent_30 : decode zbCl_isOnEvent 30 = .ok (.ireturn, 1) := by decide +kernel
theorem dCl_isOn_0 : decode zbCl_isOn 0 = .ok (.aload_n 0, 1) := by decide +kernel
theorem dCl_isOn_1 : decode zbCl_isOn 1 = .ok (.getfield 9, 3) := by decide +kernel
theorem dCl_isOn_4 : decode zbCl_isOn 4 = .ok (.iload_n 1, 1) := by decide +kernel
theorem dCl_isOn_5 : decode zbCl_isOn 5 = .ok (.if_icmp .ne 15, 3) := by decide +kernel
theorem dCl_isOn_8 : decode zbCl_isOn 8 = .ok (.aload_n 0, 1) := by decide +kernel
theorem dCl_isOn_9 : decode zbCl_isOn 9 = .ok (.getfield 21, 3) := by decide +kernel
theorem dCl_isOn_12 : decode zbCl_isOn 12 = .ok (.iload_n 2, 1) := by decide +kernel
theorem dCl_isOn_13 : decode zbCl_isOn 13 = .ok (.if_icmp .ne 7, 3) := by decide +kernel
theorem dCl_isOn_16 : decode zbCl_isOn 16 = .ok (.iconst 1, 1) := by decide +kernel
theorem dCl_isOn_17 : decode zbCl_isOn 17 = .ok (.goto 4, 3) := by decide +kernel
theorem dCl_isOn_20 : decode zbCl_isOn 20 = .ok (.iconst 0, 1) := by decide +kernel
theorem dCl_isOn_21 : decode zbCl_isOn 21 = .ok (.ireturn, 1) := by decide +kernel
theorem dCl_isFor_0 : decode zbCl_isFor 0 = .ok (.aload_n 0, 1) := by decide +kernel
theorem dCl_isFor_1 : decode zbCl_isFor 1 = .ok (.getfield 40, 3) := by decide +kernel
theorem dCl_isFor_4 : decode zbCl_isFor 4 = .ok (.iload_n 1, 1) := by decide +kernel
theorem dCl_isFor_5 : decode zbCl_isFor 5 = .ok (.if_icmp .ne 15, 3) := by decide +kernel
theorem dCl_isFor_8 : decode zbCl_isFor 8 = .ok (.aload_n 0, 1) := by decide +kernel
theorem dCl_isFor_9 : decode zbCl_isFor 9 = .ok (.getfield 43, 3) := by decide +kernel
theorem dCl_isFor_12 : decode zbCl_isFor 12 = .ok (.iload_n 2, 1) := by decide +kernel
theorem dCl_isFor_13 : decode zbCl_isFor 13 = .ok (.if_icmp .ne 7, 3) := by decide +kernel
theorem dCl_isFor_16 : decode zbCl_isFor 16 = .ok (.iconst 1, 1) := by decide +kernel
theorem dCl_isFor_17 : decode zbCl_isFor 17 = .ok (.goto 4, 3) := by decide +kernel
theorem dCl_isFor_20 : decode zbCl_isFor 20 = .ok (.iconst 0, 1) := by decide +kernel
theorem dCl_isFor_21 : decode zbCl_isFor 21 = .ok (.ireturn, 1) := by decide +kernel
theorem dCl_holds_0 : decode zbCl_holds 0 = .ok (.aload_n 0, 1) := by decide +kernel
theorem dCl_holds_1 : decode zbCl_holds 1 = .ok (.getfield 24, 3) := by decide +kernel
theorem dCl_holds_4 : decode zbCl_holds 4 = .ok (.ifCond .eq 22, 3) := by decide +kernel
theorem dCl_holds_7 : decode zbCl_holds 7 = .ok (.aload_n 1, 1) := by decide +kernel
theorem dCl_holds_8 : decode zbCl_holds 8 = .ok (.aload_n 0, 1) := by decide +kernel
theorem dCl_holds_9 : decode zbCl_holds 9 = .ok (.getfield 28, 3) := by decide +kernel
theorem dCl_holds_12 : decode zbCl_holds 12 = .ok (.aload_n 0, 1) := by decide +kernel
theorem dCl_holds_13 : decode zbCl_holds 13 = .ok (.getfield 31, 3) := by decide +kernel
theorem dCl_holds_16 : decode zbCl_holds 16 = .ok (.invokevirtual 52, 3) := by decide +kernel
theorem dCl_holds_19 : decode zbCl_holds 19 = .ok (.aload_n 0, 1) := by decide +kernel
theorem dCl_holds_20 : decode zbCl_holds 20 = .ok (.getfield 34, 3) := by decide +kernel
theorem dCl_holds_23 : decode zbCl_holds 23 = .ok (.if_icmp .le 7, 3) := by decide +kernel
theorem dCl_holds_26 : decode zbCl_holds 26 = .ok (.iconst 1, 1) := by decide +kernel
theorem dCl_holds_27 : decode zbCl_holds 27 = .ok (.goto 4, 3) := by decide +kernel
theorem dCl_holds_30 : decode zbCl_holds 30 = .ok (.iconst 0, 1) := by decide +kernel
theorem dCl_holds_31 : decode zbCl_holds 31 = .ok (.ireturn, 1) := by decide +kernel
theorem dHi_init_0 : decode zbHi_init 0 = .ok (.aload_n 0, 1) := by decide +kernel
theorem dHi_init_1 : decode zbHi_init 1 = .ok (.invokespecial 3, 3) := by decide +kernel
theorem dHi_init_4 : decode zbHi_init 4 = .ok (.aload_n 0, 1) := by decide +kernel
theorem dHi_init_5 : decode zbHi_init 5 = .ok (.bipush 12, 2) := by decide +kernel
theorem dHi_init_7 : decode zbHi_init 7 = .ok (.anewarray 9, 3) := by decide +kernel
theorem dHi_init_10 : decode zbHi_init 10 = .ok (.putfield 11, 3) := by decide +kernel
theorem dHi_init_13 : decode zbHi_init 13 = .ok (.aload_n 0, 1) := by decide +kernel
theorem dHi_init_14 : decode zbHi_init 14 = .ok (.iconst 0, 1) := by decide +kernel
theorem dHi_init_15 : decode zbHi_init 15 = .ok (.putfield 17, 3) := by decide +kernel
theorem dHi_init_18 : decode zbHi_init 18 = .ok (.aload_n 0, 1) := by decide +kernel
theorem dHi_init_19 : decode zbHi_init 19 = .ok (.iconst 0, 1) := by decide +kernel
theorem dHi_init_20 : decode zbHi_init 20 = .ok (.putfield 21, 3) := by decide +kernel
theorem dHi_init_23 : decode zbHi_init 23 = .ok (.iconst 0, 1) := by decide +kernel
theorem dHi_init_24 : decode zbHi_init 24 = .ok (.istore_n 1, 1) := by decide +kernel
theorem dHi_init_25 : decode zbHi_init 25 = .ok (.iload_n 1, 1) := by decide +kernel
theorem dHi_init_26 : decode zbHi_init 26 = .ok (.bipush 12, 2) := by decide +kernel
theorem dHi_init_28 : decode zbHi_init 28 = .ok (.if_icmp .ge 22, 3) := by decide +kernel
theorem dHi_init_31 : decode zbHi_init 31 = .ok (.aload_n 0, 1) := by decide +kernel
theorem dHi_init_32 : decode zbHi_init 32 = .ok (.getfield 11, 3) := by decide +kernel
theorem dHi_init_35 : decode zbHi_init 35 = .ok (.iload_n 1, 1) := by decide +kernel
theorem dHi_init_36 : decode zbHi_init 36 = .ok (.new 9, 3) := by decide +kernel
theorem dHi_init_39 : decode zbHi_init 39 = .ok (.dup, 1) := by decide +kernel
theorem dHi_init_40 : decode zbHi_init 40 = .ok (.invokespecial 24, 3) := by decide +kernel
theorem dHi_init_43 : decode zbHi_init 43 = .ok (.aastore, 1) := by decide +kernel
theorem dHi_init_44 : decode zbHi_init 44 = .ok (.iinc 1 1, 3) := by decide +kernel
theorem dHi_init_47 : decode zbHi_init 47 = .ok (.goto (-22), 3) := by decide +kernel
theorem dHi_init_50 : decode zbHi_init 50 = .ok (.return_, 1) := by decide +kernel
theorem dHi_keep_0 : decode zbHi_keep 0 = .ok (.aload_n 0, 1) := by decide +kernel
theorem dHi_keep_1 : decode zbHi_keep 1 = .ok (.getfield 11, 3) := by decide +kernel
theorem dHi_keep_4 : decode zbHi_keep 4 = .ok (.aload_n 0, 1) := by decide +kernel
theorem dHi_keep_5 : decode zbHi_keep 5 = .ok (.getfield 21, 3) := by decide +kernel
theorem dHi_keep_8 : decode zbHi_keep 8 = .ok (.aaload, 1) := by decide +kernel
theorem dHi_keep_9 : decode zbHi_keep 9 = .ok (.aload_n 1, 1) := by decide +kernel
theorem dHi_keep_10 : decode zbHi_keep 10 = .ok (.invokevirtual 25, 3) := by decide +kernel
theorem dHi_keep_13 : decode zbHi_keep 13 = .ok (.aload_n 0, 1) := by decide +kernel
theorem dHi_keep_14 : decode zbHi_keep 14 = .ok (.aload_n 0, 1) := by decide +kernel
theorem dHi_keep_15 : decode zbHi_keep 15 = .ok (.getfield 21, 3) := by decide +kernel
theorem dHi_keep_18 : decode zbHi_keep 18 = .ok (.iconst 1, 1) := by decide +kernel
theorem dHi_keep_19 : decode zbHi_keep 19 = .ok (.iadd, 1) := by decide +kernel
theorem dHi_keep_20 : decode zbHi_keep 20 = .ok (.bipush 12, 2) := by decide +kernel
theorem dHi_keep_22 : decode zbHi_keep 22 = .ok (.irem, 1) := by decide +kernel
theorem dHi_keep_23 : decode zbHi_keep 23 = .ok (.putfield 21, 3) := by decide +kernel
theorem dHi_keep_26 : decode zbHi_keep 26 = .ok (.aload_n 0, 1) := by decide +kernel
theorem dHi_keep_27 : decode zbHi_keep 27 = .ok (.aload_n 0, 1) := by decide +kernel
theorem dHi_keep_28 : decode zbHi_keep 28 = .ok (.getfield 17, 3) := by decide +kernel
theorem dHi_keep_31 : decode zbHi_keep 31 = .ok (.iconst 1, 1) := by decide +kernel
theorem dHi_keep_32 : decode zbHi_keep 32 = .ok (.iadd, 1) := by decide +kernel
theorem dHi_keep_33 : decode zbHi_keep 33 = .ok (.bipush 12, 2) := by decide +kernel
theorem dHi_keep_35 : decode zbHi_keep 35 = .ok (.invokestatic 29, 3) := by decide +kernel
theorem dHi_keep_38 : decode zbHi_keep 38 = .ok (.putfield 17, 3) := by decide +kernel
theorem dHi_keep_41 : decode zbHi_keep 41 = .ok (.return_, 1) := by decide +kernel
theorem dHi_giveBack_0 : decode zbHi_giveBack 0 = .ok (.aload_n 0, 1) := by decide +kernel
theorem dHi_giveBack_1 : decode zbHi_giveBack 1 = .ok (.getfield 17, 3) := by decide +kernel
theorem dHi_giveBack_4 : decode zbHi_giveBack 4 = .ok (.ifCond .ne 5, 3) := by decide +kernel
theorem dHi_giveBack_7 : decode zbHi_giveBack 7 = .ok (.iconst 0, 1) := by decide +kernel
theorem dHi_giveBack_8 : decode zbHi_giveBack 8 = .ok (.ireturn, 1) := by decide +kernel
theorem dHi_giveBack_9 : decode zbHi_giveBack 9 = .ok (.aload_n 0, 1) := by decide +kernel
theorem dHi_giveBack_10 : decode zbHi_giveBack 10 = .ok (.aload_n 0, 1) := by decide +kernel
theorem dHi_giveBack_11 : decode zbHi_giveBack 11 = .ok (.getfield 21, 3) := by decide +kernel
theorem dHi_giveBack_14 : decode zbHi_giveBack 14 = .ok (.bipush 12, 2) := by decide +kernel
theorem dHi_giveBack_16 : decode zbHi_giveBack 16 = .ok (.iadd, 1) := by decide +kernel
theorem dHi_giveBack_17 : decode zbHi_giveBack 17 = .ok (.iconst 1, 1) := by decide +kernel
theorem dHi_giveBack_18 : decode zbHi_giveBack 18 = .ok (.isub, 1) := by decide +kernel
theorem dHi_giveBack_19 : decode zbHi_giveBack 19 = .ok (.bipush 12, 2) := by decide +kernel
theorem dHi_giveBack_21 : decode zbHi_giveBack 21 = .ok (.irem, 1) := by decide +kernel
theorem dHi_giveBack_22 : decode zbHi_giveBack 22 = .ok (.putfield 21, 3) := by decide +kernel
theorem dHi_giveBack_25 : decode zbHi_giveBack 25 = .ok (.aload_n 0, 1) := by decide +kernel
theorem dHi_giveBack_26 : decode zbHi_giveBack 26 = .ok (.dup, 1) := by decide +kernel
theorem dHi_giveBack_27 : decode zbHi_giveBack 27 = .ok (.getfield 17, 3) := by decide +kernel
theorem dHi_giveBack_30 : decode zbHi_giveBack 30 = .ok (.iconst 1, 1) := by decide +kernel
theorem dHi_giveBack_31 : decode zbHi_giveBack 31 = .ok (.isub, 1) := by decide +kernel
theorem dHi_giveBack_32 : decode zbHi_giveBack 32 = .ok (.putfield 17, 3) := by decide +kernel
theorem dHi_giveBack_35 : decode zbHi_giveBack 35 = .ok (.aload_n 1, 1) := by decide +kernel
theorem dHi_giveBack_36 : decode zbHi_giveBack 36 = .ok (.aload_n 0, 1) := by decide +kernel
theorem dHi_giveBack_37 : decode zbHi_giveBack 37 = .ok (.getfield 11, 3) := by decide +kernel
theorem dHi_giveBack_40 : decode zbHi_giveBack 40 = .ok (.aload_n 0, 1) := by decide +kernel
theorem dHi_giveBack_41 : decode zbHi_giveBack 41 = .ok (.getfield 21, 3) := by decide +kernel
theorem dHi_giveBack_44 : decode zbHi_giveBack 44 = .ok (.aaload, 1) := by decide +kernel
theorem dHi_giveBack_45 : decode zbHi_giveBack 45 = .ok (.invokevirtual 25, 3) := by decide +kernel
theorem dHi_giveBack_48 : decode zbHi_giveBack 48 = .ok (.iconst 1, 1) := by decide +kernel
theorem dHi_giveBack_49 : decode zbHi_giveBack 49 = .ok (.ireturn, 1) := by decide +kernel
theorem dHi_forget_0 : decode zbHi_forget 0 = .ok (.aload_n 0, 1) := by decide +kernel
theorem dHi_forget_1 : decode zbHi_forget 1 = .ok (.iconst 0, 1) := by decide +kernel
theorem dHi_forget_2 : decode zbHi_forget 2 = .ok (.putfield 17, 3) := by decide +kernel
theorem dHi_forget_5 : decode zbHi_forget 5 = .ok (.return_, 1) := by decide +kernel
theorem dRu_init_0 : decode zbRu_init 0 = .ok (.aload_n 0, 1) := by decide +kernel
theorem dRu_init_1 : decode zbRu_init 1 = .ok (.invokespecial 3, 3) := by decide +kernel
theorem dRu_init_4 : decode zbRu_init 4 = .ok (.aload_n 0, 1) := by decide +kernel
theorem dRu_init_5 : decode zbRu_init 5 = .ok (.bipush 61, 2) := by decide +kernel
theorem dRu_init_7 : decode zbRu_init 7 = .ok (.newarray .boolean, 2) := by decide +kernel
theorem dRu_init_9 : decode zbRu_init 9 = .ok (.putfield 9, 3) := by decide +kernel
theorem dRu_init_12 : decode zbRu_init 12 = .ok (.aload_n 0, 1) := by decide +kernel
theorem dRu_init_13 : decode zbRu_init 13 = .ok (.sipush 800, 3) := by decide +kernel
theorem dRu_init_16 : decode zbRu_init 16 = .ok (.newarray .int, 2) := by decide +kernel
theorem dRu_init_18 : decode zbRu_init 18 = .ok (.putfield 15, 3) := by decide +kernel
theorem dRu_init_21 : decode zbRu_init 21 = .ok (.aload_n 0, 1) := by decide +kernel
theorem dRu_init_22 : decode zbRu_init 22 = .ok (.iconst 0, 1) := by decide +kernel
theorem dRu_init_23 : decode zbRu_init 23 = .ok (.putfield 19, 3) := by decide +kernel
theorem dRu_init_26 : decode zbRu_init 26 = .ok (.return_, 1) := by decide +kernel
theorem dRu_start_0 : decode zbRu_start 0 = .ok (.aload_n 0, 1) := by decide +kernel
theorem dRu_start_1 : decode zbRu_start 1 = .ok (.iconst 0, 1) := by decide +kernel
theorem dRu_start_2 : decode zbRu_start 2 = .ok (.putfield 19, 3) := by decide +kernel
theorem dRu_start_5 : decode zbRu_start 5 = .ok (.iconst 0, 1) := by decide +kernel
theorem dRu_start_6 : decode zbRu_start 6 = .ok (.istore_n 3, 1) := by decide +kernel
theorem dRu_start_7 : decode zbRu_start 7 = .ok (.iload_n 3, 1) := by decide +kernel
theorem dRu_start_8 : decode zbRu_start 8 = .ok (.aload_n 1, 1) := by decide +kernel
theorem dRu_start_9 : decode zbRu_start 9 = .ok (.getfield 23, 3) := by decide +kernel
theorem dRu_start_12 : decode zbRu_start 12 = .ok (.if_icmp .ge 28, 3) := by decide +kernel
theorem dRu_start_15 : decode zbRu_start 15 = .ok (.aload_n 1, 1) := by decide +kernel
theorem dRu_start_16 : decode zbRu_start 16 = .ok (.getfield 28, 3) := by decide +kernel
theorem dRu_start_19 : decode zbRu_start 19 = .ok (.iload_n 3, 1) := by decide +kernel
theorem dRu_start_20 : decode zbRu_start 20 = .ok (.aaload, 1) := by decide +kernel
theorem dRu_start_21 : decode zbRu_start 21 = .ok (.getfield 32, 3) := by decide +kernel
theorem dRu_start_24 : decode zbRu_start 24 = .ok (.bipush 115, 2) := by decide +kernel
theorem dRu_start_26 : decode zbRu_start 26 = .ok (.if_icmp .ne 8, 3) := by decide +kernel
theorem dRu_start_29 : decode zbRu_start 29 = .ok (.aload_n 0, 1) := by decide +kernel
theorem dRu_start_30 : decode zbRu_start 30 = .ok (.iload_n 3, 1) := by decide +kernel
theorem dRu_start_31 : decode zbRu_start 31 = .ok (.invokevirtual 37, 3) := by decide +kernel
theorem dRu_start_34 : decode zbRu_start 34 = .ok (.iinc 3 1, 3) := by decide +kernel
theorem dRu_start_37 : decode zbRu_start 37 = .ok (.goto (-30), 3) := by decide +kernel
theorem dRu_start_40 : decode zbRu_start 40 = .ok (.aload_n 0, 1) := by decide +kernel
theorem dRu_start_41 : decode zbRu_start 41 = .ok (.aload_n 1, 1) := by decide +kernel
theorem dRu_start_42 : decode zbRu_start 42 = .ok (.aload_n 2, 1) := by decide +kernel
theorem dRu_start_43 : decode zbRu_start 43 = .ok (.invokevirtual 41, 3) := by decide +kernel
theorem dRu_start_46 : decode zbRu_start 46 = .ok (.ireturn, 1) := by decide +kernel
theorem dRu_happen_0 : decode zbRu_happen 0 = .ok (.aload_n 0, 1) := by decide +kernel
theorem dRu_happen_1 : decode zbRu_happen 1 = .ok (.iconst 0, 1) := by decide +kernel
theorem dRu_happen_2 : decode zbRu_happen 2 = .ok (.putfield 19, 3) := by decide +kernel
theorem dRu_happen_5 : decode zbRu_happen 5 = .ok (.iconst 0, 1) := by decide +kernel
theorem dRu_happen_6 : decode zbRu_happen 6 = .ok (.istore 5, 2) := by decide +kernel
theorem dRu_happen_8 : decode zbRu_happen 8 = .ok (.iload 5, 2) := by decide +kernel
theorem dRu_happen_10 : decode zbRu_happen 10 = .ok (.aload_n 1, 1) := by decide +kernel
theorem dRu_happen_11 : decode zbRu_happen 11 = .ok (.getfield 23, 3) := by decide +kernel
theorem dRu_happen_14 : decode zbRu_happen 14 = .ok (.if_icmp .ge 31, 3) := by decide +kernel
theorem dRu_happen_17 : decode zbRu_happen 17 = .ok (.aload_n 1, 1) := by decide +kernel
theorem dRu_happen_18 : decode zbRu_happen 18 = .ok (.getfield 28, 3) := by decide +kernel
theorem dRu_happen_21 : decode zbRu_happen 21 = .ok (.iload 5, 2) := by decide +kernel
theorem dRu_happen_23 : decode zbRu_happen 23 = .ok (.aaload, 1) := by decide +kernel
theorem dRu_happen_24 : decode zbRu_happen 24 = .ok (.iload_n 3, 1) := by decide +kernel
theorem dRu_happen_25 : decode zbRu_happen 25 = .ok (.iload 4, 2) := by decide +kernel
theorem dRu_happen_27 : decode zbRu_happen 27 = .ok (.invokevirtual 45, 3) := by decide +kernel
theorem dRu_happen_30 : decode zbRu_happen 30 = .ok (.ifCond .eq 9, 3) := by decide +kernel
theorem dRu_happen_33 : decode zbRu_happen 33 = .ok (.aload_n 0, 1) := by decide +kernel
theorem dRu_happen_34 : decode zbRu_happen 34 = .ok (.iload 5, 2) := by decide +kernel
theorem dRu_happen_36 : decode zbRu_happen 36 = .ok (.invokevirtual 37, 3) := by decide +kernel
theorem dRu_happen_39 : decode zbRu_happen 39 = .ok (.iinc 5 1, 3) := by decide +kernel
theorem dRu_happen_42 : decode zbRu_happen 42 = .ok (.goto (-34), 3) := by decide +kernel
theorem dRu_happen_45 : decode zbRu_happen 45 = .ok (.iconst 0, 1) := by decide +kernel
theorem dRu_happen_46 : decode zbRu_happen 46 = .ok (.istore 5, 2) := by decide +kernel
theorem dRu_happen_48 : decode zbRu_happen 48 = .ok (.aload_n 1, 1) := by decide +kernel
theorem dRu_happen_49 : decode zbRu_happen 49 = .ok (.aload_n 2, 1) := by decide +kernel
theorem dRu_happen_50 : decode zbRu_happen 50 = .ok (.getfield 49, 3) := by decide +kernel
theorem dRu_happen_53 : decode zbRu_happen 53 = .ok (.iload_n 3, 1) := by decide +kernel
theorem dRu_happen_54 : decode zbRu_happen 54 = .ok (.iload 4, 2) := by decide +kernel
theorem dRu_happen_56 : decode zbRu_happen 56 = .ok (.invokevirtual 55, 3) := by decide +kernel
theorem dRu_happen_59 : decode zbRu_happen 59 = .ok (.iconst (-1), 1) := by decide +kernel
theorem dRu_happen_60 : decode zbRu_happen 60 = .ok (.if_icmp .eq 46, 3) := by decide +kernel
theorem dRu_happen_63 : decode zbRu_happen 63 = .ok (.aload_n 1, 1) := by decide +kernel
theorem dRu_happen_64 : decode zbRu_happen 64 = .ok (.aload_n 2, 1) := by decide +kernel
theorem dRu_happen_65 : decode zbRu_happen 65 = .ok (.getfield 59, 3) := by decide +kernel
theorem dRu_happen_68 : decode zbRu_happen 68 = .ok (.iload_n 3, 1) := by decide +kernel
theorem dRu_happen_69 : decode zbRu_happen 69 = .ok (.iload 4, 2) := by decide +kernel
theorem dRu_happen_71 : decode zbRu_happen 71 = .ok (.invokevirtual 55, 3) := by decide +kernel
theorem dRu_happen_74 : decode zbRu_happen 74 = .ok (.istore 6, 2) := by decide +kernel
theorem dRu_happen_76 : decode zbRu_happen 76 = .ok (.iload 6, 2) := by decide +kernel
theorem dRu_happen_78 : decode zbRu_happen 78 = .ok (.iconst (-1), 1) := by decide +kernel
theorem dRu_happen_79 : decode zbRu_happen 79 = .ok (.if_icmp .ne 17, 3) := by decide +kernel
theorem dRu_happen_82 : decode zbRu_happen 82 = .ok (.aload_n 0, 1) := by decide +kernel
theorem dRu_happen_83 : decode zbRu_happen 83 = .ok (.aload_n 1, 1) := by decide +kernel
theorem dRu_happen_84 : decode zbRu_happen 84 = .ok (.aload_n 2, 1) := by decide +kernel
theorem dRu_happen_85 : decode zbRu_happen 85 = .ok (.iload_n 3, 1) := by decide +kernel
theorem dRu_happen_86 : decode zbRu_happen 86 = .ok (.iload 4, 2) := by decide +kernel
theorem dRu_happen_88 : decode zbRu_happen 88 = .ok (.invokevirtual 62, 3) := by decide +kernel
theorem dRu_happen_91 : decode zbRu_happen 91 = .ok (.istore 5, 2) := by decide +kernel
theorem dRu_happen_93 : decode zbRu_happen 93 = .ok (.goto 13, 3) := by decide +kernel
theorem dRu_happen_96 : decode zbRu_happen 96 = .ok (.aload_n 2, 1) := by decide +kernel
theorem dRu_happen_97 : decode zbRu_happen 97 = .ok (.getfield 59, 3) := by decide +kernel
theorem dRu_happen_100 : decode zbRu_happen 100 = .ok (.iload 6, 2) := by decide +kernel
theorem dRu_happen_102 : decode zbRu_happen 102 = .ok (.iconst 1, 1) := by decide +kernel
theorem dRu_happen_103 : decode zbRu_happen 103 = .ok (.invokevirtual 66, 3) := by decide +kernel
theorem dRu_happen_106 : decode zbRu_happen 106 = .ok (.aload_n 0, 1) := by decide +kernel
theorem dRu_happen_107 : decode zbRu_happen 107 = .ok (.aload_n 1, 1) := by decide +kernel
theorem dRu_happen_108 : decode zbRu_happen 108 = .ok (.aload_n 2, 1) := by decide +kernel
theorem dRu_happen_109 : decode zbRu_happen 109 = .ok (.iload_n 3, 1) := by decide +kernel
theorem dRu_happen_110 : decode zbRu_happen 110 = .ok (.iload 4, 2) := by decide +kernel
theorem dRu_happen_112 : decode zbRu_happen 112 = .ok (.invokevirtual 72, 3) := by decide +kernel
theorem dRu_happen_115 : decode zbRu_happen 115 = .ok (.aload_n 0, 1) := by decide +kernel
theorem dRu_happen_116 : decode zbRu_happen 116 = .ok (.aload_n 1, 1) := by decide +kernel
theorem dRu_happen_117 : decode zbRu_happen 117 = .ok (.aload_n 2, 1) := by decide +kernel
theorem dRu_happen_118 : decode zbRu_happen 118 = .ok (.invokevirtual 41, 3) := by decide +kernel
theorem dRu_happen_121 : decode zbRu_happen 121 = .ok (.ifCond .eq 8, 3) := by decide +kernel
theorem dRu_happen_124 : decode zbRu_happen 124 = .ok (.iload 5, 2) := by decide +kernel
theorem dRu_happen_126 : decode zbRu_happen 126 = .ok (.goto 5, 3) := by decide +kernel
theorem dRu_happen_129 : decode zbRu_happen 129 = .ok (.bipush (-2), 2) := by decide +kernel
theorem dRu_happen_131 : decode zbRu_happen 131 = .ok (.ireturn, 1) := by decide +kernel
theorem dRu_endDay_0 : decode zbRu_endDay 0 = .ok (.aload_n 0, 1) := by decide +kernel
theorem dRu_endDay_1 : decode zbRu_endDay 1 = .ok (.iconst 0, 1) := by decide +kernel
theorem dRu_endDay_2 : decode zbRu_endDay 2 = .ok (.putfield 19, 3) := by decide +kernel
theorem dRu_endDay_5 : decode zbRu_endDay 5 = .ok (.iconst 0, 1) := by decide +kernel
theorem dRu_endDay_6 : decode zbRu_endDay 6 = .ok (.istore_n 3, 1) := by decide +kernel
theorem dRu_endDay_7 : decode zbRu_endDay 7 = .ok (.iconst 0, 1) := by decide +kernel
theorem dRu_endDay_8 : decode zbRu_endDay 8 = .ok (.istore 4, 2) := by decide +kernel
theorem dRu_endDay_10 : decode zbRu_endDay 10 = .ok (.iload 4, 2) := by decide +kernel
theorem dRu_endDay_12 : decode zbRu_endDay 12 = .ok (.aload_n 1, 1) := by decide +kernel
theorem dRu_endDay_13 : decode zbRu_endDay 13 = .ok (.getfield 23, 3) := by decide +kernel
theorem dRu_endDay_16 : decode zbRu_endDay 16 = .ok (.if_icmp .ge 52, 3) := by decide +kernel
theorem dRu_endDay_19 : decode zbRu_endDay 19 = .ok (.aload_n 2, 1) := by decide +kernel
theorem dRu_endDay_20 : decode zbRu_endDay 20 = .ok (.getfield 76, 3) := by decide +kernel
theorem dRu_endDay_23 : decode zbRu_endDay 23 = .ok (.iload 4, 2) := by decide +kernel
theorem dRu_endDay_25 : decode zbRu_endDay 25 = .ok (.aload_n 2, 1) := by decide +kernel
theorem dRu_endDay_26 : decode zbRu_endDay 26 = .ok (.getfield 79, 3) := by decide +kernel
theorem dRu_endDay_29 : decode zbRu_endDay 29 = .ok (.invokevirtual 82, 3) := by decide +kernel
theorem dRu_endDay_32 : decode zbRu_endDay 32 = .ok (.istore 5, 2) := by decide +kernel
theorem dRu_endDay_34 : decode zbRu_endDay 34 = .ok (.aload_n 2, 1) := by decide +kernel
theorem dRu_endDay_35 : decode zbRu_endDay 35 = .ok (.getfield 86, 3) := by decide +kernel
theorem dRu_endDay_38 : decode zbRu_endDay 38 = .ok (.iload 4, 2) := by decide +kernel
theorem dRu_endDay_40 : decode zbRu_endDay 40 = .ok (.dup2, 1) := by decide +kernel
theorem dRu_endDay_41 : decode zbRu_endDay 41 = .ok (.iaload, 1) := by decide +kernel
theorem dRu_endDay_42 : decode zbRu_endDay 42 = .ok (.iload 5, 2) := by decide +kernel
theorem dRu_endDay_44 : decode zbRu_endDay 44 = .ok (.iadd, 1) := by decide +kernel
theorem dRu_endDay_45 : decode zbRu_endDay 45 = .ok (.iastore, 1) := by decide +kernel
theorem dRu_endDay_46 : decode zbRu_endDay 46 = .ok (.aload_n 0, 1) := by decide +kernel
theorem dRu_endDay_47 : decode zbRu_endDay 47 = .ok (.aload_n 1, 1) := by decide +kernel
theorem dRu_endDay_48 : decode zbRu_endDay 48 = .ok (.bipush 120, 2) := by decide +kernel
theorem dRu_endDay_50 : decode zbRu_endDay 50 = .ok (.iload 4, 2) := by decide +kernel
theorem dRu_endDay_52 : decode zbRu_endDay 52 = .ok (.iload 5, 2) := by decide +kernel
theorem dRu_endDay_54 : decode zbRu_endDay 54 = .ok (.invokevirtual 89, 3) := by decide +kernel
theorem dRu_endDay_57 : decode zbRu_endDay 57 = .ok (.iload_n 3, 1) := by decide +kernel
theorem dRu_endDay_58 : decode zbRu_endDay 58 = .ok (.iload 5, 2) := by decide +kernel
theorem dRu_endDay_60 : decode zbRu_endDay 60 = .ok (.iadd, 1) := by decide +kernel
theorem dRu_endDay_61 : decode zbRu_endDay 61 = .ok (.istore_n 3, 1) := by decide +kernel
theorem dRu_endDay_62 : decode zbRu_endDay 62 = .ok (.iinc 4 1, 3) := by decide +kernel
theorem dRu_endDay_65 : decode zbRu_endDay 65 = .ok (.goto (-55), 3) := by decide +kernel
theorem dRu_endDay_68 : decode zbRu_endDay 68 = .ok (.aload_n 2, 1) := by decide +kernel
theorem dRu_endDay_69 : decode zbRu_endDay 69 = .ok (.getfield 76, 3) := by decide +kernel
theorem dRu_endDay_72 : decode zbRu_endDay 72 = .ok (.aload_n 2, 1) := by decide +kernel
theorem dRu_endDay_73 : decode zbRu_endDay 73 = .ok (.getfield 79, 3) := by decide +kernel
theorem dRu_endDay_76 : decode zbRu_endDay 76 = .ok (.iconst 1, 1) := by decide +kernel
theorem dRu_endDay_77 : decode zbRu_endDay 77 = .ok (.iadd, 1) := by decide +kernel
theorem dRu_endDay_78 : decode zbRu_endDay 78 = .ok (.invokevirtual 93, 3) := by decide +kernel
theorem dRu_endDay_81 : decode zbRu_endDay 81 = .ok (.aload_n 0, 1) := by decide +kernel
theorem dRu_endDay_82 : decode zbRu_endDay 82 = .ok (.aload_n 1, 1) := by decide +kernel
theorem dRu_endDay_83 : decode zbRu_endDay 83 = .ok (.aload_n 2, 1) := by decide +kernel
theorem dRu_endDay_84 : decode zbRu_endDay 84 = .ok (.invokevirtual 41, 3) := by decide +kernel
theorem dRu_endDay_87 : decode zbRu_endDay 87 = .ok (.ifCond .ne 6, 3) := by decide +kernel
theorem dRu_endDay_90 : decode zbRu_endDay 90 = .ok (.bipush (-2), 2) := by decide +kernel
theorem dRu_endDay_92 : decode zbRu_endDay 92 = .ok (.ireturn, 1) := by decide +kernel
theorem dRu_endDay_93 : decode zbRu_endDay 93 = .ok (.aload_n 2, 1) := by decide +kernel
theorem dRu_endDay_94 : decode zbRu_endDay 94 = .ok (.dup, 1) := by decide +kernel
theorem dRu_endDay_95 : decode zbRu_endDay 95 = .ok (.getfield 79, 3) := by decide +kernel
theorem dRu_endDay_98 : decode zbRu_endDay 98 = .ok (.iconst 1, 1) := by decide +kernel
theorem dRu_endDay_99 : decode zbRu_endDay 99 = .ok (.iadd, 1) := by decide +kernel
theorem dRu_endDay_100 : decode zbRu_endDay 100 = .ok (.putfield 79, 3) := by decide +kernel
theorem dRu_endDay_103 : decode zbRu_endDay 103 = .ok (.aload_n 2, 1) := by decide +kernel
theorem dRu_endDay_104 : decode zbRu_endDay 104 = .ok (.getfield 49, 3) := by decide +kernel
theorem dRu_endDay_107 : decode zbRu_endDay 107 = .ok (.aload_n 2, 1) := by decide +kernel
theorem dRu_endDay_108 : decode zbRu_endDay 108 = .ok (.getfield 79, 3) := by decide +kernel
theorem dRu_endDay_111 : decode zbRu_endDay 111 = .ok (.invokevirtual 93, 3) := by decide +kernel
theorem dRu_endDay_114 : decode zbRu_endDay 114 = .ok (.aload_n 2, 1) := by decide +kernel
theorem dRu_endDay_115 : decode zbRu_endDay 115 = .ok (.getfield 59, 3) := by decide +kernel
theorem dRu_endDay_118 : decode zbRu_endDay 118 = .ok (.aload_n 2, 1) := by decide +kernel
theorem dRu_endDay_119 : decode zbRu_endDay 119 = .ok (.getfield 79, 3) := by decide +kernel
theorem dRu_endDay_122 : decode zbRu_endDay 122 = .ok (.invokevirtual 93, 3) := by decide +kernel
theorem dRu_endDay_125 : decode zbRu_endDay 125 = .ok (.iload_n 3, 1) := by decide +kernel
theorem dRu_endDay_126 : decode zbRu_endDay 126 = .ok (.ireturn, 1) := by decide +kernel
theorem dRu_breachBans_0 : decode zbRu_breachBans 0 = .ok (.iconst 0, 1) := by decide +kernel
theorem dRu_breachBans_1 : decode zbRu_breachBans 1 = .ok (.istore 5, 2) := by decide +kernel
theorem dRu_breachBans_3 : decode zbRu_breachBans 3 = .ok (.iconst 0, 1) := by decide +kernel
theorem dRu_breachBans_4 : decode zbRu_breachBans 4 = .ok (.istore 6, 2) := by decide +kernel
theorem dRu_breachBans_6 : decode zbRu_breachBans 6 = .ok (.iload 6, 2) := by decide +kernel
theorem dRu_breachBans_8 : decode zbRu_breachBans 8 = .ok (.aload_n 1, 1) := by decide +kernel
theorem dRu_breachBans_9 : decode zbRu_breachBans 9 = .ok (.getfield 23, 3) := by decide +kernel
theorem dRu_breachBans_12 : decode zbRu_breachBans 12 = .ok (.if_icmp .ge 68, 3) := by decide +kernel
theorem dRu_breachBans_15 : decode zbRu_breachBans 15 = .ok (.aload_n 1, 1) := by decide +kernel
theorem dRu_breachBans_16 : decode zbRu_breachBans 16 = .ok (.getfield 28, 3) := by decide +kernel
theorem dRu_breachBans_19 : decode zbRu_breachBans 19 = .ok (.iload 6, 2) := by decide +kernel
theorem dRu_breachBans_21 : decode zbRu_breachBans 21 = .ok (.aaload, 1) := by decide +kernel
theorem dRu_breachBans_22 : decode zbRu_breachBans 22 = .ok (.iload_n 3, 1) := by decide +kernel
theorem dRu_breachBans_23 : decode zbRu_breachBans 23 = .ok (.iload 4, 2) := by decide +kernel
theorem dRu_breachBans_25 : decode zbRu_breachBans 25 = .ok (.invokevirtual 96, 3) := by decide +kernel
theorem dRu_breachBans_28 : decode zbRu_breachBans 28 = .ok (.ifCond .eq 46, 3) := by decide +kernel
theorem dRu_breachBans_31 : decode zbRu_breachBans 31 = .ok (.aload_n 2, 1) := by decide +kernel
theorem dRu_breachBans_32 : decode zbRu_breachBans 32 = .ok (.getfield 49, 3) := by decide +kernel
theorem dRu_breachBans_35 : decode zbRu_breachBans 35 = .ok (.iload 6, 2) := by decide +kernel
theorem dRu_breachBans_37 : decode zbRu_breachBans 37 = .ok (.bipush 69, 2) := by decide +kernel
theorem dRu_breachBans_39 : decode zbRu_breachBans 39 = .ok (.invokevirtual 82, 3) := by decide +kernel
theorem dRu_breachBans_42 : decode zbRu_breachBans 42 = .ok (.istore 7, 2) := by decide +kernel
theorem dRu_breachBans_44 : decode zbRu_breachBans 44 = .ok (.aload_n 2, 1) := by decide +kernel
theorem dRu_breachBans_45 : decode zbRu_breachBans 45 = .ok (.getfield 86, 3) := by decide +kernel
theorem dRu_breachBans_48 : decode zbRu_breachBans 48 = .ok (.iload 6, 2) := by decide +kernel
theorem dRu_breachBans_50 : decode zbRu_breachBans 50 = .ok (.dup2, 1) := by decide +kernel
theorem dRu_breachBans_51 : decode zbRu_breachBans 51 = .ok (.iaload, 1) := by decide +kernel
theorem dRu_breachBans_52 : decode zbRu_breachBans 52 = .ok (.iload 7, 2) := by decide +kernel
theorem dRu_breachBans_54 : decode zbRu_breachBans 54 = .ok (.iadd, 1) := by decide +kernel
theorem dRu_breachBans_55 : decode zbRu_breachBans 55 = .ok (.iastore, 1) := by decide +kernel
theorem dRu_breachBans_56 : decode zbRu_breachBans 56 = .ok (.aload_n 0, 1) := by decide +kernel
theorem dRu_breachBans_57 : decode zbRu_breachBans 57 = .ok (.aload_n 1, 1) := by decide +kernel
theorem dRu_breachBans_58 : decode zbRu_breachBans 58 = .ok (.bipush 120, 2) := by decide +kernel
theorem dRu_breachBans_60 : decode zbRu_breachBans 60 = .ok (.iload 6, 2) := by decide +kernel
theorem dRu_breachBans_62 : decode zbRu_breachBans 62 = .ok (.iload 7, 2) := by decide +kernel
theorem dRu_breachBans_64 : decode zbRu_breachBans 64 = .ok (.invokevirtual 89, 3) := by decide +kernel
theorem dRu_breachBans_67 : decode zbRu_breachBans 67 = .ok (.iload 5, 2) := by decide +kernel
theorem dRu_breachBans_69 : decode zbRu_breachBans 69 = .ok (.iload 7, 2) := by decide +kernel
theorem dRu_breachBans_71 : decode zbRu_breachBans 71 = .ok (.iadd, 1) := by decide +kernel
theorem dRu_breachBans_72 : decode zbRu_breachBans 72 = .ok (.istore 5, 2) := by decide +kernel
theorem dRu_breachBans_74 : decode zbRu_breachBans 74 = .ok (.iinc 6 1, 3) := by decide +kernel
theorem dRu_breachBans_77 : decode zbRu_breachBans 77 = .ok (.goto (-71), 3) := by decide +kernel
theorem dRu_breachBans_80 : decode zbRu_breachBans 80 = .ok (.iload 5, 2) := by decide +kernel
theorem dRu_breachBans_82 : decode zbRu_breachBans 82 = .ok (.ireturn, 1) := by decide +kernel
theorem dRu_fulfilDuty_0 : decode zbRu_fulfilDuty 0 = .ok (.aload_n 1, 1) := by decide +kernel
theorem dRu_fulfilDuty_1 : decode zbRu_fulfilDuty 1 = .ok (.aload_n 2, 1) := by decide +kernel
theorem dRu_fulfilDuty_2 : decode zbRu_fulfilDuty 2 = .ok (.getfield 76, 3) := by decide +kernel
theorem dRu_fulfilDuty_5 : decode zbRu_fulfilDuty 5 = .ok (.iload_n 3, 1) := by decide +kernel
theorem dRu_fulfilDuty_6 : decode zbRu_fulfilDuty 6 = .ok (.iload 4, 2) := by decide +kernel
theorem dRu_fulfilDuty_8 : decode zbRu_fulfilDuty 8 = .ok (.invokevirtual 55, 3) := by decide +kernel
theorem dRu_fulfilDuty_11 : decode zbRu_fulfilDuty 11 = .ok (.istore 5, 2) := by decide +kernel
theorem dRu_fulfilDuty_13 : decode zbRu_fulfilDuty 13 = .ok (.iload 5, 2) := by decide +kernel
theorem dRu_fulfilDuty_15 : decode zbRu_fulfilDuty 15 = .ok (.iconst (-1), 1) := by decide +kernel
theorem dRu_fulfilDuty_16 : decode zbRu_fulfilDuty 16 = .ok (.if_icmp .eq 30, 3) := by decide +kernel
theorem dRu_fulfilDuty_19 : decode zbRu_fulfilDuty 19 = .ok (.aload_n 0, 1) := by decide +kernel
theorem dRu_fulfilDuty_20 : decode zbRu_fulfilDuty 20 = .ok (.aload_n 1, 1) := by decide +kernel
theorem dRu_fulfilDuty_21 : decode zbRu_fulfilDuty 21 = .ok (.bipush 102, 2) := by decide +kernel
theorem dRu_fulfilDuty_23 : decode zbRu_fulfilDuty 23 = .ok (.aload_n 2, 1) := by decide +kernel
theorem dRu_fulfilDuty_24 : decode zbRu_fulfilDuty 24 = .ok (.getfield 76, 3) := by decide +kernel
theorem dRu_fulfilDuty_27 : decode zbRu_fulfilDuty 27 = .ok (.iload 5, 2) := by decide +kernel
theorem dRu_fulfilDuty_29 : decode zbRu_fulfilDuty 29 = .ok (.invokevirtual 99, 3) := by decide +kernel
theorem dRu_fulfilDuty_32 : decode zbRu_fulfilDuty 32 = .ok (.iconst 1, 1) := by decide +kernel
theorem dRu_fulfilDuty_33 : decode zbRu_fulfilDuty 33 = .ok (.invokevirtual 89, 3) := by decide +kernel
theorem dRu_fulfilDuty_36 : decode zbRu_fulfilDuty 36 = .ok (.aload_n 2, 1) := by decide +kernel
theorem dRu_fulfilDuty_37 : decode zbRu_fulfilDuty 37 = .ok (.getfield 76, 3) := by decide +kernel
theorem dRu_fulfilDuty_40 : decode zbRu_fulfilDuty 40 = .ok (.iload 5, 2) := by decide +kernel
theorem dRu_fulfilDuty_42 : decode zbRu_fulfilDuty 42 = .ok (.iconst 1, 1) := by decide +kernel
theorem dRu_fulfilDuty_43 : decode zbRu_fulfilDuty 43 = .ok (.invokevirtual 66, 3) := by decide +kernel
theorem dRu_fulfilDuty_46 : decode zbRu_fulfilDuty 46 = .ok (.return_, 1) := by decide +kernel
theorem dRu_awaitAllOn_0 : decode zbRu_awaitAllOn 0 = .ok (.iconst 0, 1) := by decide +kernel
theorem dRu_awaitAllOn_1 : decode zbRu_awaitAllOn 1 = .ok (.istore 5, 2) := by decide +kernel
theorem dRu_awaitAllOn_3 : decode zbRu_awaitAllOn 3 = .ok (.iload 5, 2) := by decide +kernel
theorem dRu_awaitAllOn_5 : decode zbRu_awaitAllOn 5 = .ok (.iload 4, 2) := by decide +kernel
theorem dRu_awaitAllOn_7 : decode zbRu_awaitAllOn 7 = .ok (.if_icmp .ge 48, 3) := by decide +kernel
theorem dRu_awaitAllOn_10 : decode zbRu_awaitAllOn 10 = .ok (.iconst 0, 1) := by decide +kernel
theorem dRu_awaitAllOn_11 : decode zbRu_awaitAllOn 11 = .ok (.istore 6, 2) := by decide +kernel
theorem dRu_awaitAllOn_13 : decode zbRu_awaitAllOn 13 = .ok (.iload 6, 2) := by decide +kernel
theorem dRu_awaitAllOn_15 : decode zbRu_awaitAllOn 15 = .ok (.aload_n 1, 1) := by decide +kernel
theorem dRu_awaitAllOn_16 : decode zbRu_awaitAllOn 16 = .ok (.getfield 23, 3) := by decide +kernel
theorem dRu_awaitAllOn_19 : decode zbRu_awaitAllOn 19 = .ok (.if_icmp .ge 30, 3) := by decide +kernel
theorem dRu_awaitAllOn_22 : decode zbRu_awaitAllOn 22 = .ok (.aload_n 1, 1) := by decide +kernel
theorem dRu_awaitAllOn_23 : decode zbRu_awaitAllOn 23 = .ok (.getfield 28, 3) := by decide +kernel
theorem dRu_awaitAllOn_26 : decode zbRu_awaitAllOn 26 = .ok (.iload 6, 2) := by decide +kernel
theorem dRu_awaitAllOn_28 : decode zbRu_awaitAllOn 28 = .ok (.aaload, 1) := by decide +kernel
theorem dRu_awaitAllOn_29 : decode zbRu_awaitAllOn 29 = .ok (.iload_n 2, 1) := by decide +kernel
theorem dRu_awaitAllOn_30 : decode zbRu_awaitAllOn 30 = .ok (.iload_n 3, 1) := by decide +kernel
theorem dRu_awaitAllOn_31 : decode zbRu_awaitAllOn 31 = .ok (.invokevirtual 103, 3) := by decide +kernel
theorem dRu_awaitAllOn_34 : decode zbRu_awaitAllOn 34 = .ok (.ifCond .eq 9, 3) := by decide +kernel
theorem dRu_awaitAllOn_37 : decode zbRu_awaitAllOn 37 = .ok (.aload_n 0, 1) := by decide +kernel
theorem dRu_awaitAllOn_38 : decode zbRu_awaitAllOn 38 = .ok (.iload 6, 2) := by decide +kernel
theorem dRu_awaitAllOn_40 : decode zbRu_awaitAllOn 40 = .ok (.invokevirtual 37, 3) := by decide +kernel
theorem dRu_awaitAllOn_43 : decode zbRu_awaitAllOn 43 = .ok (.iinc 6 1, 3) := by decide +kernel
theorem dRu_awaitAllOn_46 : decode zbRu_awaitAllOn 46 = .ok (.goto (-33), 3) := by decide +kernel
theorem dRu_awaitAllOn_49 : decode zbRu_awaitAllOn 49 = .ok (.iinc 5 1, 3) := by decide +kernel
theorem dRu_awaitAllOn_52 : decode zbRu_awaitAllOn 52 = .ok (.goto (-49), 3) := by decide +kernel
theorem dRu_awaitAllOn_55 : decode zbRu_awaitAllOn 55 = .ok (.return_, 1) := by decide +kernel
theorem dRu_await_0 : decode zbRu_await 0 = .ok (.aload_n 0, 1) := by decide +kernel
theorem dRu_await_1 : decode zbRu_await 1 = .ok (.getfield 19, 3) := by decide +kernel
theorem dRu_await_4 : decode zbRu_await 4 = .ok (.sipush 800, 3) := by decide +kernel
theorem dRu_await_7 : decode zbRu_await 7 = .ok (.if_icmp .ge 23, 3) := by decide +kernel
theorem dRu_await_10 : decode zbRu_await 10 = .ok (.aload_n 0, 1) := by decide +kernel
theorem dRu_await_11 : decode zbRu_await 11 = .ok (.getfield 15, 3) := by decide +kernel
theorem dRu_await_14 : decode zbRu_await 14 = .ok (.aload_n 0, 1) := by decide +kernel
theorem dRu_await_15 : decode zbRu_await 15 = .ok (.getfield 19, 3) := by decide +kernel
theorem dRu_await_18 : decode zbRu_await 18 = .ok (.iload_n 1, 1) := by decide +kernel
theorem dRu_await_19 : decode zbRu_await 19 = .ok (.iastore, 1) := by decide +kernel
theorem dRu_await_20 : decode zbRu_await 20 = .ok (.aload_n 0, 1) := by decide +kernel
theorem dRu_await_21 : decode zbRu_await 21 = .ok (.dup, 1) := by decide +kernel
theorem dRu_await_22 : decode zbRu_await 22 = .ok (.getfield 19, 3) := by decide +kernel
theorem dRu_await_25 : decode zbRu_await 25 = .ok (.iconst 1, 1) := by decide +kernel
theorem dRu_await_26 : decode zbRu_await 26 = .ok (.iadd, 1) := by decide +kernel
theorem dRu_await_27 : decode zbRu_await 27 = .ok (.putfield 19, 3) := by decide +kernel
theorem dRu_await_30 : decode zbRu_await 30 = .ok (.return_, 1) := by decide +kernel
theorem dRu_runWaiting_0 : decode zbRu_runWaiting 0 = .ok (.iconst 0, 1) := by decide +kernel
theorem dRu_runWaiting_1 : decode zbRu_runWaiting 1 = .ok (.istore_n 3, 1) := by decide +kernel
theorem dRu_runWaiting_2 : decode zbRu_runWaiting 2 = .ok (.iload_n 3, 1) := by decide +kernel
theorem dRu_runWaiting_3 : decode zbRu_runWaiting 3 = .ok (.aload_n 0, 1) := by decide +kernel
theorem dRu_runWaiting_4 : decode zbRu_runWaiting 4 = .ok (.getfield 19, 3) := by decide +kernel
theorem dRu_runWaiting_7 : decode zbRu_runWaiting 7 = .ok (.if_icmp .ge 56, 3) := by decide +kernel
theorem dRu_runWaiting_10 : decode zbRu_runWaiting 10 = .ok (.iload_n 3, 1) := by decide +kernel
theorem dRu_runWaiting_11 : decode zbRu_runWaiting 11 = .ok (.sipush 800, 3) := by decide +kernel
theorem dRu_runWaiting_14 : decode zbRu_runWaiting 14 = .ok (.if_icmp .ge 49, 3) := by decide +kernel
theorem dRu_runWaiting_17 : decode zbRu_runWaiting 17 = .ok (.aload_n 1, 1) := by decide +kernel
theorem dRu_runWaiting_18 : decode zbRu_runWaiting 18 = .ok (.getfield 28, 3) := by decide +kernel
theorem dRu_runWaiting_21 : decode zbRu_runWaiting 21 = .ok (.aload_n 0, 1) := by decide +kernel
theorem dRu_runWaiting_22 : decode zbRu_runWaiting 22 = .ok (.getfield 15, 3) := by decide +kernel
theorem dRu_runWaiting_25 : decode zbRu_runWaiting 25 = .ok (.iload_n 3, 1) := by decide +kernel
theorem dRu_runWaiting_26 : decode zbRu_runWaiting 26 = .ok (.iaload, 1) := by decide +kernel
theorem dRu_runWaiting_27 : decode zbRu_runWaiting 27 = .ok (.aaload, 1) := by decide +kernel
theorem dRu_runWaiting_28 : decode zbRu_runWaiting 28 = .ok (.astore 4, 2) := by decide +kernel
theorem dRu_runWaiting_30 : decode zbRu_runWaiting 30 = .ok (.aload 4, 2) := by decide +kernel
theorem dRu_runWaiting_32 : decode zbRu_runWaiting 32 = .ok (.aload_n 2, 1) := by decide +kernel
theorem dRu_runWaiting_33 : decode zbRu_runWaiting 33 = .ok (.invokevirtual 106, 3) := by decide +kernel
theorem dRu_runWaiting_36 : decode zbRu_runWaiting 36 = .ok (.ifCond .eq 21, 3) := by decide +kernel
theorem dRu_runWaiting_39 : decode zbRu_runWaiting 39 = .ok (.aload_n 0, 1) := by decide +kernel
theorem dRu_runWaiting_40 : decode zbRu_runWaiting 40 = .ok (.aload 4, 2) := by decide +kernel
theorem dRu_runWaiting_42 : decode zbRu_runWaiting 42 = .ok (.aload_n 0, 1) := by decide +kernel
theorem dRu_runWaiting_43 : decode zbRu_runWaiting 43 = .ok (.getfield 15, 3) := by decide +kernel
theorem dRu_runWaiting_46 : decode zbRu_runWaiting 46 = .ok (.iload_n 3, 1) := by decide +kernel
theorem dRu_runWaiting_47 : decode zbRu_runWaiting 47 = .ok (.iaload, 1) := by decide +kernel
theorem dRu_runWaiting_48 : decode zbRu_runWaiting 48 = .ok (.aload_n 2, 1) := by decide +kernel
theorem dRu_runWaiting_49 : decode zbRu_runWaiting 49 = .ok (.invokevirtual 110, 3) := by decide +kernel
theorem dRu_runWaiting_52 : decode zbRu_runWaiting 52 = .ok (.ifCond .ne 5, 3) := by decide +kernel
theorem dRu_runWaiting_55 : decode zbRu_runWaiting 55 = .ok (.iconst 0, 1) := by decide +kernel
theorem dRu_runWaiting_56 : decode zbRu_runWaiting 56 = .ok (.ireturn, 1) := by decide +kernel
theorem dRu_runWaiting_57 : decode zbRu_runWaiting 57 = .ok (.iinc 3 1, 3) := by decide +kernel
theorem dRu_runWaiting_60 : decode zbRu_runWaiting 60 = .ok (.goto (-58), 3) := by decide +kernel
theorem dRu_runWaiting_63 : decode zbRu_runWaiting 63 = .ok (.iconst 1, 1) := by decide +kernel
theorem dRu_runWaiting_64 : decode zbRu_runWaiting 64 = .ok (.ireturn, 1) := by decide +kernel
theorem dRu_act_0 : decode zbRu_act 0 = .ok (.aload_n 1, 1) := by decide +kernel
theorem dRu_act_1 : decode zbRu_act 1 = .ok (.getfield 114, 3) := by decide +kernel
theorem dRu_act_4 : decode zbRu_act 4 = .ok (.lookupswitch 118 #[(33, 44), (36, 101), (63, 83), (126, 65)], 44) := by decide +kernel
theorem dRu_act_48 : decode zbRu_act 48 = .ok (.aload_n 3, 1) := by decide +kernel
theorem dRu_act_49 : decode zbRu_act 49 = .ok (.getfield 76, 3) := by decide +kernel
theorem dRu_act_52 : decode zbRu_act 52 = .ok (.iload_n 2, 1) := by decide +kernel
theorem dRu_act_53 : decode zbRu_act 53 = .ok (.aload_n 0, 1) := by decide +kernel
theorem dRu_act_54 : decode zbRu_act 54 = .ok (.aload_n 3, 1) := by decide +kernel
theorem dRu_act_55 : decode zbRu_act 55 = .ok (.getfield 79, 3) := by decide +kernel
theorem dRu_act_58 : decode zbRu_act 58 = .ok (.aload_n 1, 1) := by decide +kernel
theorem dRu_act_59 : decode zbRu_act 59 = .ok (.getfield 117, 3) := by decide +kernel
theorem dRu_act_62 : decode zbRu_act 62 = .ok (.invokevirtual 120, 3) := by decide +kernel
theorem dRu_act_65 : decode zbRu_act 65 = .ok (.invokevirtual 123, 3) := by decide +kernel
theorem dRu_act_68 : decode zbRu_act 68 = .ok (.ireturn, 1) := by decide +kernel
theorem dRu_act_69 : decode zbRu_act 69 = .ok (.aload_n 3, 1) := by decide +kernel
theorem dRu_act_70 : decode zbRu_act 70 = .ok (.getfield 49, 3) := by decide +kernel
theorem dRu_act_73 : decode zbRu_act 73 = .ok (.iload_n 2, 1) := by decide +kernel
theorem dRu_act_74 : decode zbRu_act 74 = .ok (.aload_n 3, 1) := by decide +kernel
theorem dRu_act_75 : decode zbRu_act 75 = .ok (.getfield 79, 3) := by decide +kernel
theorem dRu_act_78 : decode zbRu_act 78 = .ok (.aload_n 1, 1) := by decide +kernel
theorem dRu_act_79 : decode zbRu_act 79 = .ok (.getfield 117, 3) := by decide +kernel
theorem dRu_act_82 : decode zbRu_act 82 = .ok (.iadd, 1) := by decide +kernel
theorem dRu_act_83 : decode zbRu_act 83 = .ok (.invokevirtual 123, 3) := by decide +kernel
theorem dRu_act_86 : decode zbRu_act 86 = .ok (.ireturn, 1) := by decide +kernel
theorem dRu_act_87 : decode zbRu_act 87 = .ok (.aload_n 3, 1) := by decide +kernel
theorem dRu_act_88 : decode zbRu_act 88 = .ok (.getfield 59, 3) := by decide +kernel
theorem dRu_act_91 : decode zbRu_act 91 = .ok (.iload_n 2, 1) := by decide +kernel
theorem dRu_act_92 : decode zbRu_act 92 = .ok (.aload_n 3, 1) := by decide +kernel
theorem dRu_act_93 : decode zbRu_act 93 = .ok (.getfield 79, 3) := by decide +kernel
theorem dRu_act_96 : decode zbRu_act 96 = .ok (.aload_n 1, 1) := by decide +kernel
theorem dRu_act_97 : decode zbRu_act 97 = .ok (.getfield 117, 3) := by decide +kernel
theorem dRu_act_100 : decode zbRu_act 100 = .ok (.iadd, 1) := by decide +kernel
theorem dRu_act_101 : decode zbRu_act 101 = .ok (.invokevirtual 123, 3) := by decide +kernel
theorem dRu_act_104 : decode zbRu_act 104 = .ok (.ireturn, 1) := by decide +kernel
theorem dRu_act_105 : decode zbRu_act 105 = .ok (.aload_n 3, 1) := by decide +kernel
theorem dRu_act_106 : decode zbRu_act 106 = .ok (.aload_n 1, 1) := by decide +kernel
theorem dRu_act_107 : decode zbRu_act 107 = .ok (.getfield 126, 3) := by decide +kernel
theorem dRu_act_110 : decode zbRu_act 110 = .ok (.aload_n 1, 1) := by decide +kernel
theorem dRu_act_111 : decode zbRu_act 111 = .ok (.getfield 129, 3) := by decide +kernel
theorem dRu_act_114 : decode zbRu_act 114 = .ok (.aload_n 1, 1) := by decide +kernel
theorem dRu_act_115 : decode zbRu_act 115 = .ok (.getfield 117, 3) := by decide +kernel
theorem dRu_act_118 : decode zbRu_act 118 = .ok (.invokevirtual 132, 3) := by decide +kernel
theorem dRu_act_121 : decode zbRu_act 121 = .ok (.ireturn, 1) := by decide +kernel
theorem dRu_act_122 : decode zbRu_act 122 = .ok (.aload_n 0, 1) := by decide +kernel
theorem dRu_act_123 : decode zbRu_act 123 = .ok (.aload_n 1, 1) := by decide +kernel
theorem dRu_act_124 : decode zbRu_act 124 = .ok (.getfield 117, 3) := by decide +kernel
theorem dRu_act_127 : decode zbRu_act 127 = .ok (.invokevirtual 37, 3) := by decide +kernel
theorem dRu_act_130 : decode zbRu_act 130 = .ok (.iconst 1, 1) := by decide +kernel
theorem dRu_act_131 : decode zbRu_act 131 = .ok (.ireturn, 1) := by decide +kernel
theorem dRu_businessDay_0 : decode zbRu_businessDay 0 = .ok (.iload_n 2, 1) := by decide +kernel
theorem dRu_businessDay_1 : decode zbRu_businessDay 1 = .ok (.istore_n 3, 1) := by decide +kernel
theorem dRu_businessDay_2 : decode zbRu_businessDay 2 = .ok (.iload_n 1, 1) := by decide +kernel
theorem dRu_businessDay_3 : decode zbRu_businessDay 3 = .ok (.istore 4, 2) := by decide +kernel
theorem dRu_businessDay_5 : decode zbRu_businessDay 5 = .ok (.iload_n 3, 1) := by decide +kernel
theorem dRu_businessDay_6 : decode zbRu_businessDay 6 = .ok (.ifCond .le 36, 3) := by decide +kernel
theorem dRu_businessDay_9 : decode zbRu_businessDay 9 = .ok (.iload 4, 2) := by decide +kernel
theorem dRu_businessDay_11 : decode zbRu_businessDay 11 = .ok (.bipush 69, 2) := by decide +kernel
theorem dRu_businessDay_13 : decode zbRu_businessDay 13 = .ok (.if_icmp .ge 29, 3) := by decide +kernel
theorem dRu_businessDay_16 : decode zbRu_businessDay 16 = .ok (.iinc 4 1, 3) := by decide +kernel
theorem dRu_businessDay_19 : decode zbRu_businessDay 19 = .ok (.iload 4, 2) := by decide +kernel
theorem dRu_businessDay_21 : decode zbRu_businessDay 21 = .ok (.bipush 60, 2) := by decide +kernel
theorem dRu_businessDay_23 : decode zbRu_businessDay 23 = .ok (.if_icmp .gt 13, 3) := by decide +kernel
theorem dRu_businessDay_26 : decode zbRu_businessDay 26 = .ok (.aload_n 0, 1) := by decide +kernel
theorem dRu_businessDay_27 : decode zbRu_businessDay 27 = .ok (.getfield 9, 3) := by decide +kernel
theorem dRu_businessDay_30 : decode zbRu_businessDay 30 = .ok (.iload 4, 2) := by decide +kernel
theorem dRu_businessDay_32 : decode zbRu_businessDay 32 = .ok (.baload, 1) := by decide +kernel
theorem dRu_businessDay_33 : decode zbRu_businessDay 33 = .ok (.ifCond .ne (-28), 3) := by decide +kernel
theorem dRu_businessDay_36 : decode zbRu_businessDay 36 = .ok (.iinc 3 (-1), 3) := by decide +kernel
theorem dRu_businessDay_39 : decode zbRu_businessDay 39 = .ok (.goto (-34), 3) := by decide +kernel
theorem dRu_businessDay_42 : decode zbRu_businessDay 42 = .ok (.iload 4, 2) := by decide +kernel
theorem dRu_businessDay_44 : decode zbRu_businessDay 44 = .ok (.ireturn, 1) := by decide +kernel
theorem dSe_init_0 : decode zbSe_init 0 = .ok (.aload_n 0, 1) := by decide +kernel
theorem dSe_init_1 : decode zbSe_init 1 = .ok (.invokespecial 3, 3) := by decide +kernel
theorem dSe_init_4 : decode zbSe_init 4 = .ok (.aload_n 0, 1) := by decide +kernel
theorem dSe_init_5 : decode zbSe_init 5 = .ok (.new 9, 3) := by decide +kernel
theorem dSe_init_8 : decode zbSe_init 8 = .ok (.dup, 1) := by decide +kernel
theorem dSe_init_9 : decode zbSe_init 9 = .ok (.invokespecial 11, 3) := by decide +kernel
theorem dSe_init_12 : decode zbSe_init 12 = .ok (.putfield 12, 3) := by decide +kernel
theorem dSe_init_15 : decode zbSe_init 15 = .ok (.aload_n 0, 1) := by decide +kernel
theorem dSe_init_16 : decode zbSe_init 16 = .ok (.iconst 2, 1) := by decide +kernel
theorem dSe_init_17 : decode zbSe_init 17 = .ok (.anewarray 18, 3) := by decide +kernel
theorem dSe_init_20 : decode zbSe_init 20 = .ok (.putfield 20, 3) := by decide +kernel
theorem dSe_init_23 : decode zbSe_init 23 = .ok (.aload_n 0, 1) := by decide +kernel
theorem dSe_init_24 : decode zbSe_init 24 = .ok (.iconst 2, 1) := by decide +kernel
theorem dSe_init_25 : decode zbSe_init 25 = .ok (.anewarray 18, 3) := by decide +kernel
theorem dSe_init_28 : decode zbSe_init 28 = .ok (.putfield 24, 3) := by decide +kernel
theorem dSe_init_31 : decode zbSe_init 31 = .ok (.aload_n 0, 1) := by decide +kernel
theorem dSe_init_32 : decode zbSe_init 32 = .ok (.iconst 2, 1) := by decide +kernel
theorem dSe_init_33 : decode zbSe_init 33 = .ok (.anewarray 18, 3) := by decide +kernel
theorem dSe_init_36 : decode zbSe_init 36 = .ok (.putfield 27, 3) := by decide +kernel
theorem dSe_init_39 : decode zbSe_init 39 = .ok (.iconst 0, 1) := by decide +kernel
theorem dSe_init_40 : decode zbSe_init 40 = .ok (.istore_n 1, 1) := by decide +kernel
theorem dSe_init_41 : decode zbSe_init 41 = .ok (.iload_n 1, 1) := by decide +kernel
theorem dSe_init_42 : decode zbSe_init 42 = .ok (.iconst 2, 1) := by decide +kernel
theorem dSe_init_43 : decode zbSe_init 43 = .ok (.if_icmp .ge 48, 3) := by decide +kernel
theorem dSe_init_46 : decode zbSe_init 46 = .ok (.aload_n 0, 1) := by decide +kernel
theorem dSe_init_47 : decode zbSe_init 47 = .ok (.getfield 20, 3) := by decide +kernel
theorem dSe_init_50 : decode zbSe_init 50 = .ok (.iload_n 1, 1) := by decide +kernel
theorem dSe_init_51 : decode zbSe_init 51 = .ok (.new 18, 3) := by decide +kernel
theorem dSe_init_54 : decode zbSe_init 54 = .ok (.dup, 1) := by decide +kernel
theorem dSe_init_55 : decode zbSe_init 55 = .ok (.invokespecial 30, 3) := by decide +kernel
theorem dSe_init_58 : decode zbSe_init 58 = .ok (.aastore, 1) := by decide +kernel
theorem dSe_init_59 : decode zbSe_init 59 = .ok (.aload_n 0, 1) := by decide +kernel
theorem dSe_init_60 : decode zbSe_init 60 = .ok (.getfield 24, 3) := by decide +kernel
theorem dSe_init_63 : decode zbSe_init 63 = .ok (.iload_n 1, 1) := by decide +kernel
theorem dSe_init_64 : decode zbSe_init 64 = .ok (.new 18, 3) := by decide +kernel
theorem dSe_init_67 : decode zbSe_init 67 = .ok (.dup, 1) := by decide +kernel
theorem dSe_init_68 : decode zbSe_init 68 = .ok (.invokespecial 30, 3) := by decide +kernel
theorem dSe_init_71 : decode zbSe_init 71 = .ok (.aastore, 1) := by decide +kernel
theorem dSe_init_72 : decode zbSe_init 72 = .ok (.aload_n 0, 1) := by decide +kernel
theorem dSe_init_73 : decode zbSe_init 73 = .ok (.getfield 27, 3) := by decide +kernel
theorem dSe_init_76 : decode zbSe_init 76 = .ok (.iload_n 1, 1) := by decide +kernel
theorem dSe_init_77 : decode zbSe_init 77 = .ok (.new 18, 3) := by decide +kernel
theorem dSe_init_80 : decode zbSe_init 80 = .ok (.dup, 1) := by decide +kernel
theorem dSe_init_81 : decode zbSe_init 81 = .ok (.invokespecial 30, 3) := by decide +kernel
theorem dSe_init_84 : decode zbSe_init 84 = .ok (.aastore, 1) := by decide +kernel
theorem dSe_init_85 : decode zbSe_init 85 = .ok (.iinc 1 1, 3) := by decide +kernel
theorem dSe_init_88 : decode zbSe_init 88 = .ok (.goto (-47), 3) := by decide +kernel
theorem dSe_init_91 : decode zbSe_init 91 = .ok (.return_, 1) := by decide +kernel
theorem dSe_firstCourse_0 : decode zbSe_firstCourse 0 = .ok (.iload 4, 2) := by decide +kernel
theorem dSe_firstCourse_2 : decode zbSe_firstCourse 2 = .ok (.iconst 1, 1) := by decide +kernel
theorem dSe_firstCourse_3 : decode zbSe_firstCourse 3 = .ok (.if_icmp .lt 9, 3) := by decide +kernel
theorem dSe_firstCourse_6 : decode zbSe_firstCourse 6 = .ok (.iload 4, 2) := by decide +kernel
theorem dSe_firstCourse_8 : decode zbSe_firstCourse 8 = .ok (.iconst 2, 1) := by decide +kernel
theorem dSe_firstCourse_9 : decode zbSe_firstCourse 9 = .ok (.if_icmp .le 5, 3) := by decide +kernel
theorem dSe_firstCourse_12 : decode zbSe_firstCourse 12 = .ok (.iconst (-1), 1) := by decide +kernel
theorem dSe_firstCourse_13 : decode zbSe_firstCourse 13 = .ok (.ireturn, 1) := by decide +kernel
theorem dSe_firstCourse_14 : decode zbSe_firstCourse 14 = .ok (.aload_n 0, 1) := by decide +kernel
theorem dSe_firstCourse_15 : decode zbSe_firstCourse 15 = .ok (.aload_n 1, 1) := by decide +kernel
theorem dSe_firstCourse_16 : decode zbSe_firstCourse 16 = .ok (.aload_n 2, 1) := by decide +kernel
theorem dSe_firstCourse_17 : decode zbSe_firstCourse 17 = .ok (.iload_n 3, 1) := by decide +kernel
theorem dSe_firstCourse_18 : decode zbSe_firstCourse 18 = .ok (.iload 4, 2) := by decide +kernel
theorem dSe_firstCourse_20 : decode zbSe_firstCourse 20 = .ok (.invokevirtual 31, 3) := by decide +kernel
theorem dSe_firstCourse_23 : decode zbSe_firstCourse 23 = .ok (.ifCond .eq 5, 3) := by decide +kernel
theorem dSe_firstCourse_26 : decode zbSe_firstCourse 26 = .ok (.iconst 0, 1) := by decide +kernel
theorem dSe_firstCourse_27 : decode zbSe_firstCourse 27 = .ok (.ireturn, 1) := by decide +kernel
theorem dSe_firstCourse_28 : decode zbSe_firstCourse 28 = .ok (.aload_n 0, 1) := by decide +kernel
theorem dSe_firstCourse_29 : decode zbSe_firstCourse 29 = .ok (.getfield 20, 3) := by decide +kernel
theorem dSe_firstCourse_32 : decode zbSe_firstCourse 32 = .ok (.iload 4, 2) := by decide +kernel
theorem dSe_firstCourse_34 : decode zbSe_firstCourse 34 = .ok (.iconst 1, 1) := by decide +kernel
theorem dSe_firstCourse_35 : decode zbSe_firstCourse 35 = .ok (.isub, 1) := by decide +kernel
theorem dSe_firstCourse_36 : decode zbSe_firstCourse 36 = .ok (.aaload, 1) := by decide +kernel
theorem dSe_firstCourse_37 : decode zbSe_firstCourse 37 = .ok (.astore 5, 2) := by decide +kernel
theorem dSe_firstCourse_39 : decode zbSe_firstCourse 39 = .ok (.iconst 0, 1) := by decide +kernel
theorem dSe_firstCourse_40 : decode zbSe_firstCourse 40 = .ok (.istore 6, 2) := by decide +kernel
theorem dSe_firstCourse_42 : decode zbSe_firstCourse 42 = .ok (.iload 6, 2) := by decide +kernel
theorem dSe_firstCourse_44 : decode zbSe_firstCourse 44 = .ok (.iconst 5, 1) := by decide +kernel
theorem dSe_firstCourse_45 : decode zbSe_firstCourse 45 = .ok (.if_icmp .ge 42, 3) := by decide +kernel
theorem dSe_firstCourse_48 : decode zbSe_firstCourse 48 = .ok (.aload_n 0, 1) := by decide +kernel
theorem dSe_firstCourse_49 : decode zbSe_firstCourse 49 = .ok (.aload_n 1, 1) := by decide +kernel
theorem dSe_firstCourse_50 : decode zbSe_firstCourse 50 = .ok (.aload_n 2, 1) := by decide +kernel
theorem dSe_firstCourse_51 : decode zbSe_firstCourse 51 = .ok (.aload 5, 2) := by decide +kernel
theorem dSe_firstCourse_53 : decode zbSe_firstCourse 53 = .ok (.iload_n 3, 1) := by decide +kernel
theorem dSe_firstCourse_54 : decode zbSe_firstCourse 54 = .ok (.iload 6, 2) := by decide +kernel
theorem dSe_firstCourse_56 : decode zbSe_firstCourse 56 = .ok (.invokevirtual 35, 3) := by decide +kernel
theorem dSe_firstCourse_59 : decode zbSe_firstCourse 59 = .ok (.ifCond .eq 22, 3) := by decide +kernel
theorem dSe_firstCourse_62 : decode zbSe_firstCourse 62 = .ok (.aload_n 0, 1) := by decide +kernel
theorem dSe_firstCourse_63 : decode zbSe_firstCourse 63 = .ok (.aload_n 1, 1) := by decide +kernel
theorem dSe_firstCourse_64 : decode zbSe_firstCourse 64 = .ok (.aload 5, 2) := by decide +kernel
theorem dSe_firstCourse_66 : decode zbSe_firstCourse 66 = .ok (.iload_n 3, 1) := by decide +kernel
theorem dSe_firstCourse_67 : decode zbSe_firstCourse 67 = .ok (.iload 4, 2) := by decide +kernel
theorem dSe_firstCourse_69 : decode zbSe_firstCourse 69 = .ok (.invokevirtual 31, 3) := by decide +kernel
theorem dSe_firstCourse_72 : decode zbSe_firstCourse 72 = .ok (.ifCond .eq 9, 3) := by decide +kernel
theorem dSe_firstCourse_75 : decode zbSe_firstCourse 75 = .ok (.bipush 10, 2) := by decide +kernel
theorem dSe_firstCourse_77 : decode zbSe_firstCourse 77 = .ok (.iload 6, 2) := by decide +kernel
theorem dSe_firstCourse_79 : decode zbSe_firstCourse 79 = .ok (.iadd, 1) := by decide +kernel
theorem dSe_firstCourse_80 : decode zbSe_firstCourse 80 = .ok (.ireturn, 1) := by decide +kernel
theorem dSe_firstCourse_81 : decode zbSe_firstCourse 81 = .ok (.iinc 6 1, 3) := by decide +kernel
theorem dSe_firstCourse_84 : decode zbSe_firstCourse 84 = .ok (.goto (-42), 3) := by decide +kernel
theorem dSe_firstCourse_87 : decode zbSe_firstCourse 87 = .ok (.aload_n 0, 1) := by decide +kernel
theorem dSe_firstCourse_88 : decode zbSe_firstCourse 88 = .ok (.getfield 24, 3) := by decide +kernel
theorem dSe_firstCourse_91 : decode zbSe_firstCourse 91 = .ok (.iload 4, 2) := by decide +kernel
theorem dSe_firstCourse_93 : decode zbSe_firstCourse 93 = .ok (.iconst 1, 1) := by decide +kernel
theorem dSe_firstCourse_94 : decode zbSe_firstCourse 94 = .ok (.isub, 1) := by decide +kernel
theorem dSe_firstCourse_95 : decode zbSe_firstCourse 95 = .ok (.aaload, 1) := by decide +kernel
theorem dSe_firstCourse_96 : decode zbSe_firstCourse 96 = .ok (.astore 6, 2) := by decide +kernel
theorem dSe_firstCourse_98 : decode zbSe_firstCourse 98 = .ok (.iconst 0, 1) := by decide +kernel
theorem dSe_firstCourse_99 : decode zbSe_firstCourse 99 = .ok (.istore 7, 2) := by decide +kernel
theorem dSe_firstCourse_101 : decode zbSe_firstCourse 101 = .ok (.iload 7, 2) := by decide +kernel
theorem dSe_firstCourse_103 : decode zbSe_firstCourse 103 = .ok (.iconst 5, 1) := by decide +kernel
theorem dSe_firstCourse_104 : decode zbSe_firstCourse 104 = .ok (.if_icmp .ge 81, 3) := by decide +kernel
theorem dSe_firstCourse_107 : decode zbSe_firstCourse 107 = .ok (.aload_n 0, 1) := by decide +kernel
theorem dSe_firstCourse_108 : decode zbSe_firstCourse 108 = .ok (.aload_n 1, 1) := by decide +kernel
theorem dSe_firstCourse_109 : decode zbSe_firstCourse 109 = .ok (.aload_n 2, 1) := by decide +kernel
theorem dSe_firstCourse_110 : decode zbSe_firstCourse 110 = .ok (.aload 5, 2) := by decide +kernel
theorem dSe_firstCourse_112 : decode zbSe_firstCourse 112 = .ok (.iload_n 3, 1) := by decide +kernel
theorem dSe_firstCourse_113 : decode zbSe_firstCourse 113 = .ok (.iload 7, 2) := by decide +kernel
theorem dSe_firstCourse_115 : decode zbSe_firstCourse 115 = .ok (.invokevirtual 35, 3) := by decide +kernel
theorem dSe_firstCourse_118 : decode zbSe_firstCourse 118 = .ok (.ifCond .ne 6, 3) := by decide +kernel
theorem dSe_firstCourse_121 : decode zbSe_firstCourse 121 = .ok (.goto 58, 3) := by decide +kernel
theorem dSe_firstCourse_124 : decode zbSe_firstCourse 124 = .ok (.iconst 0, 1) := by decide +kernel
theorem dSe_firstCourse_125 : decode zbSe_firstCourse 125 = .ok (.istore 8, 2) := by decide +kernel
theorem dSe_firstCourse_127 : decode zbSe_firstCourse 127 = .ok (.iload 8, 2) := by decide +kernel
theorem dSe_firstCourse_129 : decode zbSe_firstCourse 129 = .ok (.iconst 5, 1) := by decide +kernel
theorem dSe_firstCourse_130 : decode zbSe_firstCourse 130 = .ok (.if_icmp .ge 49, 3) := by decide +kernel
theorem dSe_firstCourse_133 : decode zbSe_firstCourse 133 = .ok (.aload_n 0, 1) := by decide +kernel
theorem dSe_firstCourse_134 : decode zbSe_firstCourse 134 = .ok (.aload_n 1, 1) := by decide +kernel
theorem dSe_firstCourse_135 : decode zbSe_firstCourse 135 = .ok (.aload 5, 2) := by decide +kernel
theorem dSe_firstCourse_137 : decode zbSe_firstCourse 137 = .ok (.aload 6, 2) := by decide +kernel
theorem dSe_firstCourse_139 : decode zbSe_firstCourse 139 = .ok (.iload_n 3, 1) := by decide +kernel
theorem dSe_firstCourse_140 : decode zbSe_firstCourse 140 = .ok (.iload 8, 2) := by decide +kernel
theorem dSe_firstCourse_142 : decode zbSe_firstCourse 142 = .ok (.invokevirtual 35, 3) := by decide +kernel
theorem dSe_firstCourse_145 : decode zbSe_firstCourse 145 = .ok (.ifCond .eq 28, 3) := by decide +kernel
theorem dSe_firstCourse_148 : decode zbSe_firstCourse 148 = .ok (.aload_n 0, 1) := by decide +kernel
theorem dSe_firstCourse_149 : decode zbSe_firstCourse 149 = .ok (.aload_n 1, 1) := by decide +kernel
theorem dSe_firstCourse_150 : decode zbSe_firstCourse 150 = .ok (.aload 6, 2) := by decide +kernel
end
section
theorem dSe_firstCourse_152 : decode zbSe_firstCourse 152 = .ok (.iload_n 3, 1) := by decide +kernel
theorem dSe_firstCourse_153 : decode zbSe_firstCourse 153 = .ok (.iload 4, 2) := by decide +kernel
theorem dSe_firstCourse_155 : decode zbSe_firstCourse 155 = .ok (.invokevirtual 31, 3) := by decide +kernel
theorem dSe_firstCourse_158 : decode zbSe_firstCourse 158 = .ok (.ifCond .eq 15, 3) := by decide +kernel
theorem dSe_firstCourse_161 : decode zbSe_firstCourse 161 = .ok (.bipush 100, 2) := by decide +kernel
theorem dSe_firstCourse_163 : decode zbSe_firstCourse 163 = .ok (.bipush 10, 2) := by decide +kernel
theorem dSe_firstCourse_165 : decode zbSe_firstCourse 165 = .ok (.iload 7, 2) := by decide +kernel
theorem dSe_firstCourse_167 : decode zbSe_firstCourse 167 = .ok (.imul, 1) := by decide +kernel
theorem dSe_firstCourse_168 : decode zbSe_firstCourse 168 = .ok (.iadd, 1) := by decide +kernel
theorem dSe_firstCourse_169 : decode zbSe_firstCourse 169 = .ok (.iload 8, 2) := by decide +kernel
theorem dSe_firstCourse_171 : decode zbSe_firstCourse 171 = .ok (.iadd, 1) := by decide +kernel
theorem dSe_firstCourse_172 : decode zbSe_firstCourse 172 = .ok (.ireturn, 1) := by decide +kernel
theorem dSe_firstCourse_173 : decode zbSe_firstCourse 173 = .ok (.iinc 8 1, 3) := by decide +kernel
theorem dSe_firstCourse_176 : decode zbSe_firstCourse 176 = .ok (.goto (-49), 3) := by decide +kernel
theorem dSe_firstCourse_179 : decode zbSe_firstCourse 179 = .ok (.iinc 7 1, 3) := by decide +kernel
theorem dSe_firstCourse_182 : decode zbSe_firstCourse 182 = .ok (.goto (-81), 3) := by decide +kernel
theorem dSe_firstCourse_185 : decode zbSe_firstCourse 185 = .ok (.iconst (-1), 1) := by decide +kernel
theorem dSe_firstCourse_186 : decode zbSe_firstCourse 186 = .ok (.ireturn, 1) := by decide +kernel
theorem dSe_isKeptByEndOfDay_0 : decode zbSe_isKeptByEndOfDay 0 = .ok (.aload_n 1, 1) := by decide +kernel
theorem dSe_isKeptByEndOfDay_1 : decode zbSe_isKeptByEndOfDay 1 = .ok (.aload_n 2, 1) := by decide +kernel
theorem dSe_isKeptByEndOfDay_2 : decode zbSe_isKeptByEndOfDay 2 = .ok (.iload_n 3, 1) := by decide +kernel
theorem dSe_isKeptByEndOfDay_3 : decode zbSe_isKeptByEndOfDay 3 = .ok (.invokevirtual 39, 3) := by decide +kernel
theorem dSe_isKeptByEndOfDay_6 : decode zbSe_isKeptByEndOfDay 6 = .ok (.ifCond .eq 5, 3) := by decide +kernel
theorem dSe_isKeptByEndOfDay_9 : decode zbSe_isKeptByEndOfDay 9 = .ok (.iconst 0, 1) := by decide +kernel
theorem dSe_isKeptByEndOfDay_10 : decode zbSe_isKeptByEndOfDay 10 = .ok (.ireturn, 1) := by decide +kernel
theorem dSe_isKeptByEndOfDay_11 : decode zbSe_isKeptByEndOfDay 11 = .ok (.aload_n 0, 1) := by decide +kernel
theorem dSe_isKeptByEndOfDay_12 : decode zbSe_isKeptByEndOfDay 12 = .ok (.getfield 27, 3) := by decide +kernel
theorem dSe_isKeptByEndOfDay_15 : decode zbSe_isKeptByEndOfDay 15 = .ok (.iload 4, 2) := by decide +kernel
theorem dSe_isKeptByEndOfDay_17 : decode zbSe_isKeptByEndOfDay 17 = .ok (.iconst 1, 1) := by decide +kernel
theorem dSe_isKeptByEndOfDay_18 : decode zbSe_isKeptByEndOfDay 18 = .ok (.isub, 1) := by decide +kernel
theorem dSe_isKeptByEndOfDay_19 : decode zbSe_isKeptByEndOfDay 19 = .ok (.aaload, 1) := by decide +kernel
theorem dSe_isKeptByEndOfDay_20 : decode zbSe_isKeptByEndOfDay 20 = .ok (.astore 5, 2) := by decide +kernel
theorem dSe_isKeptByEndOfDay_22 : decode zbSe_isKeptByEndOfDay 22 = .ok (.aload 5, 2) := by decide +kernel
theorem dSe_isKeptByEndOfDay_24 : decode zbSe_isKeptByEndOfDay 24 = .ok (.aload_n 2, 1) := by decide +kernel
theorem dSe_isKeptByEndOfDay_25 : decode zbSe_isKeptByEndOfDay 25 = .ok (.invokevirtual 45, 3) := by decide +kernel
theorem dSe_isKeptByEndOfDay_28 : decode zbSe_isKeptByEndOfDay 28 = .ok (.aload_n 0, 1) := by decide +kernel
theorem dSe_isKeptByEndOfDay_29 : decode zbSe_isKeptByEndOfDay 29 = .ok (.getfield 12, 3) := by decide +kernel
theorem dSe_isKeptByEndOfDay_32 : decode zbSe_isKeptByEndOfDay 32 = .ok (.aload_n 1, 1) := by decide +kernel
theorem dSe_isKeptByEndOfDay_33 : decode zbSe_isKeptByEndOfDay 33 = .ok (.aload 5, 2) := by decide +kernel
theorem dSe_isKeptByEndOfDay_35 : decode zbSe_isKeptByEndOfDay 35 = .ok (.invokevirtual 49, 3) := by decide +kernel
theorem dSe_isKeptByEndOfDay_38 : decode zbSe_isKeptByEndOfDay 38 = .ok (.bipush (-2), 2) := by decide +kernel
theorem dSe_isKeptByEndOfDay_40 : decode zbSe_isKeptByEndOfDay 40 = .ok (.if_icmp .ne 5, 3) := by decide +kernel
theorem dSe_isKeptByEndOfDay_43 : decode zbSe_isKeptByEndOfDay 43 = .ok (.iconst 0, 1) := by decide +kernel
theorem dSe_isKeptByEndOfDay_44 : decode zbSe_isKeptByEndOfDay 44 = .ok (.ireturn, 1) := by decide +kernel
theorem dSe_isKeptByEndOfDay_45 : decode zbSe_isKeptByEndOfDay 45 = .ok (.iload 4, 2) := by decide +kernel
theorem dSe_isKeptByEndOfDay_47 : decode zbSe_isKeptByEndOfDay 47 = .ok (.iconst 1, 1) := by decide +kernel
theorem dSe_isKeptByEndOfDay_48 : decode zbSe_isKeptByEndOfDay 48 = .ok (.if_icmp .eq 19, 3) := by decide +kernel
theorem dSe_isKeptByEndOfDay_51 : decode zbSe_isKeptByEndOfDay 51 = .ok (.aload_n 0, 1) := by decide +kernel
theorem dSe_isKeptByEndOfDay_52 : decode zbSe_isKeptByEndOfDay 52 = .ok (.aload_n 1, 1) := by decide +kernel
theorem dSe_isKeptByEndOfDay_53 : decode zbSe_isKeptByEndOfDay 53 = .ok (.aload 5, 2) := by decide +kernel
theorem dSe_isKeptByEndOfDay_55 : decode zbSe_isKeptByEndOfDay 55 = .ok (.iload_n 3, 1) := by decide +kernel
theorem dSe_isKeptByEndOfDay_56 : decode zbSe_isKeptByEndOfDay 56 = .ok (.iload 4, 2) := by decide +kernel
theorem dSe_isKeptByEndOfDay_58 : decode zbSe_isKeptByEndOfDay 58 = .ok (.iconst 1, 1) := by decide +kernel
theorem dSe_isKeptByEndOfDay_59 : decode zbSe_isKeptByEndOfDay 59 = .ok (.isub, 1) := by decide +kernel
theorem dSe_isKeptByEndOfDay_60 : decode zbSe_isKeptByEndOfDay 60 = .ok (.invokevirtual 53, 3) := by decide +kernel
theorem dSe_isKeptByEndOfDay_63 : decode zbSe_isKeptByEndOfDay 63 = .ok (.iconst (-1), 1) := by decide +kernel
theorem dSe_isKeptByEndOfDay_64 : decode zbSe_isKeptByEndOfDay 64 = .ok (.if_icmp .eq 7, 3) := by decide +kernel
theorem dSe_isKeptByEndOfDay_67 : decode zbSe_isKeptByEndOfDay 67 = .ok (.iconst 1, 1) := by decide +kernel
theorem dSe_isKeptByEndOfDay_68 : decode zbSe_isKeptByEndOfDay 68 = .ok (.goto 4, 3) := by decide +kernel
theorem dSe_isKeptByEndOfDay_71 : decode zbSe_isKeptByEndOfDay 71 = .ok (.iconst 0, 1) := by decide +kernel
theorem dSe_isKeptByEndOfDay_72 : decode zbSe_isKeptByEndOfDay 72 = .ok (.ireturn, 1) := by decide +kernel
theorem dSe_changes_0 : decode zbSe_changes 0 = .ok (.aload_n 1, 1) := by decide +kernel
theorem dSe_changes_1 : decode zbSe_changes 1 = .ok (.aload_n 2, 1) := by decide +kernel
theorem dSe_changes_2 : decode zbSe_changes 2 = .ok (.iload 4, 2) := by decide +kernel
theorem dSe_changes_4 : decode zbSe_changes 4 = .ok (.iload 5, 2) := by decide +kernel
theorem dSe_changes_6 : decode zbSe_changes 6 = .ok (.invokevirtual 57, 3) := by decide +kernel
theorem dSe_changes_9 : decode zbSe_changes 9 = .ok (.ifCond .ne 5, 3) := by decide +kernel
theorem dSe_changes_12 : decode zbSe_changes 12 = .ok (.iconst 0, 1) := by decide +kernel
theorem dSe_changes_13 : decode zbSe_changes 13 = .ok (.ireturn, 1) := by decide +kernel
theorem dSe_changes_14 : decode zbSe_changes 14 = .ok (.aload_n 3, 1) := by decide +kernel
theorem dSe_changes_15 : decode zbSe_changes 15 = .ok (.aload_n 2, 1) := by decide +kernel
theorem dSe_changes_16 : decode zbSe_changes 16 = .ok (.invokevirtual 45, 3) := by decide +kernel
theorem dSe_changes_19 : decode zbSe_changes 19 = .ok (.aload_n 0, 1) := by decide +kernel
theorem dSe_changes_20 : decode zbSe_changes 20 = .ok (.getfield 12, 3) := by decide +kernel
theorem dSe_changes_23 : decode zbSe_changes 23 = .ok (.aload_n 1, 1) := by decide +kernel
theorem dSe_changes_24 : decode zbSe_changes 24 = .ok (.aload_n 3, 1) := by decide +kernel
theorem dSe_changes_25 : decode zbSe_changes 25 = .ok (.iload 4, 2) := by decide +kernel
theorem dSe_changes_27 : decode zbSe_changes 27 = .ok (.iload 5, 2) := by decide +kernel
theorem dSe_changes_29 : decode zbSe_changes 29 = .ok (.invokevirtual 61, 3) := by decide +kernel
theorem dSe_changes_32 : decode zbSe_changes 32 = .ok (.ifCond .ne 7, 3) := by decide +kernel
theorem dSe_changes_35 : decode zbSe_changes 35 = .ok (.iconst 1, 1) := by decide +kernel
theorem dSe_changes_36 : decode zbSe_changes 36 = .ok (.goto 4, 3) := by decide +kernel
theorem dSe_changes_39 : decode zbSe_changes 39 = .ok (.iconst 0, 1) := by decide +kernel
theorem dSe_changes_40 : decode zbSe_changes 40 = .ok (.ireturn, 1) := by decide +kernel
theorem dSt_init_0 : decode zbSt_init 0 = .ok (.aload_n 0, 1) := by decide +kernel
theorem dSt_init_1 : decode zbSt_init 1 = .ok (.invokespecial 3, 3) := by decide +kernel
theorem dSt_init_4 : decode zbSt_init 4 = .ok (.aload_n 0, 1) := by decide +kernel
theorem dSt_init_5 : decode zbSt_init 5 = .ok (.iconst 0, 1) := by decide +kernel
theorem dSt_init_6 : decode zbSt_init 6 = .ok (.putfield 9, 3) := by decide +kernel
theorem dSt_init_9 : decode zbSt_init 9 = .ok (.aload_n 0, 1) := by decide +kernel
theorem dSt_init_10 : decode zbSt_init 10 = .ok (.new 15, 3) := by decide +kernel
theorem dSt_init_13 : decode zbSt_init 13 = .ok (.dup, 1) := by decide +kernel
theorem dSt_init_14 : decode zbSt_init 14 = .ok (.invokespecial 17, 3) := by decide +kernel
theorem dSt_init_17 : decode zbSt_init 17 = .ok (.putfield 18, 3) := by decide +kernel
theorem dSt_init_20 : decode zbSt_init 20 = .ok (.aload_n 0, 1) := by decide +kernel
theorem dSt_init_21 : decode zbSt_init 21 = .ok (.new 15, 3) := by decide +kernel
theorem dSt_init_24 : decode zbSt_init 24 = .ok (.dup, 1) := by decide +kernel
theorem dSt_init_25 : decode zbSt_init 25 = .ok (.invokespecial 17, 3) := by decide +kernel
theorem dSt_init_28 : decode zbSt_init 28 = .ok (.putfield 22, 3) := by decide +kernel
theorem dSt_init_31 : decode zbSt_init 31 = .ok (.aload_n 0, 1) := by decide +kernel
theorem dSt_init_32 : decode zbSt_init 32 = .ok (.new 15, 3) := by decide +kernel
theorem dSt_init_35 : decode zbSt_init 35 = .ok (.dup, 1) := by decide +kernel
theorem dSt_init_36 : decode zbSt_init 36 = .ok (.invokespecial 17, 3) := by decide +kernel
theorem dSt_init_39 : decode zbSt_init 39 = .ok (.putfield 25, 3) := by decide +kernel
theorem dSt_init_42 : decode zbSt_init 42 = .ok (.aload_n 0, 1) := by decide +kernel
theorem dSt_init_43 : decode zbSt_init 43 = .ok (.bipush 9, 2) := by decide +kernel
theorem dSt_init_45 : decode zbSt_init 45 = .ok (.newarray .int, 2) := by decide +kernel
theorem dSt_init_47 : decode zbSt_init 47 = .ok (.putfield 28, 3) := by decide +kernel
theorem dSt_init_50 : decode zbSt_init 50 = .ok (.aload_n 0, 1) := by decide +kernel
theorem dSt_init_51 : decode zbSt_init 51 = .ok (.bipush 10, 2) := by decide +kernel
theorem dSt_init_53 : decode zbSt_init 53 = .ok (.newarray .int, 2) := by decide +kernel
theorem dSt_init_55 : decode zbSt_init 55 = .ok (.putfield 32, 3) := by decide +kernel
theorem dSt_init_58 : decode zbSt_init 58 = .ok (.return_, 1) := by decide +kernel
theorem dSt_debtOf_0 : decode zbSt_debtOf 0 = .ok (.aload_n 0, 1) := by decide +kernel
theorem dSt_debtOf_1 : decode zbSt_debtOf 1 = .ok (.getfield 28, 3) := by decide +kernel
theorem dSt_debtOf_4 : decode zbSt_debtOf 4 = .ok (.iconst 3, 1) := by decide +kernel
theorem dSt_debtOf_5 : decode zbSt_debtOf 5 = .ok (.iload_n 1, 1) := by decide +kernel
theorem dSt_debtOf_6 : decode zbSt_debtOf 6 = .ok (.imul, 1) := by decide +kernel
theorem dSt_debtOf_7 : decode zbSt_debtOf 7 = .ok (.iload_n 2, 1) := by decide +kernel
theorem dSt_debtOf_8 : decode zbSt_debtOf 8 = .ok (.iadd, 1) := by decide +kernel
theorem dSt_debtOf_9 : decode zbSt_debtOf 9 = .ok (.iaload, 1) := by decide +kernel
theorem dSt_debtOf_10 : decode zbSt_debtOf 10 = .ok (.ireturn, 1) := by decide +kernel
theorem dSt_addDebt_0 : decode zbSt_addDebt 0 = .ok (.iconst 3, 1) := by decide +kernel
theorem dSt_addDebt_1 : decode zbSt_addDebt 1 = .ok (.iload_n 1, 1) := by decide +kernel
theorem dSt_addDebt_2 : decode zbSt_addDebt 2 = .ok (.imul, 1) := by decide +kernel
theorem dSt_addDebt_3 : decode zbSt_addDebt 3 = .ok (.iload_n 2, 1) := by decide +kernel
theorem dSt_addDebt_4 : decode zbSt_addDebt 4 = .ok (.iadd, 1) := by decide +kernel
theorem dSt_addDebt_5 : decode zbSt_addDebt 5 = .ok (.istore 4, 2) := by decide +kernel
theorem dSt_addDebt_7 : decode zbSt_addDebt 7 = .ok (.aload_n 0, 1) := by decide +kernel
theorem dSt_addDebt_8 : decode zbSt_addDebt 8 = .ok (.getfield 28, 3) := by decide +kernel
theorem dSt_addDebt_11 : decode zbSt_addDebt 11 = .ok (.iload 4, 2) := by decide +kernel
theorem dSt_addDebt_13 : decode zbSt_addDebt 13 = .ok (.iaload, 1) := by decide +kernel
theorem dSt_addDebt_14 : decode zbSt_addDebt 14 = .ok (.iload_n 3, 1) := by decide +kernel
theorem dSt_addDebt_15 : decode zbSt_addDebt 15 = .ok (.iadd, 1) := by decide +kernel
theorem dSt_addDebt_16 : decode zbSt_addDebt 16 = .ok (.sipush 999, 3) := by decide +kernel
theorem dSt_addDebt_19 : decode zbSt_addDebt 19 = .ok (.if_icmp .le 5, 3) := by decide +kernel
theorem dSt_addDebt_22 : decode zbSt_addDebt 22 = .ok (.iconst 0, 1) := by decide +kernel
theorem dSt_addDebt_23 : decode zbSt_addDebt 23 = .ok (.ireturn, 1) := by decide +kernel
theorem dSt_addDebt_24 : decode zbSt_addDebt 24 = .ok (.aload_n 0, 1) := by decide +kernel
theorem dSt_addDebt_25 : decode zbSt_addDebt 25 = .ok (.getfield 28, 3) := by decide +kernel
theorem dSt_addDebt_28 : decode zbSt_addDebt 28 = .ok (.iload 4, 2) := by decide +kernel
theorem dSt_addDebt_30 : decode zbSt_addDebt 30 = .ok (.dup2, 1) := by decide +kernel
theorem dSt_addDebt_31 : decode zbSt_addDebt 31 = .ok (.iaload, 1) := by decide +kernel
theorem dSt_addDebt_32 : decode zbSt_addDebt 32 = .ok (.iload_n 3, 1) := by decide +kernel
theorem dSt_addDebt_33 : decode zbSt_addDebt 33 = .ok (.iadd, 1) := by decide +kernel
theorem dSt_addDebt_34 : decode zbSt_addDebt 34 = .ok (.iastore, 1) := by decide +kernel
theorem dSt_addDebt_35 : decode zbSt_addDebt 35 = .ok (.iconst 1, 1) := by decide +kernel
theorem dSt_addDebt_36 : decode zbSt_addDebt 36 = .ok (.ireturn, 1) := by decide +kernel
theorem dSt_clear_0 : decode zbSt_clear 0 = .ok (.aload_n 0, 1) := by decide +kernel
theorem dSt_clear_1 : decode zbSt_clear 1 = .ok (.iconst 0, 1) := by decide +kernel
theorem dSt_clear_2 : decode zbSt_clear 2 = .ok (.putfield 9, 3) := by decide +kernel
theorem dSt_clear_5 : decode zbSt_clear 5 = .ok (.aload_n 0, 1) := by decide +kernel
theorem dSt_clear_6 : decode zbSt_clear 6 = .ok (.getfield 18, 3) := by decide +kernel
theorem dSt_clear_9 : decode zbSt_clear 9 = .ok (.iconst 0, 1) := by decide +kernel
theorem dSt_clear_10 : decode zbSt_clear 10 = .ok (.putfield 35, 3) := by decide +kernel
theorem dSt_clear_13 : decode zbSt_clear 13 = .ok (.aload_n 0, 1) := by decide +kernel
theorem dSt_clear_14 : decode zbSt_clear 14 = .ok (.getfield 22, 3) := by decide +kernel
theorem dSt_clear_17 : decode zbSt_clear 17 = .ok (.iconst 0, 1) := by decide +kernel
theorem dSt_clear_18 : decode zbSt_clear 18 = .ok (.putfield 35, 3) := by decide +kernel
theorem dSt_clear_21 : decode zbSt_clear 21 = .ok (.aload_n 0, 1) := by decide +kernel
theorem dSt_clear_22 : decode zbSt_clear 22 = .ok (.getfield 25, 3) := by decide +kernel
theorem dSt_clear_25 : decode zbSt_clear 25 = .ok (.iconst 0, 1) := by decide +kernel
theorem dSt_clear_26 : decode zbSt_clear 26 = .ok (.putfield 35, 3) := by decide +kernel
theorem dSt_clear_29 : decode zbSt_clear 29 = .ok (.iconst 0, 1) := by decide +kernel
theorem dSt_clear_30 : decode zbSt_clear 30 = .ok (.istore_n 1, 1) := by decide +kernel
theorem dSt_clear_31 : decode zbSt_clear 31 = .ok (.iload_n 1, 1) := by decide +kernel
theorem dSt_clear_32 : decode zbSt_clear 32 = .ok (.aload_n 0, 1) := by decide +kernel
theorem dSt_clear_33 : decode zbSt_clear 33 = .ok (.getfield 28, 3) := by decide +kernel
theorem dSt_clear_36 : decode zbSt_clear 36 = .ok (.arraylength, 1) := by decide +kernel
theorem dSt_clear_37 : decode zbSt_clear 37 = .ok (.if_icmp .ge 16, 3) := by decide +kernel
theorem dSt_clear_40 : decode zbSt_clear 40 = .ok (.aload_n 0, 1) := by decide +kernel
theorem dSt_clear_41 : decode zbSt_clear 41 = .ok (.getfield 28, 3) := by decide +kernel
theorem dSt_clear_44 : decode zbSt_clear 44 = .ok (.iload_n 1, 1) := by decide +kernel
theorem dSt_clear_45 : decode zbSt_clear 45 = .ok (.iconst 0, 1) := by decide +kernel
theorem dSt_clear_46 : decode zbSt_clear 46 = .ok (.iastore, 1) := by decide +kernel
theorem dSt_clear_47 : decode zbSt_clear 47 = .ok (.iinc 1 1, 3) := by decide +kernel
theorem dSt_clear_50 : decode zbSt_clear 50 = .ok (.goto (-19), 3) := by decide +kernel
theorem dSt_clear_53 : decode zbSt_clear 53 = .ok (.iconst 0, 1) := by decide +kernel
theorem dSt_clear_54 : decode zbSt_clear 54 = .ok (.istore_n 1, 1) := by decide +kernel
theorem dSt_clear_55 : decode zbSt_clear 55 = .ok (.iload_n 1, 1) := by decide +kernel
theorem dSt_clear_56 : decode zbSt_clear 56 = .ok (.aload_n 0, 1) := by decide +kernel
theorem dSt_clear_57 : decode zbSt_clear 57 = .ok (.getfield 32, 3) := by decide +kernel
theorem dSt_clear_60 : decode zbSt_clear 60 = .ok (.arraylength, 1) := by decide +kernel
theorem dSt_clear_61 : decode zbSt_clear 61 = .ok (.if_icmp .ge 16, 3) := by decide +kernel
theorem dSt_clear_64 : decode zbSt_clear 64 = .ok (.aload_n 0, 1) := by decide +kernel
theorem dSt_clear_65 : decode zbSt_clear 65 = .ok (.getfield 32, 3) := by decide +kernel
theorem dSt_clear_68 : decode zbSt_clear 68 = .ok (.iload_n 1, 1) := by decide +kernel
theorem dSt_clear_69 : decode zbSt_clear 69 = .ok (.iconst 0, 1) := by decide +kernel
theorem dSt_clear_70 : decode zbSt_clear 70 = .ok (.iastore, 1) := by decide +kernel
theorem dSt_clear_71 : decode zbSt_clear 71 = .ok (.iinc 1 1, 3) := by decide +kernel
theorem dSt_clear_74 : decode zbSt_clear 74 = .ok (.goto (-19), 3) := by decide +kernel
theorem dSt_clear_77 : decode zbSt_clear 77 = .ok (.return_, 1) := by decide +kernel
theorem dSt_copyFrom_0 : decode zbSt_copyFrom 0 = .ok (.aload_n 0, 1) := by decide +kernel
theorem dSt_copyFrom_1 : decode zbSt_copyFrom 1 = .ok (.aload_n 1, 1) := by decide +kernel
theorem dSt_copyFrom_2 : decode zbSt_copyFrom 2 = .ok (.getfield 9, 3) := by decide +kernel
theorem dSt_copyFrom_5 : decode zbSt_copyFrom 5 = .ok (.putfield 9, 3) := by decide +kernel
theorem dSt_copyFrom_8 : decode zbSt_copyFrom 8 = .ok (.aload_n 0, 1) := by decide +kernel
theorem dSt_copyFrom_9 : decode zbSt_copyFrom 9 = .ok (.getfield 18, 3) := by decide +kernel
theorem dSt_copyFrom_12 : decode zbSt_copyFrom 12 = .ok (.aload_n 1, 1) := by decide +kernel
theorem dSt_copyFrom_13 : decode zbSt_copyFrom 13 = .ok (.getfield 18, 3) := by decide +kernel
theorem dSt_copyFrom_16 : decode zbSt_copyFrom 16 = .ok (.invokevirtual 38, 3) := by decide +kernel
theorem dSt_copyFrom_19 : decode zbSt_copyFrom 19 = .ok (.aload_n 0, 1) := by decide +kernel
theorem dSt_copyFrom_20 : decode zbSt_copyFrom 20 = .ok (.getfield 22, 3) := by decide +kernel
theorem dSt_copyFrom_23 : decode zbSt_copyFrom 23 = .ok (.aload_n 1, 1) := by decide +kernel
theorem dSt_copyFrom_24 : decode zbSt_copyFrom 24 = .ok (.getfield 22, 3) := by decide +kernel
theorem dSt_copyFrom_27 : decode zbSt_copyFrom 27 = .ok (.invokevirtual 38, 3) := by decide +kernel
theorem dSt_copyFrom_30 : decode zbSt_copyFrom 30 = .ok (.aload_n 0, 1) := by decide +kernel
theorem dSt_copyFrom_31 : decode zbSt_copyFrom 31 = .ok (.getfield 25, 3) := by decide +kernel
theorem dSt_copyFrom_34 : decode zbSt_copyFrom 34 = .ok (.aload_n 1, 1) := by decide +kernel
theorem dSt_copyFrom_35 : decode zbSt_copyFrom 35 = .ok (.getfield 25, 3) := by decide +kernel
theorem dSt_copyFrom_38 : decode zbSt_copyFrom 38 = .ok (.invokevirtual 38, 3) := by decide +kernel
theorem dSt_copyFrom_41 : decode zbSt_copyFrom 41 = .ok (.aload_n 1, 1) := by decide +kernel
theorem dSt_copyFrom_42 : decode zbSt_copyFrom 42 = .ok (.getfield 28, 3) := by decide +kernel
theorem dSt_copyFrom_45 : decode zbSt_copyFrom 45 = .ok (.iconst 0, 1) := by decide +kernel
theorem dSt_copyFrom_46 : decode zbSt_copyFrom 46 = .ok (.aload_n 0, 1) := by decide +kernel
theorem dSt_copyFrom_47 : decode zbSt_copyFrom 47 = .ok (.getfield 28, 3) := by decide +kernel
theorem dSt_copyFrom_50 : decode zbSt_copyFrom 50 = .ok (.iconst 0, 1) := by decide +kernel
theorem dSt_copyFrom_51 : decode zbSt_copyFrom 51 = .ok (.aload_n 0, 1) := by decide +kernel
theorem dSt_copyFrom_52 : decode zbSt_copyFrom 52 = .ok (.getfield 28, 3) := by decide +kernel
theorem dSt_copyFrom_55 : decode zbSt_copyFrom 55 = .ok (.arraylength, 1) := by decide +kernel
theorem dSt_copyFrom_56 : decode zbSt_copyFrom 56 = .ok (.invokestatic 42, 3) := by decide +kernel
theorem dSt_copyFrom_59 : decode zbSt_copyFrom 59 = .ok (.aload_n 1, 1) := by decide +kernel
theorem dSt_copyFrom_60 : decode zbSt_copyFrom 60 = .ok (.getfield 32, 3) := by decide +kernel
theorem dSt_copyFrom_63 : decode zbSt_copyFrom 63 = .ok (.iconst 0, 1) := by decide +kernel
theorem dSt_copyFrom_64 : decode zbSt_copyFrom 64 = .ok (.aload_n 0, 1) := by decide +kernel
theorem dSt_copyFrom_65 : decode zbSt_copyFrom 65 = .ok (.getfield 32, 3) := by decide +kernel
theorem dSt_copyFrom_68 : decode zbSt_copyFrom 68 = .ok (.iconst 0, 1) := by decide +kernel
theorem dSt_copyFrom_69 : decode zbSt_copyFrom 69 = .ok (.aload_n 0, 1) := by decide +kernel
theorem dSt_copyFrom_70 : decode zbSt_copyFrom 70 = .ok (.getfield 32, 3) := by decide +kernel
theorem dSt_copyFrom_73 : decode zbSt_copyFrom 73 = .ok (.arraylength, 1) := by decide +kernel
theorem dSt_copyFrom_74 : decode zbSt_copyFrom 74 = .ok (.invokestatic 42, 3) := by decide +kernel
theorem dSt_copyFrom_77 : decode zbSt_copyFrom 77 = .ok (.return_, 1) := by decide +kernel
theorem dTe_init_0 : decode zbTe_init 0 = .ok (.aload_n 0, 1) := by decide +kernel
theorem dTe_init_1 : decode zbTe_init 1 = .ok (.invokespecial 3, 3) := by decide +kernel
theorem dTe_init_4 : decode zbTe_init 4 = .ok (.aload_n 0, 1) := by decide +kernel
theorem dTe_init_5 : decode zbTe_init 5 = .ok (.bipush 8, 2) := by decide +kernel
theorem dTe_init_7 : decode zbTe_init 7 = .ok (.newarray .int, 2) := by decide +kernel
theorem dTe_init_9 : decode zbTe_init 9 = .ok (.putfield 9, 3) := by decide +kernel
theorem dTe_init_12 : decode zbTe_init 12 = .ok (.aload_n 0, 1) := by decide +kernel
theorem dTe_init_13 : decode zbTe_init 13 = .ok (.iconst 0, 1) := by decide +kernel
theorem dTe_init_14 : decode zbTe_init 14 = .ok (.putfield 15, 3) := by decide +kernel
theorem dTe_init_17 : decode zbTe_init 17 = .ok (.return_, 1) := by decide +kernel
theorem dTe_clauseAt_0 : decode zbTe_clauseAt 0 = .ok (.aload_n 0, 1) := by decide +kernel
theorem dTe_clauseAt_1 : decode zbTe_clauseAt 1 = .ok (.getfield 9, 3) := by decide +kernel
theorem dTe_clauseAt_4 : decode zbTe_clauseAt 4 = .ok (.iload_n 1, 1) := by decide +kernel
theorem dTe_clauseAt_5 : decode zbTe_clauseAt 5 = .ok (.iaload, 1) := by decide +kernel
theorem dTe_clauseAt_6 : decode zbTe_clauseAt 6 = .ok (.bipush 100, 2) := by decide +kernel
theorem dTe_clauseAt_8 : decode zbTe_clauseAt 8 = .ok (.irem, 1) := by decide +kernel
theorem dTe_clauseAt_9 : decode zbTe_clauseAt 9 = .ok (.ireturn, 1) := by decide +kernel
theorem dTe_dayAt_0 : decode zbTe_dayAt 0 = .ok (.aload_n 0, 1) := by decide +kernel
theorem dTe_dayAt_1 : decode zbTe_dayAt 1 = .ok (.getfield 9, 3) := by decide +kernel
theorem dTe_dayAt_4 : decode zbTe_dayAt 4 = .ok (.iload_n 1, 1) := by decide +kernel
theorem dTe_dayAt_5 : decode zbTe_dayAt 5 = .ok (.iaload, 1) := by decide +kernel
theorem dTe_dayAt_6 : decode zbTe_dayAt 6 = .ok (.bipush 100, 2) := by decide +kernel
theorem dTe_dayAt_8 : decode zbTe_dayAt 8 = .ok (.idiv, 1) := by decide +kernel
theorem dTe_dayAt_9 : decode zbTe_dayAt 9 = .ok (.ireturn, 1) := by decide +kernel
theorem dTe_add_0 : decode zbTe_add 0 = .ok (.aload_n 0, 1) := by decide +kernel
theorem dTe_add_1 : decode zbTe_add 1 = .ok (.getfield 15, 3) := by decide +kernel
theorem dTe_add_4 : decode zbTe_add 4 = .ok (.bipush 8, 2) := by decide +kernel
theorem dTe_add_6 : decode zbTe_add 6 = .ok (.if_icmp .lt 5, 3) := by decide +kernel
theorem dTe_add_9 : decode zbTe_add 9 = .ok (.iconst 0, 1) := by decide +kernel
theorem dTe_add_10 : decode zbTe_add 10 = .ok (.ireturn, 1) := by decide +kernel
theorem dTe_add_11 : decode zbTe_add 11 = .ok (.bipush 100, 2) := by decide +kernel
theorem dTe_add_13 : decode zbTe_add 13 = .ok (.iload_n 2, 1) := by decide +kernel
theorem dTe_add_14 : decode zbTe_add 14 = .ok (.imul, 1) := by decide +kernel
theorem dTe_add_15 : decode zbTe_add 15 = .ok (.iload_n 1, 1) := by decide +kernel
theorem dTe_add_16 : decode zbTe_add 16 = .ok (.iadd, 1) := by decide +kernel
theorem dTe_add_17 : decode zbTe_add 17 = .ok (.istore_n 3, 1) := by decide +kernel
theorem dTe_add_18 : decode zbTe_add 18 = .ok (.aload_n 0, 1) := by decide +kernel
theorem dTe_add_19 : decode zbTe_add 19 = .ok (.getfield 15, 3) := by decide +kernel
theorem dTe_add_22 : decode zbTe_add 22 = .ok (.istore 4, 2) := by decide +kernel
theorem dTe_add_24 : decode zbTe_add 24 = .ok (.iload 4, 2) := by decide +kernel
theorem dTe_add_26 : decode zbTe_add 26 = .ok (.ifCond .le 38, 3) := by decide +kernel
theorem dTe_add_29 : decode zbTe_add 29 = .ok (.aload_n 0, 1) := by decide +kernel
theorem dTe_add_30 : decode zbTe_add 30 = .ok (.getfield 9, 3) := by decide +kernel
theorem dTe_add_33 : decode zbTe_add 33 = .ok (.iload 4, 2) := by decide +kernel
theorem dTe_add_35 : decode zbTe_add 35 = .ok (.iconst 1, 1) := by decide +kernel
theorem dTe_add_36 : decode zbTe_add 36 = .ok (.isub, 1) := by decide +kernel
theorem dTe_add_37 : decode zbTe_add 37 = .ok (.iaload, 1) := by decide +kernel
theorem dTe_add_38 : decode zbTe_add 38 = .ok (.iload_n 3, 1) := by decide +kernel
theorem dTe_add_39 : decode zbTe_add 39 = .ok (.if_icmp .le 25, 3) := by decide +kernel
theorem dTe_add_42 : decode zbTe_add 42 = .ok (.aload_n 0, 1) := by decide +kernel
theorem dTe_add_43 : decode zbTe_add 43 = .ok (.getfield 9, 3) := by decide +kernel
theorem dTe_add_46 : decode zbTe_add 46 = .ok (.iload 4, 2) := by decide +kernel
theorem dTe_add_48 : decode zbTe_add 48 = .ok (.aload_n 0, 1) := by decide +kernel
theorem dTe_add_49 : decode zbTe_add 49 = .ok (.getfield 9, 3) := by decide +kernel
theorem dTe_add_52 : decode zbTe_add 52 = .ok (.iload 4, 2) := by decide +kernel
theorem dTe_add_54 : decode zbTe_add 54 = .ok (.iconst 1, 1) := by decide +kernel
theorem dTe_add_55 : decode zbTe_add 55 = .ok (.isub, 1) := by decide +kernel
theorem dTe_add_56 : decode zbTe_add 56 = .ok (.iaload, 1) := by decide +kernel
theorem dTe_add_57 : decode zbTe_add 57 = .ok (.iastore, 1) := by decide +kernel
theorem dTe_add_58 : decode zbTe_add 58 = .ok (.iinc 4 (-1), 3) := by decide +kernel
theorem dTe_add_61 : decode zbTe_add 61 = .ok (.goto (-37), 3) := by decide +kernel
theorem dTe_add_64 : decode zbTe_add 64 = .ok (.aload_n 0, 1) := by decide +kernel
theorem dTe_add_65 : decode zbTe_add 65 = .ok (.getfield 9, 3) := by decide +kernel
theorem dTe_add_68 : decode zbTe_add 68 = .ok (.iload 4, 2) := by decide +kernel
theorem dTe_add_70 : decode zbTe_add 70 = .ok (.iload_n 3, 1) := by decide +kernel
theorem dTe_add_71 : decode zbTe_add 71 = .ok (.iastore, 1) := by decide +kernel
theorem dTe_add_72 : decode zbTe_add 72 = .ok (.aload_n 0, 1) := by decide +kernel
theorem dTe_add_73 : decode zbTe_add 73 = .ok (.dup, 1) := by decide +kernel
theorem dTe_add_74 : decode zbTe_add 74 = .ok (.getfield 15, 3) := by decide +kernel
theorem dTe_add_77 : decode zbTe_add 77 = .ok (.iconst 1, 1) := by decide +kernel
theorem dTe_add_78 : decode zbTe_add 78 = .ok (.iadd, 1) := by decide +kernel
theorem dTe_add_79 : decode zbTe_add 79 = .ok (.putfield 15, 3) := by decide +kernel
theorem dTe_add_82 : decode zbTe_add 82 = .ok (.iconst 1, 1) := by decide +kernel
theorem dTe_add_83 : decode zbTe_add 83 = .ok (.ireturn, 1) := by decide +kernel
theorem dTe_remove_0 : decode zbTe_remove 0 = .ok (.iload_n 1, 1) := by decide +kernel
theorem dTe_remove_1 : decode zbTe_remove 1 = .ok (.istore_n 3, 1) := by decide +kernel
theorem dTe_remove_2 : decode zbTe_remove 2 = .ok (.iload_n 3, 1) := by decide +kernel
theorem dTe_remove_3 : decode zbTe_remove 3 = .ok (.iload_n 2, 1) := by decide +kernel
theorem dTe_remove_4 : decode zbTe_remove 4 = .ok (.iadd, 1) := by decide +kernel
theorem dTe_remove_5 : decode zbTe_remove 5 = .ok (.aload_n 0, 1) := by decide +kernel
theorem dTe_remove_6 : decode zbTe_remove 6 = .ok (.getfield 15, 3) := by decide +kernel
theorem dTe_remove_9 : decode zbTe_remove 9 = .ok (.if_icmp .ge 23, 3) := by decide +kernel
theorem dTe_remove_12 : decode zbTe_remove 12 = .ok (.aload_n 0, 1) := by decide +kernel
theorem dTe_remove_13 : decode zbTe_remove 13 = .ok (.getfield 9, 3) := by decide +kernel
theorem dTe_remove_16 : decode zbTe_remove 16 = .ok (.iload_n 3, 1) := by decide +kernel
theorem dTe_remove_17 : decode zbTe_remove 17 = .ok (.aload_n 0, 1) := by decide +kernel
theorem dTe_remove_18 : decode zbTe_remove 18 = .ok (.getfield 9, 3) := by decide +kernel
theorem dTe_remove_21 : decode zbTe_remove 21 = .ok (.iload_n 3, 1) := by decide +kernel
theorem dTe_remove_22 : decode zbTe_remove 22 = .ok (.iload_n 2, 1) := by decide +kernel
theorem dTe_remove_23 : decode zbTe_remove 23 = .ok (.iadd, 1) := by decide +kernel
theorem dTe_remove_24 : decode zbTe_remove 24 = .ok (.iaload, 1) := by decide +kernel
theorem dTe_remove_25 : decode zbTe_remove 25 = .ok (.iastore, 1) := by decide +kernel
theorem dTe_remove_26 : decode zbTe_remove 26 = .ok (.iinc 3 1, 3) := by decide +kernel
theorem dTe_remove_29 : decode zbTe_remove 29 = .ok (.goto (-27), 3) := by decide +kernel
theorem dTe_remove_32 : decode zbTe_remove 32 = .ok (.aload_n 0, 1) := by decide +kernel
theorem dTe_remove_33 : decode zbTe_remove 33 = .ok (.dup, 1) := by decide +kernel
theorem dTe_remove_34 : decode zbTe_remove 34 = .ok (.getfield 15, 3) := by decide +kernel
theorem dTe_remove_37 : decode zbTe_remove 37 = .ok (.iload_n 2, 1) := by decide +kernel
theorem dTe_remove_38 : decode zbTe_remove 38 = .ok (.isub, 1) := by decide +kernel
theorem dTe_remove_39 : decode zbTe_remove 39 = .ok (.putfield 15, 3) := by decide +kernel
theorem dTe_remove_42 : decode zbTe_remove 42 = .ok (.return_, 1) := by decide +kernel
theorem dTe_dropBefore_0 : decode zbTe_dropBefore 0 = .ok (.iconst 0, 1) := by decide +kernel
theorem dTe_dropBefore_1 : decode zbTe_dropBefore 1 = .ok (.istore_n 2, 1) := by decide +kernel
theorem dTe_dropBefore_2 : decode zbTe_dropBefore 2 = .ok (.iload_n 2, 1) := by decide +kernel
theorem dTe_dropBefore_3 : decode zbTe_dropBefore 3 = .ok (.aload_n 0, 1) := by decide +kernel
theorem dTe_dropBefore_4 : decode zbTe_dropBefore 4 = .ok (.getfield 15, 3) := by decide +kernel
theorem dTe_dropBefore_7 : decode zbTe_dropBefore 7 = .ok (.if_icmp .ge 18, 3) := by decide +kernel
theorem dTe_dropBefore_10 : decode zbTe_dropBefore 10 = .ok (.aload_n 0, 1) := by decide +kernel
theorem dTe_dropBefore_11 : decode zbTe_dropBefore 11 = .ok (.iload_n 2, 1) := by decide +kernel
theorem dTe_dropBefore_12 : decode zbTe_dropBefore 12 = .ok (.invokevirtual 19, 3) := by decide +kernel
theorem dTe_dropBefore_15 : decode zbTe_dropBefore 15 = .ok (.iload_n 1, 1) := by decide +kernel
theorem dTe_dropBefore_16 : decode zbTe_dropBefore 16 = .ok (.if_icmp .ge 9, 3) := by decide +kernel
theorem dTe_dropBefore_19 : decode zbTe_dropBefore 19 = .ok (.iinc 2 1, 3) := by decide +kernel
theorem dTe_dropBefore_22 : decode zbTe_dropBefore 22 = .ok (.goto (-20), 3) := by decide +kernel
theorem dTe_dropBefore_25 : decode zbTe_dropBefore 25 = .ok (.aload_n 0, 1) := by decide +kernel
theorem dTe_dropBefore_26 : decode zbTe_dropBefore 26 = .ok (.iconst 0, 1) := by decide +kernel
theorem dTe_dropBefore_27 : decode zbTe_dropBefore 27 = .ok (.iload_n 2, 1) := by decide +kernel
theorem dTe_dropBefore_28 : decode zbTe_dropBefore 28 = .ok (.invokevirtual 23, 3) := by decide +kernel
theorem dTe_dropBefore_31 : decode zbTe_dropBefore 31 = .ok (.return_, 1) := by decide +kernel
theorem dTe_countUntil_0 : decode zbTe_countUntil 0 = .ok (.iconst 0, 1) := by decide +kernel
theorem dTe_countUntil_1 : decode zbTe_countUntil 1 = .ok (.istore_n 3, 1) := by decide +kernel
theorem dTe_countUntil_2 : decode zbTe_countUntil 2 = .ok (.iconst 0, 1) := by decide +kernel
theorem dTe_countUntil_3 : decode zbTe_countUntil 3 = .ok (.istore 4, 2) := by decide +kernel
theorem dTe_countUntil_5 : decode zbTe_countUntil 5 = .ok (.iload 4, 2) := by decide +kernel
theorem dTe_countUntil_7 : decode zbTe_countUntil 7 = .ok (.aload_n 0, 1) := by decide +kernel
theorem dTe_countUntil_8 : decode zbTe_countUntil 8 = .ok (.getfield 15, 3) := by decide +kernel
theorem dTe_countUntil_11 : decode zbTe_countUntil 11 = .ok (.if_icmp .ge 32, 3) := by decide +kernel
theorem dTe_countUntil_14 : decode zbTe_countUntil 14 = .ok (.aload_n 0, 1) := by decide +kernel
theorem dTe_countUntil_15 : decode zbTe_countUntil 15 = .ok (.iload 4, 2) := by decide +kernel
theorem dTe_countUntil_17 : decode zbTe_countUntil 17 = .ok (.invokevirtual 27, 3) := by decide +kernel
theorem dTe_countUntil_20 : decode zbTe_countUntil 20 = .ok (.iload_n 1, 1) := by decide +kernel
theorem dTe_countUntil_21 : decode zbTe_countUntil 21 = .ok (.if_icmp .ne 16, 3) := by decide +kernel
theorem dTe_countUntil_24 : decode zbTe_countUntil 24 = .ok (.aload_n 0, 1) := by decide +kernel
theorem dTe_countUntil_25 : decode zbTe_countUntil 25 = .ok (.iload 4, 2) := by decide +kernel
theorem dTe_countUntil_27 : decode zbTe_countUntil 27 = .ok (.invokevirtual 19, 3) := by decide +kernel
theorem dTe_countUntil_30 : decode zbTe_countUntil 30 = .ok (.iload_n 2, 1) := by decide +kernel
theorem dTe_countUntil_31 : decode zbTe_countUntil 31 = .ok (.if_icmp .gt 6, 3) := by decide +kernel
theorem dTe_countUntil_34 : decode zbTe_countUntil 34 = .ok (.iinc 3 1, 3) := by decide +kernel
theorem dTe_countUntil_37 : decode zbTe_countUntil 37 = .ok (.iinc 4 1, 3) := by decide +kernel
theorem dTe_countUntil_40 : decode zbTe_countUntil 40 = .ok (.goto (-35), 3) := by decide +kernel
theorem dTe_countUntil_43 : decode zbTe_countUntil 43 = .ok (.iload_n 3, 1) := by decide +kernel
theorem dTe_countUntil_44 : decode zbTe_countUntil 44 = .ok (.ireturn, 1) := by decide +kernel
theorem dTe_copyFrom_0 : decode zbTe_copyFrom 0 = .ok (.aload_n 1, 1) := by decide +kernel
theorem dTe_copyFrom_1 : decode zbTe_copyFrom 1 = .ok (.getfield 9, 3) := by decide +kernel
theorem dTe_copyFrom_4 : decode zbTe_copyFrom 4 = .ok (.iconst 0, 1) := by decide +kernel
theorem dTe_copyFrom_5 : decode zbTe_copyFrom 5 = .ok (.aload_n 0, 1) := by decide +kernel
theorem dTe_copyFrom_6 : decode zbTe_copyFrom 6 = .ok (.getfield 9, 3) := by decide +kernel
theorem dTe_copyFrom_9 : decode zbTe_copyFrom 9 = .ok (.iconst 0, 1) := by decide +kernel
theorem dTe_copyFrom_10 : decode zbTe_copyFrom 10 = .ok (.aload_n 1, 1) := by decide +kernel
theorem dTe_copyFrom_11 : decode zbTe_copyFrom 11 = .ok (.getfield 15, 3) := by decide +kernel
theorem dTe_copyFrom_14 : decode zbTe_copyFrom 14 = .ok (.invokestatic 30, 3) := by decide +kernel
theorem dTe_copyFrom_17 : decode zbTe_copyFrom 17 = .ok (.aload_n 0, 1) := by decide +kernel
theorem dTe_copyFrom_18 : decode zbTe_copyFrom 18 = .ok (.aload_n 1, 1) := by decide +kernel
theorem dTe_copyFrom_19 : decode zbTe_copyFrom 19 = .ok (.getfield 15, 3) := by decide +kernel
theorem dTe_copyFrom_22 : decode zbTe_copyFrom 22 = .ok (.putfield 15, 3) := by decide +kernel
theorem dTe_copyFrom_25 : decode zbTe_copyFrom 25 = .ok (.return_, 1) := by decide +kernel
theorem dTx_init_0 : decode zbTx_init 0 = .ok (.aload_n 0, 1) := by decide +kernel
theorem dTx_init_1 : decode zbTx_init 1 = .ok (.invokespecial 3, 3) := by decide +kernel
theorem dTx_init_4 : decode zbTx_init 4 = .ok (.aload_n 0, 1) := by decide +kernel
theorem dTx_init_5 : decode zbTx_init 5 = .ok (.bipush 120, 2) := by decide +kernel
theorem dTx_init_7 : decode zbTx_init 7 = .ok (.newarray .char, 2) := by decide +kernel
theorem dTx_init_9 : decode zbTx_init 9 = .ok (.putfield 9, 3) := by decide +kernel
theorem dTx_init_12 : decode zbTx_init 12 = .ok (.aload_n 0, 1) := by decide +kernel
theorem dTx_init_13 : decode zbTx_init 13 = .ok (.iconst 0, 1) := by decide +kernel
theorem dTx_init_14 : decode zbTx_init 14 = .ok (.putfield 15, 3) := by decide +kernel
theorem dTx_init_17 : decode zbTx_init 17 = .ok (.aload_n 0, 1) := by decide +kernel
theorem dTx_init_18 : decode zbTx_init 18 = .ok (.iconst 0, 1) := by decide +kernel
theorem dTx_init_19 : decode zbTx_init 19 = .ok (.putfield 19, 3) := by decide +kernel
theorem dTx_init_22 : decode zbTx_init 22 = .ok (.aload_n 0, 1) := by decide +kernel
theorem dTx_init_23 : decode zbTx_init 23 = .ok (.iconst (-1), 1) := by decide +kernel
theorem dTx_init_24 : decode zbTx_init 24 = .ok (.putfield 22, 3) := by decide +kernel
theorem dTx_init_27 : decode zbTx_init 27 = .ok (.aload_n 0, 1) := by decide +kernel
theorem dTx_init_28 : decode zbTx_init 28 = .ok (.iconst (-1), 1) := by decide +kernel
theorem dTx_init_29 : decode zbTx_init 29 = .ok (.putfield 25, 3) := by decide +kernel
theorem dTx_init_32 : decode zbTx_init 32 = .ok (.aload_n 0, 1) := by decide +kernel
theorem dTx_init_33 : decode zbTx_init 33 = .ok (.iconst (-1), 1) := by decide +kernel
theorem dTx_init_34 : decode zbTx_init 34 = .ok (.putfield 28, 3) := by decide +kernel
theorem dTx_init_37 : decode zbTx_init 37 = .ok (.return_, 1) := by decide +kernel
theorem dTx_put_0 : decode zbTx_put 0 = .ok (.iconst 0, 1) := by decide +kernel
theorem dTx_put_1 : decode zbTx_put 1 = .ok (.istore_n 3, 1) := by decide +kernel
theorem dTx_put_2 : decode zbTx_put 2 = .ok (.iload_n 3, 1) := by decide +kernel
theorem dTx_put_3 : decode zbTx_put 3 = .ok (.bipush 8, 2) := by decide +kernel
theorem dTx_put_5 : decode zbTx_put 5 = .ok (.if_icmp .ge 40, 3) := by decide +kernel
theorem dTx_put_8 : decode zbTx_put 8 = .ok (.lload_n 1, 1) := by decide +kernel
theorem dTx_put_9 : decode zbTx_put 9 = .ok (.iload_n 3, 1) := by decide +kernel
theorem dTx_put_10 : decode zbTx_put 10 = .ok (.invokestatic 31, 3) := by decide +kernel
theorem dTx_put_13 : decode zbTx_put 13 = .ok (.ifCond .eq 32, 3) := by decide +kernel
theorem dTx_put_16 : decode zbTx_put 16 = .ok (.lload_n 1, 1) := by decide +kernel
theorem dTx_put_17 : decode zbTx_put 17 = .ok (.iload_n 3, 1) := by decide +kernel
theorem dTx_put_18 : decode zbTx_put 18 = .ok (.invokestatic 31, 3) := by decide +kernel
theorem dTx_put_21 : decode zbTx_put 21 = .ok (.istore 4, 2) := by decide +kernel
theorem dTx_put_23 : decode zbTx_put 23 = .ok (.iload 4, 2) := by decide +kernel
theorem dTx_put_25 : decode zbTx_put 25 = .ok (.bipush 33, 2) := by decide +kernel
theorem dTx_put_27 : decode zbTx_put 27 = .ok (.if_icmp .lt 10, 3) := by decide +kernel
theorem dTx_put_30 : decode zbTx_put 30 = .ok (.iload 4, 2) := by decide +kernel
theorem dTx_put_32 : decode zbTx_put 32 = .ok (.bipush 126, 2) := by decide +kernel
theorem dTx_put_34 : decode zbTx_put 34 = .ok (.if_icmp .le 5, 3) := by decide +kernel
theorem dTx_put_37 : decode zbTx_put 37 = .ok (.iconst 0, 1) := by decide +kernel
theorem dTx_put_38 : decode zbTx_put 38 = .ok (.ireturn, 1) := by decide +kernel
theorem dTx_put_39 : decode zbTx_put 39 = .ok (.iinc 3 1, 3) := by decide +kernel
theorem dTx_put_42 : decode zbTx_put 42 = .ok (.goto (-40), 3) := by decide +kernel
theorem dTx_put_45 : decode zbTx_put 45 = .ok (.aload_n 0, 1) := by decide +kernel
theorem dTx_put_46 : decode zbTx_put 46 = .ok (.getfield 15, 3) := by decide +kernel
theorem dTx_put_49 : decode zbTx_put 49 = .ok (.iload_n 3, 1) := by decide +kernel
theorem dTx_put_50 : decode zbTx_put 50 = .ok (.iadd, 1) := by decide +kernel
theorem dTx_put_51 : decode zbTx_put 51 = .ok (.bipush 120, 2) := by decide +kernel
theorem dTx_put_53 : decode zbTx_put 53 = .ok (.if_icmp .le 5, 3) := by decide +kernel
theorem dTx_put_56 : decode zbTx_put 56 = .ok (.iconst 0, 1) := by decide +kernel
theorem dTx_put_57 : decode zbTx_put 57 = .ok (.ireturn, 1) := by decide +kernel
theorem dTx_put_58 : decode zbTx_put 58 = .ok (.iconst 0, 1) := by decide +kernel
theorem dTx_put_59 : decode zbTx_put 59 = .ok (.istore 4, 2) := by decide +kernel
theorem dTx_put_61 : decode zbTx_put 61 = .ok (.iload 4, 2) := by decide +kernel
theorem dTx_put_63 : decode zbTx_put 63 = .ok (.iload_n 3, 1) := by decide +kernel
theorem dTx_put_64 : decode zbTx_put 64 = .ok (.if_icmp .ge 28, 3) := by decide +kernel
theorem dTx_put_67 : decode zbTx_put 67 = .ok (.aload_n 0, 1) := by decide +kernel
theorem dTx_put_68 : decode zbTx_put 68 = .ok (.getfield 9, 3) := by decide +kernel
theorem dTx_put_71 : decode zbTx_put 71 = .ok (.aload_n 0, 1) := by decide +kernel
theorem dTx_put_72 : decode zbTx_put 72 = .ok (.getfield 15, 3) := by decide +kernel
theorem dTx_put_75 : decode zbTx_put 75 = .ok (.iload 4, 2) := by decide +kernel
theorem dTx_put_77 : decode zbTx_put 77 = .ok (.iadd, 1) := by decide +kernel
theorem dTx_put_78 : decode zbTx_put 78 = .ok (.lload_n 1, 1) := by decide +kernel
theorem dTx_put_79 : decode zbTx_put 79 = .ok (.iload 4, 2) := by decide +kernel
theorem dTx_put_81 : decode zbTx_put 81 = .ok (.invokestatic 31, 3) := by decide +kernel
theorem dTx_put_84 : decode zbTx_put 84 = .ok (.i2c, 1) := by decide +kernel
theorem dTx_put_85 : decode zbTx_put 85 = .ok (.castore, 1) := by decide +kernel
theorem dTx_put_86 : decode zbTx_put 86 = .ok (.iinc 4 1, 3) := by decide +kernel
theorem dTx_put_89 : decode zbTx_put 89 = .ok (.goto (-28), 3) := by decide +kernel
theorem dTx_put_92 : decode zbTx_put 92 = .ok (.aload_n 0, 1) := by decide +kernel
theorem dTx_put_93 : decode zbTx_put 93 = .ok (.dup, 1) := by decide +kernel
theorem dTx_put_94 : decode zbTx_put 94 = .ok (.getfield 15, 3) := by decide +kernel
theorem dTx_put_97 : decode zbTx_put 97 = .ok (.iload_n 3, 1) := by decide +kernel
theorem dTx_put_98 : decode zbTx_put 98 = .ok (.iadd, 1) := by decide +kernel
theorem dTx_put_99 : decode zbTx_put 99 = .ok (.putfield 15, 3) := by decide +kernel
theorem dTx_put_102 : decode zbTx_put 102 = .ok (.iconst 1, 1) := by decide +kernel
theorem dTx_put_103 : decode zbTx_put 103 = .ok (.ireturn, 1) := by decide +kernel
theorem dTx_characterOf_0 : decode zbTx_characterOf 0 = .ok (.lload_n 0, 1) := by decide +kernel
theorem dTx_characterOf_1 : decode zbTx_characterOf 1 = .ok (.bipush 8, 2) := by decide +kernel
theorem dTx_characterOf_3 : decode zbTx_characterOf 3 = .ok (.iload_n 2, 1) := by decide +kernel
theorem dTx_characterOf_4 : decode zbTx_characterOf 4 = .ok (.imul, 1) := by decide +kernel
theorem dTx_characterOf_5 : decode zbTx_characterOf 5 = .ok (.lushr, 1) := by decide +kernel
theorem dTx_characterOf_6 : decode zbTx_characterOf 6 = .ok (.l2i, 1) := by decide +kernel
theorem dTx_characterOf_7 : decode zbTx_characterOf 7 = .ok (.sipush 255, 3) := by decide +kernel
theorem dTx_characterOf_10 : decode zbTx_characterOf 10 = .ok (.iand, 1) := by decide +kernel
theorem dTx_characterOf_11 : decode zbTx_characterOf 11 = .ok (.ireturn, 1) := by decide +kernel
theorem dTx_readInto_0 : decode zbTx_readInto 0 = .ok (.aload_n 0, 1) := by decide +kernel
theorem dTx_readInto_1 : decode zbTx_readInto 1 = .ok (.iconst 0, 1) := by decide +kernel
theorem dTx_readInto_2 : decode zbTx_readInto 2 = .ok (.putfield 19, 3) := by decide +kernel
theorem dTx_readInto_5 : decode zbTx_readInto 5 = .ok (.iconst 0, 1) := by decide +kernel
theorem dTx_readInto_6 : decode zbTx_readInto 6 = .ok (.istore_n 2, 1) := by decide +kernel
theorem dTx_readInto_7 : decode zbTx_readInto 7 = .ok (.iload_n 2, 1) := by decide +kernel
theorem dTx_readInto_8 : decode zbTx_readInto 8 = .ok (.bipush 10, 2) := by decide +kernel
theorem dTx_readInto_10 : decode zbTx_readInto 10 = .ok (.if_icmp .ge 70, 3) := by decide +kernel
theorem dTx_readInto_13 : decode zbTx_readInto 13 = .ok (.aload_n 0, 1) := by decide +kernel
theorem dTx_readInto_14 : decode zbTx_readInto 14 = .ok (.aload_n 1, 1) := by decide +kernel
theorem dTx_readInto_15 : decode zbTx_readInto 15 = .ok (.getfield 35, 3) := by decide +kernel
theorem dTx_readInto_18 : decode zbTx_readInto 18 = .ok (.iload_n 2, 1) := by decide +kernel
theorem dTx_readInto_19 : decode zbTx_readInto 19 = .ok (.aaload, 1) := by decide +kernel
theorem dTx_readInto_20 : decode zbTx_readInto 20 = .ok (.invokevirtual 41, 3) := by decide +kernel
theorem dTx_readInto_23 : decode zbTx_readInto 23 = .ok (.ifCond .ne 8, 3) := by decide +kernel
theorem dTx_readInto_26 : decode zbTx_readInto 26 = .ok (.aload_n 0, 1) := by decide +kernel
theorem dTx_readInto_27 : decode zbTx_readInto 27 = .ok (.getfield 19, 3) := by decide +kernel
theorem dTx_readInto_30 : decode zbTx_readInto 30 = .ok (.ireturn, 1) := by decide +kernel
theorem dTx_readInto_31 : decode zbTx_readInto 31 = .ok (.aload_n 0, 1) := by decide +kernel
theorem dTx_readInto_32 : decode zbTx_readInto 32 = .ok (.getfield 19, 3) := by decide +kernel
theorem dTx_readInto_35 : decode zbTx_readInto 35 = .ok (.aload_n 0, 1) := by decide +kernel
theorem dTx_readInto_36 : decode zbTx_readInto 36 = .ok (.getfield 15, 3) := by decide +kernel
theorem dTx_readInto_39 : decode zbTx_readInto 39 = .ok (.if_icmp .ne 15, 3) := by decide +kernel
theorem dTx_readInto_42 : decode zbTx_readInto 42 = .ok (.aload_n 1, 1) := by decide +kernel
theorem dTx_readInto_43 : decode zbTx_readInto 43 = .ok (.iload_n 2, 1) := by decide +kernel
theorem dTx_readInto_44 : decode zbTx_readInto 44 = .ok (.iconst 1, 1) := by decide +kernel
theorem dTx_readInto_45 : decode zbTx_readInto 45 = .ok (.iadd, 1) := by decide +kernel
theorem dTx_readInto_46 : decode zbTx_readInto 46 = .ok (.putfield 45, 3) := by decide +kernel
theorem dTx_readInto_49 : decode zbTx_readInto 49 = .ok (.aload_n 1, 1) := by decide +kernel
theorem dTx_readInto_50 : decode zbTx_readInto 50 = .ok (.invokevirtual 48, 3) := by decide +kernel
theorem dTx_readInto_53 : decode zbTx_readInto 53 = .ok (.ireturn, 1) := by decide +kernel
theorem dTx_readInto_54 : decode zbTx_readInto 54 = .ok (.iload_n 2, 1) := by decide +kernel
theorem dTx_readInto_55 : decode zbTx_readInto 55 = .ok (.bipush 9, 2) := by decide +kernel
theorem dTx_readInto_57 : decode zbTx_readInto 57 = .ok (.if_icmp .eq 12, 3) := by decide +kernel
theorem dTx_readInto_60 : decode zbTx_readInto 60 = .ok (.aload_n 0, 1) := by decide +kernel
theorem dTx_readInto_61 : decode zbTx_readInto 61 = .ok (.bipush 59, 2) := by decide +kernel
theorem dTx_readInto_63 : decode zbTx_readInto 63 = .ok (.invokevirtual 52, 3) := by decide +kernel
theorem dTx_readInto_66 : decode zbTx_readInto 66 = .ok (.ifCond .ne 8, 3) := by decide +kernel
theorem dTx_readInto_69 : decode zbTx_readInto 69 = .ok (.aload_n 0, 1) := by decide +kernel
theorem dTx_readInto_70 : decode zbTx_readInto 70 = .ok (.getfield 19, 3) := by decide +kernel
theorem dTx_readInto_73 : decode zbTx_readInto 73 = .ok (.ireturn, 1) := by decide +kernel
theorem dTx_readInto_74 : decode zbTx_readInto 74 = .ok (.iinc 2 1, 3) := by decide +kernel
theorem dTx_readInto_77 : decode zbTx_readInto 77 = .ok (.goto (-70), 3) := by decide +kernel
theorem dTx_readInto_80 : decode zbTx_readInto 80 = .ok (.aload_n 0, 1) := by decide +kernel
theorem dTx_readInto_81 : decode zbTx_readInto 81 = .ok (.getfield 19, 3) := by decide +kernel
theorem dTx_readInto_84 : decode zbTx_readInto 84 = .ok (.ireturn, 1) := by decide +kernel
theorem dTx_readClause_0 : decode zbTx_readClause 0 = .ok (.aload_n 0, 1) := by decide +kernel
theorem dTx_readClause_1 : decode zbTx_readClause 1 = .ok (.aload_n 1, 1) := by decide +kernel
theorem dTx_readClause_2 : decode zbTx_readClause 2 = .ok (.invokevirtual 56, 3) := by decide +kernel
theorem dTx_readClause_5 : decode zbTx_readClause 5 = .ok (.ifCond .eq 32, 3) := by decide +kernel
theorem dTx_readClause_8 : decode zbTx_readClause 8 = .ok (.aload_n 0, 1) := by decide +kernel
theorem dTx_readClause_9 : decode zbTx_readClause 9 = .ok (.aload_n 1, 1) := by decide +kernel
theorem dTx_readClause_10 : decode zbTx_readClause 10 = .ok (.invokevirtual 59, 3) := by decide +kernel
theorem dTx_readClause_13 : decode zbTx_readClause 13 = .ok (.ifCond .eq 24, 3) := by decide +kernel
theorem dTx_readClause_16 : decode zbTx_readClause 16 = .ok (.aload_n 0, 1) := by decide +kernel
theorem dTx_readClause_17 : decode zbTx_readClause 17 = .ok (.bipush 62, 2) := by decide +kernel
theorem dTx_readClause_19 : decode zbTx_readClause 19 = .ok (.invokevirtual 52, 3) := by decide +kernel
theorem dTx_readClause_22 : decode zbTx_readClause 22 = .ok (.ifCond .eq 15, 3) := by decide +kernel
theorem dTx_readClause_25 : decode zbTx_readClause 25 = .ok (.aload_n 0, 1) := by decide +kernel
theorem dTx_readClause_26 : decode zbTx_readClause 26 = .ok (.aload_n 1, 1) := by decide +kernel
theorem dTx_readClause_27 : decode zbTx_readClause 27 = .ok (.invokevirtual 62, 3) := by decide +kernel
theorem dTx_readClause_30 : decode zbTx_readClause 30 = .ok (.ifCond .eq 7, 3) := by decide +kernel
theorem dTx_readClause_33 : decode zbTx_readClause 33 = .ok (.iconst 1, 1) := by decide +kernel
theorem dTx_readClause_34 : decode zbTx_readClause 34 = .ok (.goto 4, 3) := by decide +kernel
theorem dTx_readClause_37 : decode zbTx_readClause 37 = .ok (.iconst 0, 1) := by decide +kernel
theorem dTx_readClause_38 : decode zbTx_readClause 38 = .ok (.ireturn, 1) := by decide +kernel
theorem dTx_readTrigger_0 : decode zbTx_readTrigger 0 = .ok (.aload_n 0, 1) := by decide +kernel
theorem dTx_readTrigger_1 : decode zbTx_readTrigger 1 = .ok (.bipush 115, 2) := by decide +kernel
theorem dTx_readTrigger_3 : decode zbTx_readTrigger 3 = .ok (.invokevirtual 52, 3) := by decide +kernel
theorem dTx_readTrigger_6 : decode zbTx_readTrigger 6 = .ok (.ifCond .eq 11, 3) := by decide +kernel
theorem dTx_readTrigger_9 : decode zbTx_readTrigger 9 = .ok (.aload_n 1, 1) := by decide +kernel
theorem dTx_readTrigger_10 : decode zbTx_readTrigger 10 = .ok (.bipush 115, 2) := by decide +kernel
theorem dTx_readTrigger_12 : decode zbTx_readTrigger 12 = .ok (.putfield 65, 3) := by decide +kernel
theorem dTx_readTrigger_15 : decode zbTx_readTrigger 15 = .ok (.iconst 1, 1) := by decide +kernel
theorem dTx_readTrigger_16 : decode zbTx_readTrigger 16 = .ok (.ireturn, 1) := by decide +kernel
theorem dTx_readTrigger_17 : decode zbTx_readTrigger 17 = .ok (.aload_n 0, 1) := by decide +kernel
theorem dTx_readTrigger_18 : decode zbTx_readTrigger 18 = .ok (.bipush 61, 2) := by decide +kernel
theorem dTx_readTrigger_20 : decode zbTx_readTrigger 20 = .ok (.invokevirtual 52, 3) := by decide +kernel
theorem dTx_readTrigger_23 : decode zbTx_readTrigger 23 = .ok (.ifCond .eq 11, 3) := by decide +kernel
theorem dTx_readTrigger_26 : decode zbTx_readTrigger 26 = .ok (.aload_n 1, 1) := by decide +kernel
theorem dTx_readTrigger_27 : decode zbTx_readTrigger 27 = .ok (.bipush 61, 2) := by decide +kernel
theorem dTx_readTrigger_29 : decode zbTx_readTrigger 29 = .ok (.putfield 65, 3) := by decide +kernel
theorem dTx_readTrigger_32 : decode zbTx_readTrigger 32 = .ok (.iconst 1, 1) := by decide +kernel
theorem dTx_readTrigger_33 : decode zbTx_readTrigger 33 = .ok (.ireturn, 1) := by decide +kernel
theorem dTx_readTrigger_34 : decode zbTx_readTrigger 34 = .ok (.aload_n 0, 1) := by decide +kernel
theorem dTx_readTrigger_35 : decode zbTx_readTrigger 35 = .ok (.bipush 120, 2) := by decide +kernel
theorem dTx_readTrigger_37 : decode zbTx_readTrigger 37 = .ok (.invokevirtual 52, 3) := by decide +kernel
theorem dTx_readTrigger_40 : decode zbTx_readTrigger 40 = .ok (.ifCond .eq 15, 3) := by decide +kernel
theorem dTx_readTrigger_43 : decode zbTx_readTrigger 43 = .ok (.aload_n 1, 1) := by decide +kernel
theorem dTx_readTrigger_44 : decode zbTx_readTrigger 44 = .ok (.bipush 120, 2) := by decide +kernel
theorem dTx_readTrigger_46 : decode zbTx_readTrigger 46 = .ok (.putfield 65, 3) := by decide +kernel
theorem dTx_readTrigger_49 : decode zbTx_readTrigger 49 = .ok (.aload_n 0, 1) := by decide +kernel
theorem dTx_readTrigger_50 : decode zbTx_readTrigger 50 = .ok (.aload_n 1, 1) := by decide +kernel
theorem dTx_readTrigger_51 : decode zbTx_readTrigger 51 = .ok (.invokevirtual 70, 3) := by decide +kernel
theorem dTx_readTrigger_54 : decode zbTx_readTrigger 54 = .ok (.ireturn, 1) := by decide +kernel
theorem dTx_readTrigger_55 : decode zbTx_readTrigger 55 = .ok (.aload_n 0, 1) := by decide +kernel
theorem dTx_readTrigger_56 : decode zbTx_readTrigger 56 = .ok (.bipush 102, 2) := by decide +kernel
theorem dTx_readTrigger_58 : decode zbTx_readTrigger 58 = .ok (.invokevirtual 52, 3) := by decide +kernel
theorem dTx_readTrigger_61 : decode zbTx_readTrigger 61 = .ok (.ifCond .eq 15, 3) := by decide +kernel
theorem dTx_readTrigger_64 : decode zbTx_readTrigger 64 = .ok (.aload_n 1, 1) := by decide +kernel
theorem dTx_readTrigger_65 : decode zbTx_readTrigger 65 = .ok (.bipush 102, 2) := by decide +kernel
theorem dTx_readTrigger_67 : decode zbTx_readTrigger 67 = .ok (.putfield 65, 3) := by decide +kernel
theorem dTx_readTrigger_70 : decode zbTx_readTrigger 70 = .ok (.aload_n 0, 1) := by decide +kernel
theorem dTx_readTrigger_71 : decode zbTx_readTrigger 71 = .ok (.aload_n 1, 1) := by decide +kernel
theorem dTx_readTrigger_72 : decode zbTx_readTrigger 72 = .ok (.invokevirtual 70, 3) := by decide +kernel
theorem dTx_readTrigger_75 : decode zbTx_readTrigger 75 = .ok (.ireturn, 1) := by decide +kernel
theorem dTx_readTrigger_76 : decode zbTx_readTrigger 76 = .ok (.aload_n 1, 1) := by decide +kernel
theorem dTx_readTrigger_77 : decode zbTx_readTrigger 77 = .ok (.bipush 101, 2) := by decide +kernel
theorem dTx_readTrigger_79 : decode zbTx_readTrigger 79 = .ok (.putfield 65, 3) := by decide +kernel
theorem dTx_readTrigger_82 : decode zbTx_readTrigger 82 = .ok (.aload_n 1, 1) := by decide +kernel
theorem dTx_readTrigger_83 : decode zbTx_readTrigger 83 = .ok (.aload_n 0, 1) := by decide +kernel
theorem dTx_readTrigger_84 : decode zbTx_readTrigger 84 = .ok (.invokevirtual 73, 3) := by decide +kernel
theorem dTx_readTrigger_87 : decode zbTx_readTrigger 87 = .ok (.putfield 76, 3) := by decide +kernel
theorem dTx_readTrigger_90 : decode zbTx_readTrigger 90 = .ok (.aload_n 1, 1) := by decide +kernel
theorem dTx_readTrigger_91 : decode zbTx_readTrigger 91 = .ok (.getfield 76, 3) := by decide +kernel
theorem dTx_readTrigger_94 : decode zbTx_readTrigger 94 = .ok (.iconst (-1), 1) := by decide +kernel
theorem dTx_readTrigger_95 : decode zbTx_readTrigger 95 = .ok (.if_icmp .ne 5, 3) := by decide +kernel
theorem dTx_readTrigger_98 : decode zbTx_readTrigger 98 = .ok (.iconst 0, 1) := by decide +kernel
theorem dTx_readTrigger_99 : decode zbTx_readTrigger 99 = .ok (.ireturn, 1) := by decide +kernel
theorem dTx_readTrigger_100 : decode zbTx_readTrigger 100 = .ok (.aload_n 1, 1) := by decide +kernel
theorem dTx_readTrigger_101 : decode zbTx_readTrigger 101 = .ok (.aload_n 0, 1) := by decide +kernel
theorem dTx_readTrigger_102 : decode zbTx_readTrigger 102 = .ok (.invokevirtual 79, 3) := by decide +kernel
theorem dTx_readTrigger_105 : decode zbTx_readTrigger 105 = .ok (.putfield 82, 3) := by decide +kernel
theorem dTx_readTrigger_108 : decode zbTx_readTrigger 108 = .ok (.aload_n 1, 1) := by decide +kernel
theorem dTx_readTrigger_109 : decode zbTx_readTrigger 109 = .ok (.getfield 82, 3) := by decide +kernel
theorem dTx_readTrigger_112 : decode zbTx_readTrigger 112 = .ok (.iconst (-1), 1) := by decide +kernel
theorem dTx_readTrigger_113 : decode zbTx_readTrigger 113 = .ok (.if_icmp .eq 7, 3) := by decide +kernel
theorem dTx_readTrigger_116 : decode zbTx_readTrigger 116 = .ok (.iconst 1, 1) := by decide +kernel
theorem dTx_readTrigger_117 : decode zbTx_readTrigger 117 = .ok (.goto 4, 3) := by decide +kernel
theorem dTx_readTrigger_120 : decode zbTx_readTrigger 120 = .ok (.iconst 0, 1) := by decide +kernel
theorem dTx_readTrigger_121 : decode zbTx_readTrigger 121 = .ok (.ireturn, 1) := by decide +kernel
theorem dTx_readTriggerNumber_0 : decode zbTx_readTriggerNumber 0 = .ok (.aload_n 1, 1) := by decide +kernel
theorem dTx_readTriggerNumber_1 : decode zbTx_readTriggerNumber 1 = .ok (.aload_n 0, 1) := by decide +kernel
theorem dTx_readTriggerNumber_2 : decode zbTx_readTriggerNumber 2 = .ok (.invokevirtual 85, 3) := by decide +kernel
theorem dTx_readTriggerNumber_5 : decode zbTx_readTriggerNumber 5 = .ok (.putfield 88, 3) := by decide +kernel
theorem dTx_readTriggerNumber_8 : decode zbTx_readTriggerNumber 8 = .ok (.aload_n 1, 1) := by decide +kernel
theorem dTx_readTriggerNumber_9 : decode zbTx_readTriggerNumber 9 = .ok (.getfield 88, 3) := by decide +kernel
theorem dTx_readTriggerNumber_12 : decode zbTx_readTriggerNumber 12 = .ok (.iconst (-1), 1) := by decide +kernel
theorem dTx_readTriggerNumber_13 : decode zbTx_readTriggerNumber 13 = .ok (.if_icmp .eq 7, 3) := by decide +kernel
theorem dTx_readTriggerNumber_16 : decode zbTx_readTriggerNumber 16 = .ok (.iconst 1, 1) := by decide +kernel
theorem dTx_readTriggerNumber_17 : decode zbTx_readTriggerNumber 17 = .ok (.goto 4, 3) := by decide +kernel
theorem dTx_readTriggerNumber_20 : decode zbTx_readTriggerNumber 20 = .ok (.iconst 0, 1) := by decide +kernel
theorem dTx_readTriggerNumber_21 : decode zbTx_readTriggerNumber 21 = .ok (.ireturn, 1) := by decide +kernel
theorem dTx_readCondition_0 : decode zbTx_readCondition 0 = .ok (.aload_n 1, 1) := by decide +kernel
theorem dTx_readCondition_1 : decode zbTx_readCondition 1 = .ok (.aload_n 0, 1) := by decide +kernel
theorem dTx_readCondition_2 : decode zbTx_readCondition 2 = .ok (.bipush 91, 2) := by decide +kernel
theorem dTx_readCondition_4 : decode zbTx_readCondition 4 = .ok (.invokevirtual 52, 3) := by decide +kernel
theorem dTx_readCondition_7 : decode zbTx_readCondition 7 = .ok (.putfield 91, 3) := by decide +kernel
theorem dTx_readCondition_10 : decode zbTx_readCondition 10 = .ok (.aload_n 1, 1) := by decide +kernel
theorem dTx_readCondition_11 : decode zbTx_readCondition 11 = .ok (.getfield 91, 3) := by decide +kernel
theorem dTx_readCondition_14 : decode zbTx_readCondition 14 = .ok (.ifCond .ne 5, 3) := by decide +kernel
theorem dTx_readCondition_17 : decode zbTx_readCondition 17 = .ok (.iconst 1, 1) := by decide +kernel
theorem dTx_readCondition_18 : decode zbTx_readCondition 18 = .ok (.ireturn, 1) := by decide +kernel
theorem dTx_readCondition_19 : decode zbTx_readCondition 19 = .ok (.aload_n 0, 1) := by decide +kernel
theorem dTx_readCondition_20 : decode zbTx_readCondition 20 = .ok (.invokevirtual 95, 3) := by decide +kernel
theorem dTx_readCondition_23 : decode zbTx_readCondition 23 = .ok (.ifCond .eq 10, 3) := by decide +kernel
theorem dTx_readCondition_26 : decode zbTx_readCondition 26 = .ok (.aload_n 0, 1) := by decide +kernel
theorem dTx_readCondition_27 : decode zbTx_readCondition 27 = .ok (.invokevirtual 99, 3) := by decide +kernel
theorem dTx_readCondition_30 : decode zbTx_readCondition 30 = .ok (.ifCond .ne 5, 3) := by decide +kernel
theorem dTx_readCondition_33 : decode zbTx_readCondition 33 = .ok (.iconst 0, 1) := by decide +kernel
theorem dTx_readCondition_34 : decode zbTx_readCondition 34 = .ok (.ireturn, 1) := by decide +kernel
theorem dTx_readCondition_35 : decode zbTx_readCondition 35 = .ok (.aload_n 1, 1) := by decide +kernel
theorem dTx_readCondition_36 : decode zbTx_readCondition 36 = .ok (.aload_n 0, 1) := by decide +kernel
theorem dTx_readCondition_37 : decode zbTx_readCondition 37 = .ok (.getfield 22, 3) := by decide +kernel
theorem dTx_readCondition_40 : decode zbTx_readCondition 40 = .ok (.putfield 102, 3) := by decide +kernel
theorem dTx_readCondition_43 : decode zbTx_readCondition 43 = .ok (.aload_n 1, 1) := by decide +kernel
theorem dTx_readCondition_44 : decode zbTx_readCondition 44 = .ok (.aload_n 0, 1) := by decide +kernel
theorem dTx_readCondition_45 : decode zbTx_readCondition 45 = .ok (.getfield 25, 3) := by decide +kernel
theorem dTx_readCondition_48 : decode zbTx_readCondition 48 = .ok (.putfield 105, 3) := by decide +kernel
theorem dTx_readCondition_51 : decode zbTx_readCondition 51 = .ok (.aload_n 1, 1) := by decide +kernel
theorem dTx_readCondition_52 : decode zbTx_readCondition 52 = .ok (.aload_n 0, 1) := by decide +kernel
theorem dTx_readCondition_53 : decode zbTx_readCondition 53 = .ok (.getfield 28, 3) := by decide +kernel
theorem dTx_readCondition_56 : decode zbTx_readCondition 56 = .ok (.putfield 108, 3) := by decide +kernel
theorem dTx_readCondition_59 : decode zbTx_readCondition 59 = .ok (.aload_n 0, 1) := by decide +kernel
theorem dTx_readCondition_60 : decode zbTx_readCondition 60 = .ok (.bipush 93, 2) := by decide +kernel
theorem dTx_readCondition_62 : decode zbTx_readCondition 62 = .ok (.invokevirtual 52, 3) := by decide +kernel
theorem dTx_readCondition_65 : decode zbTx_readCondition 65 = .ok (.ireturn, 1) := by decide +kernel
theorem dTx_readAction_0 : decode zbTx_readAction 0 = .ok (.aload_n 1, 1) := by decide +kernel
theorem dTx_readAction_1 : decode zbTx_readAction 1 = .ok (.iconst (-1), 1) := by decide +kernel
theorem dTx_readAction_2 : decode zbTx_readAction 2 = .ok (.putfield 111, 3) := by decide +kernel
theorem dTx_readAction_5 : decode zbTx_readAction 5 = .ok (.aload_n 1, 1) := by decide +kernel
theorem dTx_readAction_6 : decode zbTx_readAction 6 = .ok (.iconst (-1), 1) := by decide +kernel
theorem dTx_readAction_7 : decode zbTx_readAction 7 = .ok (.putfield 114, 3) := by decide +kernel
theorem dTx_readAction_10 : decode zbTx_readAction 10 = .ok (.aload_n 1, 1) := by decide +kernel
theorem dTx_readAction_11 : decode zbTx_readAction 11 = .ok (.iconst (-1), 1) := by decide +kernel
theorem dTx_readAction_12 : decode zbTx_readAction 12 = .ok (.putfield 117, 3) := by decide +kernel
theorem dTx_readAction_15 : decode zbTx_readAction 15 = .ok (.aload_n 0, 1) := by decide +kernel
theorem dTx_readAction_16 : decode zbTx_readAction 16 = .ok (.bipush 61, 2) := by decide +kernel
theorem dTx_readAction_18 : decode zbTx_readAction 18 = .ok (.invokevirtual 52, 3) := by decide +kernel
theorem dTx_readAction_21 : decode zbTx_readAction 21 = .ok (.ifCond .eq 12, 3) := by decide +kernel
theorem dTx_readAction_24 : decode zbTx_readAction 24 = .ok (.aload_n 1, 1) := by decide +kernel
theorem dTx_readAction_25 : decode zbTx_readAction 25 = .ok (.bipush 61, 2) := by decide +kernel
theorem dTx_readAction_27 : decode zbTx_readAction 27 = .ok (.putfield 120, 3) := by decide +kernel
theorem dTx_readAction_30 : decode zbTx_readAction 30 = .ok (.goto 79, 3) := by decide +kernel
theorem dTx_readAction_33 : decode zbTx_readAction 33 = .ok (.aload_n 0, 1) := by decide +kernel
theorem dTx_readAction_34 : decode zbTx_readAction 34 = .ok (.bipush 36, 2) := by decide +kernel
theorem dTx_readAction_36 : decode zbTx_readAction 36 = .ok (.invokevirtual 52, 3) := by decide +kernel
theorem dTx_readAction_39 : decode zbTx_readAction 39 = .ok (.ifCond .eq 37, 3) := by decide +kernel
theorem dTx_readAction_42 : decode zbTx_readAction 42 = .ok (.aload_n 1, 1) := by decide +kernel
theorem dTx_readAction_43 : decode zbTx_readAction 43 = .ok (.bipush 36, 2) := by decide +kernel
theorem dTx_readAction_45 : decode zbTx_readAction 45 = .ok (.putfield 120, 3) := by decide +kernel
theorem dTx_readAction_48 : decode zbTx_readAction 48 = .ok (.aload_n 0, 1) := by decide +kernel
theorem dTx_readAction_49 : decode zbTx_readAction 49 = .ok (.invokevirtual 95, 3) := by decide +kernel
theorem dTx_readAction_52 : decode zbTx_readAction 52 = .ok (.ifCond .ne 5, 3) := by decide +kernel
theorem dTx_readAction_55 : decode zbTx_readAction 55 = .ok (.iconst 0, 1) := by decide +kernel
theorem dTx_readAction_56 : decode zbTx_readAction 56 = .ok (.ireturn, 1) := by decide +kernel
theorem dTx_readAction_57 : decode zbTx_readAction 57 = .ok (.aload_n 1, 1) := by decide +kernel
theorem dTx_readAction_58 : decode zbTx_readAction 58 = .ok (.aload_n 0, 1) := by decide +kernel
theorem dTx_readAction_59 : decode zbTx_readAction 59 = .ok (.getfield 22, 3) := by decide +kernel
theorem dTx_readAction_62 : decode zbTx_readAction 62 = .ok (.putfield 111, 3) := by decide +kernel
theorem dTx_readAction_65 : decode zbTx_readAction 65 = .ok (.aload_n 1, 1) := by decide +kernel
theorem dTx_readAction_66 : decode zbTx_readAction 66 = .ok (.aload_n 0, 1) := by decide +kernel
theorem dTx_readAction_67 : decode zbTx_readAction 67 = .ok (.getfield 25, 3) := by decide +kernel
theorem dTx_readAction_70 : decode zbTx_readAction 70 = .ok (.putfield 117, 3) := by decide +kernel
theorem dTx_readAction_73 : decode zbTx_readAction 73 = .ok (.goto 36, 3) := by decide +kernel
theorem dTx_readAction_76 : decode zbTx_readAction 76 = .ok (.aload_n 0, 1) := by decide +kernel
theorem dTx_readAction_77 : decode zbTx_readAction 77 = .ok (.aload_n 1, 1) := by decide +kernel
theorem dTx_readAction_78 : decode zbTx_readAction 78 = .ok (.invokevirtual 123, 3) := by decide +kernel
theorem dTx_readAction_81 : decode zbTx_readAction 81 = .ok (.ifCond .eq 10, 3) := by decide +kernel
theorem dTx_readAction_84 : decode zbTx_readAction 84 = .ok (.aload_n 0, 1) := by decide +kernel
theorem dTx_readAction_85 : decode zbTx_readAction 85 = .ok (.invokevirtual 126, 3) := by decide +kernel
theorem dTx_readAction_88 : decode zbTx_readAction 88 = .ok (.ifCond .ne 5, 3) := by decide +kernel
theorem dTx_readAction_91 : decode zbTx_readAction 91 = .ok (.iconst 0, 1) := by decide +kernel
theorem dTx_readAction_92 : decode zbTx_readAction 92 = .ok (.ireturn, 1) := by decide +kernel
theorem dTx_readAction_93 : decode zbTx_readAction 93 = .ok (.aload_n 1, 1) := by decide +kernel
theorem dTx_readAction_94 : decode zbTx_readAction 94 = .ok (.aload_n 0, 1) := by decide +kernel
theorem dTx_readAction_95 : decode zbTx_readAction 95 = .ok (.getfield 22, 3) := by decide +kernel
theorem dTx_readAction_98 : decode zbTx_readAction 98 = .ok (.putfield 111, 3) := by decide +kernel
theorem dTx_readAction_101 : decode zbTx_readAction 101 = .ok (.aload_n 1, 1) := by decide +kernel
theorem dTx_readAction_102 : decode zbTx_readAction 102 = .ok (.aload_n 0, 1) := by decide +kernel
theorem dTx_readAction_103 : decode zbTx_readAction 103 = .ok (.getfield 25, 3) := by decide +kernel
theorem dTx_readAction_106 : decode zbTx_readAction 106 = .ok (.putfield 114, 3) := by decide +kernel
theorem dTx_readAction_109 : decode zbTx_readAction 109 = .ok (.aload_n 0, 1) := by decide +kernel
theorem dTx_readAction_110 : decode zbTx_readAction 110 = .ok (.invokevirtual 99, 3) := by decide +kernel
theorem dTx_readAction_113 : decode zbTx_readAction 113 = .ok (.ifCond .ne 5, 3) := by decide +kernel
theorem dTx_readAction_116 : decode zbTx_readAction 116 = .ok (.iconst 0, 1) := by decide +kernel
theorem dTx_readAction_117 : decode zbTx_readAction 117 = .ok (.ireturn, 1) := by decide +kernel
theorem dTx_readAction_118 : decode zbTx_readAction 118 = .ok (.aload_n 1, 1) := by decide +kernel
theorem dTx_readAction_119 : decode zbTx_readAction 119 = .ok (.aload_n 0, 1) := by decide +kernel
theorem dTx_readAction_120 : decode zbTx_readAction 120 = .ok (.getfield 28, 3) := by decide +kernel
theorem dTx_readAction_123 : decode zbTx_readAction 123 = .ok (.putfield 129, 3) := by decide +kernel
theorem dTx_readAction_126 : decode zbTx_readAction 126 = .ok (.iconst 1, 1) := by decide +kernel
theorem dTx_readAction_127 : decode zbTx_readAction 127 = .ok (.ireturn, 1) := by decide +kernel
theorem dTx_readTermSign_0 : decode zbTx_readTermSign 0 = .ok (.aload_n 0, 1) := by decide +kernel
theorem dTx_readTermSign_1 : decode zbTx_readTermSign 1 = .ok (.bipush 33, 2) := by decide +kernel
theorem dTx_readTermSign_3 : decode zbTx_readTermSign 3 = .ok (.invokevirtual 52, 3) := by decide +kernel
theorem dTx_readTermSign_6 : decode zbTx_readTermSign 6 = .ok (.ifCond .eq 11, 3) := by decide +kernel
theorem dTx_readTermSign_9 : decode zbTx_readTermSign 9 = .ok (.aload_n 1, 1) := by decide +kernel
theorem dTx_readTermSign_10 : decode zbTx_readTermSign 10 = .ok (.bipush 33, 2) := by decide +kernel
theorem dTx_readTermSign_12 : decode zbTx_readTermSign 12 = .ok (.putfield 120, 3) := by decide +kernel
theorem dTx_readTermSign_15 : decode zbTx_readTermSign 15 = .ok (.iconst 1, 1) := by decide +kernel
theorem dTx_readTermSign_16 : decode zbTx_readTermSign 16 = .ok (.ireturn, 1) := by decide +kernel
theorem dTx_readTermSign_17 : decode zbTx_readTermSign 17 = .ok (.aload_n 0, 1) := by decide +kernel
theorem dTx_readTermSign_18 : decode zbTx_readTermSign 18 = .ok (.bipush 126, 2) := by decide +kernel
theorem dTx_readTermSign_20 : decode zbTx_readTermSign 20 = .ok (.invokevirtual 52, 3) := by decide +kernel
theorem dTx_readTermSign_23 : decode zbTx_readTermSign 23 = .ok (.ifCond .eq 11, 3) := by decide +kernel
theorem dTx_readTermSign_26 : decode zbTx_readTermSign 26 = .ok (.aload_n 1, 1) := by decide +kernel
theorem dTx_readTermSign_27 : decode zbTx_readTermSign 27 = .ok (.bipush 126, 2) := by decide +kernel
theorem dTx_readTermSign_29 : decode zbTx_readTermSign 29 = .ok (.putfield 120, 3) := by decide +kernel
theorem dTx_readTermSign_32 : decode zbTx_readTermSign 32 = .ok (.iconst 1, 1) := by decide +kernel
theorem dTx_readTermSign_33 : decode zbTx_readTermSign 33 = .ok (.ireturn, 1) := by decide +kernel
theorem dTx_readTermSign_34 : decode zbTx_readTermSign 34 = .ok (.aload_n 1, 1) := by decide +kernel
theorem dTx_readTermSign_35 : decode zbTx_readTermSign 35 = .ok (.bipush 63, 2) := by decide +kernel
theorem dTx_readTermSign_37 : decode zbTx_readTermSign 37 = .ok (.putfield 120, 3) := by decide +kernel
theorem dTx_readTermSign_40 : decode zbTx_readTermSign 40 = .ok (.aload_n 0, 1) := by decide +kernel
theorem dTx_readTermSign_41 : decode zbTx_readTermSign 41 = .ok (.bipush 63, 2) := by decide +kernel
theorem dTx_readTermSign_43 : decode zbTx_readTermSign 43 = .ok (.invokevirtual 52, 3) := by decide +kernel
theorem dTx_readTermSign_46 : decode zbTx_readTermSign 46 = .ok (.ireturn, 1) := by decide +kernel
theorem dTx_readTwoParties_0 : decode zbTx_readTwoParties 0 = .ok (.aload_n 0, 1) := by decide +kernel
theorem dTx_readTwoParties_1 : decode zbTx_readTwoParties 1 = .ok (.aload_n 0, 1) := by decide +kernel
theorem dTx_readTwoParties_2 : decode zbTx_readTwoParties 2 = .ok (.invokevirtual 73, 3) := by decide +kernel
theorem dTx_readTwoParties_5 : decode zbTx_readTwoParties 5 = .ok (.putfield 22, 3) := by decide +kernel
theorem dTx_readTwoParties_8 : decode zbTx_readTwoParties 8 = .ok (.aload_n 0, 1) := by decide +kernel
theorem dTx_readTwoParties_9 : decode zbTx_readTwoParties 9 = .ok (.getfield 22, 3) := by decide +kernel
theorem dTx_readTwoParties_12 : decode zbTx_readTwoParties 12 = .ok (.iconst (-1), 1) := by decide +kernel
theorem dTx_readTwoParties_13 : decode zbTx_readTwoParties 13 = .ok (.if_icmp .eq 18, 3) := by decide +kernel
theorem dTx_readTwoParties_16 : decode zbTx_readTwoParties 16 = .ok (.aload_n 0, 1) := by decide +kernel
theorem dTx_readTwoParties_17 : decode zbTx_readTwoParties 17 = .ok (.bipush 65, 2) := by decide +kernel
theorem dTx_readTwoParties_19 : decode zbTx_readTwoParties 19 = .ok (.aload_n 0, 1) := by decide +kernel
theorem dTx_readTwoParties_20 : decode zbTx_readTwoParties 20 = .ok (.getfield 22, 3) := by decide +kernel
theorem dTx_readTwoParties_23 : decode zbTx_readTwoParties 23 = .ok (.iadd, 1) := by decide +kernel
theorem dTx_readTwoParties_24 : decode zbTx_readTwoParties 24 = .ok (.i2c, 1) := by decide +kernel
theorem dTx_readTwoParties_25 : decode zbTx_readTwoParties 25 = .ok (.invokevirtual 130, 3) := by decide +kernel
theorem dTx_readTwoParties_28 : decode zbTx_readTwoParties 28 = .ok (.ifCond .eq 5, 3) := by decide +kernel
theorem dTx_readTwoParties_31 : decode zbTx_readTwoParties 31 = .ok (.iconst 0, 1) := by decide +kernel
theorem dTx_readTwoParties_32 : decode zbTx_readTwoParties 32 = .ok (.ireturn, 1) := by decide +kernel
theorem dTx_readTwoParties_33 : decode zbTx_readTwoParties 33 = .ok (.aload_n 0, 1) := by decide +kernel
theorem dTx_readTwoParties_34 : decode zbTx_readTwoParties 34 = .ok (.aload_n 0, 1) := by decide +kernel
theorem dTx_readTwoParties_35 : decode zbTx_readTwoParties 35 = .ok (.invokevirtual 73, 3) := by decide +kernel
theorem dTx_readTwoParties_38 : decode zbTx_readTwoParties 38 = .ok (.putfield 25, 3) := by decide +kernel
theorem dTx_readTwoParties_41 : decode zbTx_readTwoParties 41 = .ok (.aload_n 0, 1) := by decide +kernel
theorem dTx_readTwoParties_42 : decode zbTx_readTwoParties 42 = .ok (.getfield 25, 3) := by decide +kernel
theorem dTx_readTwoParties_45 : decode zbTx_readTwoParties 45 = .ok (.iconst (-1), 1) := by decide +kernel
theorem dTx_readTwoParties_46 : decode zbTx_readTwoParties 46 = .ok (.if_icmp .eq 7, 3) := by decide +kernel
theorem dTx_readTwoParties_49 : decode zbTx_readTwoParties 49 = .ok (.iconst 1, 1) := by decide +kernel
theorem dTx_readTwoParties_50 : decode zbTx_readTwoParties 50 = .ok (.goto 4, 3) := by decide +kernel
theorem dTx_readTwoParties_53 : decode zbTx_readTwoParties 53 = .ok (.iconst 0, 1) := by decide +kernel
theorem dTx_readTwoParties_54 : decode zbTx_readTwoParties 54 = .ok (.ireturn, 1) := by decide +kernel
theorem dTx_readPartyAndKind_0 : decode zbTx_readPartyAndKind 0 = .ok (.aload_n 0, 1) := by decide +kernel
theorem dTx_readPartyAndKind_1 : decode zbTx_readPartyAndKind 1 = .ok (.aload_n 0, 1) := by decide +kernel
theorem dTx_readPartyAndKind_2 : decode zbTx_readPartyAndKind 2 = .ok (.invokevirtual 73, 3) := by decide +kernel
theorem dTx_readPartyAndKind_5 : decode zbTx_readPartyAndKind 5 = .ok (.putfield 22, 3) := by decide +kernel
theorem dTx_readPartyAndKind_8 : decode zbTx_readPartyAndKind 8 = .ok (.aload_n 0, 1) := by decide +kernel
theorem dTx_readPartyAndKind_9 : decode zbTx_readPartyAndKind 9 = .ok (.getfield 22, 3) := by decide +kernel
theorem dTx_readPartyAndKind_12 : decode zbTx_readPartyAndKind 12 = .ok (.iconst (-1), 1) := by decide +kernel
theorem dTx_readPartyAndKind_13 : decode zbTx_readPartyAndKind 13 = .ok (.if_icmp .ne 5, 3) := by decide +kernel
theorem dTx_readPartyAndKind_16 : decode zbTx_readPartyAndKind 16 = .ok (.iconst 0, 1) := by decide +kernel
theorem dTx_readPartyAndKind_17 : decode zbTx_readPartyAndKind 17 = .ok (.ireturn, 1) := by decide +kernel
theorem dTx_readPartyAndKind_18 : decode zbTx_readPartyAndKind 18 = .ok (.aload_n 0, 1) := by decide +kernel
theorem dTx_readPartyAndKind_19 : decode zbTx_readPartyAndKind 19 = .ok (.aload_n 0, 1) := by decide +kernel
theorem dTx_readPartyAndKind_20 : decode zbTx_readPartyAndKind 20 = .ok (.invokevirtual 79, 3) := by decide +kernel
theorem dTx_readPartyAndKind_23 : decode zbTx_readPartyAndKind 23 = .ok (.putfield 25, 3) := by decide +kernel
theorem dTx_readPartyAndKind_26 : decode zbTx_readPartyAndKind 26 = .ok (.aload_n 0, 1) := by decide +kernel
theorem dTx_readPartyAndKind_27 : decode zbTx_readPartyAndKind 27 = .ok (.getfield 25, 3) := by decide +kernel
theorem dTx_readPartyAndKind_30 : decode zbTx_readPartyAndKind 30 = .ok (.iconst (-1), 1) := by decide +kernel
theorem dTx_readPartyAndKind_31 : decode zbTx_readPartyAndKind 31 = .ok (.if_icmp .eq 7, 3) := by decide +kernel
theorem dTx_readPartyAndKind_34 : decode zbTx_readPartyAndKind 34 = .ok (.iconst 1, 1) := by decide +kernel
theorem dTx_readPartyAndKind_35 : decode zbTx_readPartyAndKind 35 = .ok (.goto 4, 3) := by decide +kernel
theorem dTx_readPartyAndKind_38 : decode zbTx_readPartyAndKind 38 = .ok (.iconst 0, 1) := by decide +kernel
theorem dTx_readPartyAndKind_39 : decode zbTx_readPartyAndKind 39 = .ok (.ireturn, 1) := by decide +kernel
theorem dTx_readDigit_0 : decode zbTx_readDigit 0 = .ok (.aload_n 0, 1) := by decide +kernel
theorem dTx_readDigit_1 : decode zbTx_readDigit 1 = .ok (.aload_n 0, 1) := by decide +kernel
theorem dTx_readDigit_2 : decode zbTx_readDigit 2 = .ok (.invokevirtual 85, 3) := by decide +kernel
theorem dTx_readDigit_5 : decode zbTx_readDigit 5 = .ok (.putfield 28, 3) := by decide +kernel
theorem dTx_readDigit_8 : decode zbTx_readDigit 8 = .ok (.aload_n 0, 1) := by decide +kernel
theorem dTx_readDigit_9 : decode zbTx_readDigit 9 = .ok (.getfield 28, 3) := by decide +kernel
theorem dTx_readDigit_12 : decode zbTx_readDigit 12 = .ok (.iconst (-1), 1) := by decide +kernel
theorem dTx_readDigit_13 : decode zbTx_readDigit 13 = .ok (.if_icmp .eq 7, 3) := by decide +kernel
theorem dTx_readDigit_16 : decode zbTx_readDigit 16 = .ok (.iconst 1, 1) := by decide +kernel
theorem dTx_readDigit_17 : decode zbTx_readDigit 17 = .ok (.goto 4, 3) := by decide +kernel
theorem dTx_readDigit_20 : decode zbTx_readDigit 20 = .ok (.iconst 0, 1) := by decide +kernel
theorem dTx_readDigit_21 : decode zbTx_readDigit 21 = .ok (.ireturn, 1) := by decide +kernel
theorem dTx_isNext_0 : decode zbTx_isNext 0 = .ok (.aload_n 0, 1) := by decide +kernel
theorem dTx_isNext_1 : decode zbTx_isNext 1 = .ok (.getfield 19, 3) := by decide +kernel
theorem dTx_isNext_4 : decode zbTx_isNext 4 = .ok (.aload_n 0, 1) := by decide +kernel
theorem dTx_isNext_5 : decode zbTx_isNext 5 = .ok (.getfield 15, 3) := by decide +kernel
theorem dTx_isNext_8 : decode zbTx_isNext 8 = .ok (.if_icmp .ge 20, 3) := by decide +kernel
theorem dTx_isNext_11 : decode zbTx_isNext 11 = .ok (.aload_n 0, 1) := by decide +kernel
theorem dTx_isNext_12 : decode zbTx_isNext 12 = .ok (.getfield 9, 3) := by decide +kernel
theorem dTx_isNext_15 : decode zbTx_isNext 15 = .ok (.aload_n 0, 1) := by decide +kernel
theorem dTx_isNext_16 : decode zbTx_isNext 16 = .ok (.getfield 19, 3) := by decide +kernel
theorem dTx_isNext_19 : decode zbTx_isNext 19 = .ok (.caload, 1) := by decide +kernel
theorem dTx_isNext_20 : decode zbTx_isNext 20 = .ok (.iload_n 1, 1) := by decide +kernel
theorem dTx_isNext_21 : decode zbTx_isNext 21 = .ok (.if_icmp .ne 7, 3) := by decide +kernel
theorem dTx_isNext_24 : decode zbTx_isNext 24 = .ok (.iconst 1, 1) := by decide +kernel
theorem dTx_isNext_25 : decode zbTx_isNext 25 = .ok (.goto 4, 3) := by decide +kernel
theorem dTx_isNext_28 : decode zbTx_isNext 28 = .ok (.iconst 0, 1) := by decide +kernel
theorem dTx_isNext_29 : decode zbTx_isNext 29 = .ok (.ireturn, 1) := by decide +kernel
theorem dTx_takes_0 : decode zbTx_takes 0 = .ok (.aload_n 0, 1) := by decide +kernel
theorem dTx_takes_1 : decode zbTx_takes 1 = .ok (.iload_n 1, 1) := by decide +kernel
theorem dTx_takes_2 : decode zbTx_takes 2 = .ok (.invokevirtual 130, 3) := by decide +kernel
theorem dTx_takes_5 : decode zbTx_takes 5 = .ok (.ifCond .ne 5, 3) := by decide +kernel
theorem dTx_takes_8 : decode zbTx_takes 8 = .ok (.iconst 0, 1) := by decide +kernel
theorem dTx_takes_9 : decode zbTx_takes 9 = .ok (.ireturn, 1) := by decide +kernel
theorem dTx_takes_10 : decode zbTx_takes 10 = .ok (.aload_n 0, 1) := by decide +kernel
theorem dTx_takes_11 : decode zbTx_takes 11 = .ok (.dup, 1) := by decide +kernel
theorem dTx_takes_12 : decode zbTx_takes 12 = .ok (.getfield 19, 3) := by decide +kernel
theorem dTx_takes_15 : decode zbTx_takes 15 = .ok (.iconst 1, 1) := by decide +kernel
theorem dTx_takes_16 : decode zbTx_takes 16 = .ok (.iadd, 1) := by decide +kernel
theorem dTx_takes_17 : decode zbTx_takes 17 = .ok (.putfield 19, 3) := by decide +kernel
theorem dTx_takes_20 : decode zbTx_takes 20 = .ok (.iconst 1, 1) := by decide +kernel
theorem dTx_takes_21 : decode zbTx_takes 21 = .ok (.ireturn, 1) := by decide +kernel
theorem dTx_takeParty_0 : decode zbTx_takeParty 0 = .ok (.aload_n 0, 1) := by decide +kernel
theorem dTx_takeParty_1 : decode zbTx_takeParty 1 = .ok (.bipush 65, 2) := by decide +kernel
theorem dTx_takeParty_3 : decode zbTx_takeParty 3 = .ok (.iconst 3, 1) := by decide +kernel
theorem dTx_takeParty_4 : decode zbTx_takeParty 4 = .ok (.invokevirtual 133, 3) := by decide +kernel
theorem dTx_takeParty_7 : decode zbTx_takeParty 7 = .ok (.ireturn, 1) := by decide +kernel
theorem dTx_takeKind_0 : decode zbTx_takeKind 0 = .ok (.aload_n 0, 1) := by decide +kernel
theorem dTx_takeKind_1 : decode zbTx_takeKind 1 = .ok (.bipush 97, 2) := by decide +kernel
theorem dTx_takeKind_3 : decode zbTx_takeKind 3 = .ok (.iconst 5, 1) := by decide +kernel
theorem dTx_takeKind_4 : decode zbTx_takeKind 4 = .ok (.invokevirtual 133, 3) := by decide +kernel
theorem dTx_takeKind_7 : decode zbTx_takeKind 7 = .ok (.ireturn, 1) := by decide +kernel
theorem dTx_takeDigit_0 : decode zbTx_takeDigit 0 = .ok (.aload_n 0, 1) := by decide +kernel
theorem dTx_takeDigit_1 : decode zbTx_takeDigit 1 = .ok (.bipush 48, 2) := by decide +kernel
theorem dTx_takeDigit_3 : decode zbTx_takeDigit 3 = .ok (.bipush 10, 2) := by decide +kernel
theorem dTx_takeDigit_5 : decode zbTx_takeDigit 5 = .ok (.invokevirtual 133, 3) := by decide +kernel
theorem dTx_takeDigit_8 : decode zbTx_takeDigit 8 = .ok (.ireturn, 1) := by decide +kernel
theorem dTx_takeFrom_0 : decode zbTx_takeFrom 0 = .ok (.aload_n 0, 1) := by decide +kernel
theorem dTx_takeFrom_1 : decode zbTx_takeFrom 1 = .ok (.getfield 19, 3) := by decide +kernel
theorem dTx_takeFrom_4 : decode zbTx_takeFrom 4 = .ok (.aload_n 0, 1) := by decide +kernel
theorem dTx_takeFrom_5 : decode zbTx_takeFrom 5 = .ok (.getfield 15, 3) := by decide +kernel
theorem dTx_takeFrom_8 : decode zbTx_takeFrom 8 = .ok (.if_icmp .ge 31, 3) := by decide +kernel
theorem dTx_takeFrom_11 : decode zbTx_takeFrom 11 = .ok (.aload_n 0, 1) := by decide +kernel
theorem dTx_takeFrom_12 : decode zbTx_takeFrom 12 = .ok (.getfield 9, 3) := by decide +kernel
theorem dTx_takeFrom_15 : decode zbTx_takeFrom 15 = .ok (.aload_n 0, 1) := by decide +kernel
theorem dTx_takeFrom_16 : decode zbTx_takeFrom 16 = .ok (.getfield 19, 3) := by decide +kernel
theorem dTx_takeFrom_19 : decode zbTx_takeFrom 19 = .ok (.caload, 1) := by decide +kernel
theorem dTx_takeFrom_20 : decode zbTx_takeFrom 20 = .ok (.iload_n 1, 1) := by decide +kernel
theorem dTx_takeFrom_21 : decode zbTx_takeFrom 21 = .ok (.if_icmp .lt 18, 3) := by decide +kernel
theorem dTx_takeFrom_24 : decode zbTx_takeFrom 24 = .ok (.aload_n 0, 1) := by decide +kernel
theorem dTx_takeFrom_25 : decode zbTx_takeFrom 25 = .ok (.getfield 9, 3) := by decide +kernel
theorem dTx_takeFrom_28 : decode zbTx_takeFrom 28 = .ok (.aload_n 0, 1) := by decide +kernel
theorem dTx_takeFrom_29 : decode zbTx_takeFrom 29 = .ok (.getfield 19, 3) := by decide +kernel
theorem dTx_takeFrom_32 : decode zbTx_takeFrom 32 = .ok (.caload, 1) := by decide +kernel
theorem dTx_takeFrom_33 : decode zbTx_takeFrom 33 = .ok (.iload_n 1, 1) := by decide +kernel
theorem dTx_takeFrom_34 : decode zbTx_takeFrom 34 = .ok (.iload_n 2, 1) := by decide +kernel
theorem dTx_takeFrom_35 : decode zbTx_takeFrom 35 = .ok (.iadd, 1) := by decide +kernel
theorem dTx_takeFrom_36 : decode zbTx_takeFrom 36 = .ok (.if_icmp .lt 5, 3) := by decide +kernel
theorem dTx_takeFrom_39 : decode zbTx_takeFrom 39 = .ok (.iconst (-1), 1) := by decide +kernel
theorem dTx_takeFrom_40 : decode zbTx_takeFrom 40 = .ok (.ireturn, 1) := by decide +kernel
theorem dTx_takeFrom_41 : decode zbTx_takeFrom 41 = .ok (.aload_n 0, 1) := by decide +kernel
theorem dTx_takeFrom_42 : decode zbTx_takeFrom 42 = .ok (.getfield 9, 3) := by decide +kernel
theorem dTx_takeFrom_45 : decode zbTx_takeFrom 45 = .ok (.aload_n 0, 1) := by decide +kernel
theorem dTx_takeFrom_46 : decode zbTx_takeFrom 46 = .ok (.getfield 19, 3) := by decide +kernel
theorem dTx_takeFrom_49 : decode zbTx_takeFrom 49 = .ok (.caload, 1) := by decide +kernel
theorem dTx_takeFrom_50 : decode zbTx_takeFrom 50 = .ok (.iload_n 1, 1) := by decide +kernel
theorem dTx_takeFrom_51 : decode zbTx_takeFrom 51 = .ok (.isub, 1) := by decide +kernel
theorem dTx_takeFrom_52 : decode zbTx_takeFrom 52 = .ok (.istore_n 3, 1) := by decide +kernel
theorem dTx_takeFrom_53 : decode zbTx_takeFrom 53 = .ok (.aload_n 0, 1) := by decide +kernel
theorem dTx_takeFrom_54 : decode zbTx_takeFrom 54 = .ok (.dup, 1) := by decide +kernel
theorem dTx_takeFrom_55 : decode zbTx_takeFrom 55 = .ok (.getfield 19, 3) := by decide +kernel
theorem dTx_takeFrom_58 : decode zbTx_takeFrom 58 = .ok (.iconst 1, 1) := by decide +kernel
theorem dTx_takeFrom_59 : decode zbTx_takeFrom 59 = .ok (.iadd, 1) := by decide +kernel
theorem dTx_takeFrom_60 : decode zbTx_takeFrom 60 = .ok (.putfield 19, 3) := by decide +kernel
theorem dTx_takeFrom_63 : decode zbTx_takeFrom 63 = .ok (.iload_n 3, 1) := by decide +kernel
theorem dTx_takeFrom_64 : decode zbTx_takeFrom 64 = .ok (.ireturn, 1) := by decide +kernel
theorem dLw_begin_0 : decode zbLw_begin 0 = .ok (.aload_n 1, 1) := by decide +kernel
theorem dLw_begin_1 : decode zbLw_begin 1 = .ok (.iconst 0, 1) := by decide +kernel
theorem dLw_begin_2 : decode zbLw_begin 2 = .ok (.aload_n 0, 1) := by decide +kernel
theorem dLw_begin_3 : decode zbLw_begin 3 = .ok (.invokevirtual 7, 3) := by decide +kernel
theorem dLw_begin_6 : decode zbLw_begin 6 = .ok (.i2l, 1) := by decide +kernel
theorem dLw_begin_7 : decode zbLw_begin 7 = .ok (.lastore, 1) := by decide +kernel
theorem dLw_begin_8 : decode zbLw_begin 8 = .ok (.goto 9, 3) := by decide +kernel
theorem dLw_begin_11 : decode zbLw_begin 11 = .ok (.astore_n 2, 1) := by decide +kernel
theorem dLw_begin_12 : decode zbLw_begin 12 = .ok (.iconst 1, 1) := by decide +kernel
theorem dLw_begin_13 : decode zbLw_begin 13 = .ok (.ireturn, 1) := by decide +kernel
theorem dLw_begin_14 : decode zbLw_begin 14 = .ok (.astore_n 2, 1) := by decide +kernel
theorem dLw_begin_15 : decode zbLw_begin 15 = .ok (.iconst 2, 1) := by decide +kernel
theorem dLw_begin_16 : decode zbLw_begin 16 = .ok (.ireturn, 1) := by decide +kernel
theorem dLw_begin_17 : decode zbLw_begin 17 = .ok (.iconst 0, 1) := by decide +kernel
theorem dLw_begin_18 : decode zbLw_begin 18 = .ok (.ireturn, 1) := by decide +kernel
theorem dLw_event_0 : decode zbLw_event 0 = .ok (.aload_n 3, 1) := by decide +kernel
theorem dLw_event_1 : decode zbLw_event 1 = .ok (.iconst 0, 1) := by decide +kernel
theorem dLw_event_2 : decode zbLw_event 2 = .ok (.aload_n 0, 1) := by decide +kernel
theorem dLw_event_3 : decode zbLw_event 3 = .ok (.iload_n 1, 1) := by decide +kernel
theorem dLw_event_4 : decode zbLw_event 4 = .ok (.iload_n 2, 1) := by decide +kernel
theorem dLw_event_5 : decode zbLw_event 5 = .ok (.invokevirtual 17, 3) := by decide +kernel
theorem dLw_event_8 : decode zbLw_event 8 = .ok (.i2l, 1) := by decide +kernel
theorem dLw_event_9 : decode zbLw_event 9 = .ok (.lastore, 1) := by decide +kernel
theorem dLw_event_10 : decode zbLw_event 10 = .ok (.goto 15, 3) := by decide +kernel
theorem dLw_event_13 : decode zbLw_event 13 = .ok (.astore 4, 2) := by decide +kernel
theorem dLw_event_15 : decode zbLw_event 15 = .ok (.iconst 1, 1) := by decide +kernel
theorem dLw_event_16 : decode zbLw_event 16 = .ok (.ireturn, 1) := by decide +kernel
theorem dLw_event_17 : decode zbLw_event 17 = .ok (.astore 4, 2) := by decide +kernel
theorem dLw_event_19 : decode zbLw_event 19 = .ok (.iconst 2, 1) := by decide +kernel
theorem dLw_event_20 : decode zbLw_event 20 = .ok (.ireturn, 1) := by decide +kernel
theorem dLw_event_21 : decode zbLw_event 21 = .ok (.astore 4, 2) := by decide +kernel
theorem dLw_event_23 : decode zbLw_event 23 = .ok (.iconst 3, 1) := by decide +kernel
theorem dLw_event_24 : decode zbLw_event 24 = .ok (.ireturn, 1) := by decide +kernel
theorem dLw_event_25 : decode zbLw_event 25 = .ok (.iconst 0, 1) := by decide +kernel
theorem dLw_event_26 : decode zbLw_event 26 = .ok (.ireturn, 1) := by decide +kernel
theorem dLw_nextDay_0 : decode zbLw_nextDay 0 = .ok (.aload_n 1, 1) := by decide +kernel
theorem dLw_nextDay_1 : decode zbLw_nextDay 1 = .ok (.iconst 0, 1) := by decide +kernel
theorem dLw_nextDay_2 : decode zbLw_nextDay 2 = .ok (.aload_n 0, 1) := by decide +kernel
theorem dLw_nextDay_3 : decode zbLw_nextDay 3 = .ok (.invokevirtual 23, 3) := by decide +kernel
theorem dLw_nextDay_6 : decode zbLw_nextDay 6 = .ok (.i2l, 1) := by decide +kernel
theorem dLw_nextDay_7 : decode zbLw_nextDay 7 = .ok (.lastore, 1) := by decide +kernel
theorem dLw_nextDay_8 : decode zbLw_nextDay 8 = .ok (.goto 9, 3) := by decide +kernel
theorem dLw_nextDay_11 : decode zbLw_nextDay 11 = .ok (.astore_n 2, 1) := by decide +kernel
theorem dLw_nextDay_12 : decode zbLw_nextDay 12 = .ok (.iconst 1, 1) := by decide +kernel
theorem dLw_nextDay_13 : decode zbLw_nextDay 13 = .ok (.ireturn, 1) := by decide +kernel
theorem dLw_nextDay_14 : decode zbLw_nextDay 14 = .ok (.astore_n 2, 1) := by decide +kernel
theorem dLw_nextDay_15 : decode zbLw_nextDay 15 = .ok (.iconst 2, 1) := by decide +kernel
theorem dLw_nextDay_16 : decode zbLw_nextDay 16 = .ok (.ireturn, 1) := by decide +kernel
theorem dLw_nextDay_17 : decode zbLw_nextDay 17 = .ok (.iconst 0, 1) := by decide +kernel
theorem dLw_nextDay_18 : decode zbLw_nextDay 18 = .ok (.ireturn, 1) := by decide +kernel
theorem dLw_course_0 : decode zbLw_course 0 = .ok (.aload_n 3, 1) := by decide +kernel
theorem dLw_course_1 : decode zbLw_course 1 = .ok (.iconst 0, 1) := by decide +kernel
theorem dLw_course_2 : decode zbLw_course 2 = .ok (.aload_n 0, 1) := by decide +kernel
theorem dLw_course_3 : decode zbLw_course 3 = .ok (.iload_n 1, 1) := by decide +kernel
theorem dLw_course_4 : decode zbLw_course 4 = .ok (.iload_n 2, 1) := by decide +kernel
theorem dLw_course_5 : decode zbLw_course 5 = .ok (.invokevirtual 26, 3) := by decide +kernel
theorem dLw_course_8 : decode zbLw_course 8 = .ok (.i2l, 1) := by decide +kernel
theorem dLw_course_9 : decode zbLw_course 9 = .ok (.lastore, 1) := by decide +kernel
theorem dLw_course_10 : decode zbLw_course 10 = .ok (.goto 11, 3) := by decide +kernel
theorem dLw_course_13 : decode zbLw_course 13 = .ok (.astore 4, 2) := by decide +kernel
theorem dLw_course_15 : decode zbLw_course 15 = .ok (.iconst 1, 1) := by decide +kernel
theorem dLw_course_16 : decode zbLw_course 16 = .ok (.ireturn, 1) := by decide +kernel
theorem dLw_course_17 : decode zbLw_course 17 = .ok (.astore 4, 2) := by decide +kernel
theorem dLw_course_19 : decode zbLw_course 19 = .ok (.iconst 2, 1) := by decide +kernel
theorem dLw_course_20 : decode zbLw_course 20 = .ok (.ireturn, 1) := by decide +kernel
theorem dLw_course_21 : decode zbLw_course 21 = .ok (.iconst 0, 1) := by decide +kernel
theorem dLw_course_22 : decode zbLw_course 22 = .ok (.ireturn, 1) := by decide +kernel
theorem dLw_threat_0 : decode zbLw_threat 0 = .ok (.aload_n 3, 1) := by decide +kernel
theorem dLw_threat_1 : decode zbLw_threat 1 = .ok (.iconst 0, 1) := by decide +kernel
theorem dLw_threat_2 : decode zbLw_threat 2 = .ok (.aload_n 0, 1) := by decide +kernel
theorem dLw_threat_3 : decode zbLw_threat 3 = .ok (.iload_n 1, 1) := by decide +kernel
theorem dLw_threat_4 : decode zbLw_threat 4 = .ok (.iload_n 2, 1) := by decide +kernel
theorem dLw_threat_5 : decode zbLw_threat 5 = .ok (.invokevirtual 29, 3) := by decide +kernel
theorem dLw_threat_8 : decode zbLw_threat 8 = .ok (.i2l, 1) := by decide +kernel
theorem dLw_threat_9 : decode zbLw_threat 9 = .ok (.lastore, 1) := by decide +kernel
theorem dLw_threat_10 : decode zbLw_threat 10 = .ok (.goto 11, 3) := by decide +kernel
theorem dLw_threat_13 : decode zbLw_threat 13 = .ok (.astore 4, 2) := by decide +kernel
theorem dLw_threat_15 : decode zbLw_threat 15 = .ok (.iconst 1, 1) := by decide +kernel
theorem dLw_threat_16 : decode zbLw_threat 16 = .ok (.ireturn, 1) := by decide +kernel
theorem dLw_threat_17 : decode zbLw_threat 17 = .ok (.astore 4, 2) := by decide +kernel
theorem dLw_threat_19 : decode zbLw_threat 19 = .ok (.iconst 2, 1) := by decide +kernel
theorem dLw_threat_20 : decode zbLw_threat 20 = .ok (.ireturn, 1) := by decide +kernel
theorem dLw_threat_21 : decode zbLw_threat 21 = .ok (.iconst 0, 1) := by decide +kernel
theorem dLw_threat_22 : decode zbLw_threat 22 = .ok (.ireturn, 1) := by decide +kernel
theorem dLw_law_0 : decode zbLw_law 0 = .ok (.new 8, 3) := by decide +kernel
theorem dLw_law_3 : decode zbLw_law 3 = .ok (.dup, 1) := by decide +kernel
theorem dLw_law_4 : decode zbLw_law 4 = .ok (.invokespecial 32, 3) := by decide +kernel
theorem dLw_law_7 : decode zbLw_law 7 = .ok (.astore_n 1, 1) := by decide +kernel
theorem dLw_law_8 : decode zbLw_law 8 = .ok (.new 33, 3) := by decide +kernel
theorem dLw_law_11 : decode zbLw_law 11 = .ok (.dup, 1) := by decide +kernel
theorem dLw_law_12 : decode zbLw_law 12 = .ok (.invokespecial 35, 3) := by decide +kernel
theorem dLw_law_15 : decode zbLw_law 15 = .ok (.astore_n 2, 1) := by decide +kernel
theorem dLw_law_16 : decode zbLw_law 16 = .ok (.iconst 1, 1) := by decide +kernel
theorem dLw_law_17 : decode zbLw_law 17 = .ok (.newarray .long, 2) := by decide +kernel
theorem dLw_law_19 : decode zbLw_law 19 = .ok (.astore_n 3, 1) := by decide +kernel
theorem dLw_law_20 : decode zbLw_law 20 = .ok (.iconst 0, 1) := by decide +kernel
theorem dLw_law_21 : decode zbLw_law 21 = .ok (.istore 4, 2) := by decide +kernel
theorem dLw_law_23 : decode zbLw_law 23 = .ok (.iload 4, 2) := by decide +kernel
theorem dLw_law_25 : decode zbLw_law 25 = .ok (.aload_n 0, 1) := by decide +kernel
theorem dLw_law_26 : decode zbLw_law 26 = .ok (.arraylength, 1) := by decide +kernel
theorem dLw_law_27 : decode zbLw_law 27 = .ok (.iconst 3, 1) := by decide +kernel
theorem dLw_law_28 : decode zbLw_law 28 = .ok (.isub, 1) := by decide +kernel
theorem dLw_law_29 : decode zbLw_law 29 = .ok (.if_icmp .gt 685, 3) := by decide +kernel
theorem dLw_law_32 : decode zbLw_law 32 = .ok (.aload_n 0, 1) := by decide +kernel
theorem dLw_law_33 : decode zbLw_law 33 = .ok (.iload 4, 2) := by decide +kernel
theorem dLw_law_35 : decode zbLw_law 35 = .ok (.iaload, 1) := by decide +kernel
theorem dLw_law_36 : decode zbLw_law 36 = .ok (.bipush 31, 2) := by decide +kernel
theorem dLw_law_38 : decode zbLw_law 38 = .ok (.iand, 1) := by decide +kernel
theorem dLw_law_39 : decode zbLw_law 39 = .ok (.tableswitch 669 0 16 #[81, 138, 151, 176, 220, 233, 246, 314, 358, 371, 384, 409, 434, 459, 496, 533, 601], 81) := by decide +kernel
theorem dLw_law_120 : decode zbLw_law 120 = .ok (.aload_n 1, 1) := by decide +kernel
theorem dLw_law_121 : decode zbLw_law 121 = .ok (.aload_n 0, 1) := by decide +kernel
theorem dLw_law_122 : decode zbLw_law 122 = .ok (.iload 4, 2) := by decide +kernel
theorem dLw_law_124 : decode zbLw_law 124 = .ok (.iconst 1, 1) := by decide +kernel
theorem dLw_law_125 : decode zbLw_law 125 = .ok (.iadd, 1) := by decide +kernel
theorem dLw_law_126 : decode zbLw_law 126 = .ok (.iaload, 1) := by decide +kernel
theorem dLw_law_127 : decode zbLw_law 127 = .ok (.i2l, 1) := by decide +kernel
theorem dLw_law_128 : decode zbLw_law 128 = .ok (.bipush 32, 2) := by decide +kernel
theorem dLw_law_130 : decode zbLw_law 130 = .ok (.lshl, 1) := by decide +kernel
theorem dLw_law_131 : decode zbLw_law 131 = .ok (.aload_n 0, 1) := by decide +kernel
theorem dLw_law_132 : decode zbLw_law 132 = .ok (.iload 4, 2) := by decide +kernel
theorem dLw_law_134 : decode zbLw_law 134 = .ok (.iconst 2, 1) := by decide +kernel
theorem dLw_law_135 : decode zbLw_law 135 = .ok (.iadd, 1) := by decide +kernel
theorem dLw_law_136 : decode zbLw_law 136 = .ok (.iaload, 1) := by decide +kernel
theorem dLw_law_137 : decode zbLw_law 137 = .ok (.i2l, 1) := by decide +kernel
theorem dLw_law_138 : decode zbLw_law 138 = .ok (.ldc2_w 36, 3) := by decide +kernel
theorem dLw_law_141 : decode zbLw_law 141 = .ok (.land, 1) := by decide +kernel
theorem dLw_law_142 : decode zbLw_law 142 = .ok (.lor, 1) := by decide +kernel
theorem dLw_law_143 : decode zbLw_law 143 = .ok (.invokevirtual 38, 3) := by decide +kernel
theorem dLw_law_146 : decode zbLw_law 146 = .ok (.aload_n 2, 1) := by decide +kernel
theorem dLw_law_147 : decode zbLw_law 147 = .ok (.aload_n 0, 1) := by decide +kernel
theorem dLw_law_148 : decode zbLw_law 148 = .ok (.iload 4, 2) := by decide +kernel
theorem dLw_law_150 : decode zbLw_law 150 = .ok (.iconst 1, 1) := by decide +kernel
theorem dLw_law_151 : decode zbLw_law 151 = .ok (.iadd, 1) := by decide +kernel
theorem dLw_law_152 : decode zbLw_law 152 = .ok (.iaload, 1) := by decide +kernel
theorem dLw_law_153 : decode zbLw_law 153 = .ok (.i2l, 1) := by decide +kernel
theorem dLw_law_154 : decode zbLw_law 154 = .ok (.bipush 32, 2) := by decide +kernel
theorem dLw_law_156 : decode zbLw_law 156 = .ok (.lshl, 1) := by decide +kernel
theorem dLw_law_157 : decode zbLw_law 157 = .ok (.aload_n 0, 1) := by decide +kernel
theorem dLw_law_158 : decode zbLw_law 158 = .ok (.iload 4, 2) := by decide +kernel
theorem dLw_law_160 : decode zbLw_law 160 = .ok (.iconst 2, 1) := by decide +kernel
theorem dLw_law_161 : decode zbLw_law 161 = .ok (.iadd, 1) := by decide +kernel
theorem dLw_law_162 : decode zbLw_law 162 = .ok (.iaload, 1) := by decide +kernel
theorem dLw_law_163 : decode zbLw_law 163 = .ok (.i2l, 1) := by decide +kernel
theorem dLw_law_164 : decode zbLw_law 164 = .ok (.ldc2_w 36, 3) := by decide +kernel
theorem dLw_law_167 : decode zbLw_law 167 = .ok (.land, 1) := by decide +kernel
theorem dLw_law_168 : decode zbLw_law 168 = .ok (.lor, 1) := by decide +kernel
theorem dLw_law_169 : decode zbLw_law 169 = .ok (.invokevirtual 42, 3) := by decide +kernel
theorem dLw_law_172 : decode zbLw_law 172 = .ok (.if_icmp .eq 536, 3) := by decide +kernel
theorem dLw_law_175 : decode zbLw_law 175 = .ok (.iconst 0, 1) := by decide +kernel
theorem dLw_law_176 : decode zbLw_law 176 = .ok (.ireturn, 1) := by decide +kernel
theorem dLw_law_177 : decode zbLw_law 177 = .ok (.aload_n 1, 1) := by decide +kernel
theorem dLw_law_178 : decode zbLw_law 178 = .ok (.invokevirtual 43, 3) := by decide +kernel
theorem dLw_law_181 : decode zbLw_law 181 = .ok (.aload_n 2, 1) := by decide +kernel
theorem dLw_law_182 : decode zbLw_law 182 = .ok (.invokevirtual 46, 3) := by decide +kernel
theorem dLw_law_185 : decode zbLw_law 185 = .ok (.if_icmp .eq 523, 3) := by decide +kernel
theorem dLw_law_188 : decode zbLw_law 188 = .ok (.iconst 0, 1) := by decide +kernel
theorem dLw_law_189 : decode zbLw_law 189 = .ok (.ireturn, 1) := by decide +kernel
theorem dLw_law_190 : decode zbLw_law 190 = .ok (.aload_n 1, 1) := by decide +kernel
theorem dLw_law_191 : decode zbLw_law 191 = .ok (.aload_n 0, 1) := by decide +kernel
theorem dLw_law_192 : decode zbLw_law 192 = .ok (.iload 4, 2) := by decide +kernel
theorem dLw_law_194 : decode zbLw_law 194 = .ok (.iconst 1, 1) := by decide +kernel
theorem dLw_law_195 : decode zbLw_law 195 = .ok (.iadd, 1) := by decide +kernel
theorem dLw_law_196 : decode zbLw_law 196 = .ok (.iaload, 1) := by decide +kernel
theorem dLw_law_197 : decode zbLw_law 197 = .ok (.invokevirtual 47, 3) := by decide +kernel
theorem dLw_law_200 : decode zbLw_law 200 = .ok (.aload_n 2, 1) := by decide +kernel
theorem dLw_law_201 : decode zbLw_law 201 = .ok (.aload_n 0, 1) := by decide +kernel
theorem dLw_law_202 : decode zbLw_law 202 = .ok (.iload 4, 2) := by decide +kernel
theorem dLw_law_204 : decode zbLw_law 204 = .ok (.iconst 1, 1) := by decide +kernel
theorem dLw_law_205 : decode zbLw_law 205 = .ok (.iadd, 1) := by decide +kernel
theorem dLw_law_206 : decode zbLw_law 206 = .ok (.iaload, 1) := by decide +kernel
theorem dLw_law_207 : decode zbLw_law 207 = .ok (.invokevirtual 51, 3) := by decide +kernel
theorem dLw_law_210 : decode zbLw_law 210 = .ok (.if_icmp .eq 498, 3) := by decide +kernel
theorem dLw_law_213 : decode zbLw_law 213 = .ok (.iconst 0, 1) := by decide +kernel
theorem dLw_law_214 : decode zbLw_law 214 = .ok (.ireturn, 1) := by decide +kernel
theorem dLw_law_215 : decode zbLw_law 215 = .ok (.aload_n 1, 1) := by decide +kernel
theorem dLw_law_216 : decode zbLw_law 216 = .ok (.aload_n 3, 1) := by decide +kernel
theorem dLw_law_217 : decode zbLw_law 217 = .ok (.invokestatic 52, 3) := by decide +kernel
theorem dLw_law_220 : decode zbLw_law 220 = .ok (.istore 5, 2) := by decide +kernel
theorem dLw_law_222 : decode zbLw_law 222 = .ok (.aload_n 2, 1) := by decide +kernel
theorem dLw_law_223 : decode zbLw_law 223 = .ok (.invokevirtual 57, 3) := by decide +kernel
theorem dLw_law_226 : decode zbLw_law 226 = .ok (.istore 6, 2) := by decide +kernel
theorem dLw_law_228 : decode zbLw_law 228 = .ok (.aload_n 2, 1) := by decide +kernel
theorem dLw_law_229 : decode zbLw_law 229 = .ok (.invokevirtual 58, 3) := by decide +kernel
theorem dLw_law_232 : decode zbLw_law 232 = .ok (.iload 5, 2) := by decide +kernel
theorem dLw_law_234 : decode zbLw_law 234 = .ok (.if_icmp .eq 5, 3) := by decide +kernel
theorem dLw_law_237 : decode zbLw_law 237 = .ok (.iconst 0, 1) := by decide +kernel
theorem dLw_law_238 : decode zbLw_law 238 = .ok (.ireturn, 1) := by decide +kernel
theorem dLw_law_239 : decode zbLw_law 239 = .ok (.iload 5, 2) := by decide +kernel
theorem dLw_law_241 : decode zbLw_law 241 = .ok (.ifCond .ne 15, 3) := by decide +kernel
theorem dLw_law_244 : decode zbLw_law 244 = .ok (.aload_n 3, 1) := by decide +kernel
theorem dLw_law_245 : decode zbLw_law 245 = .ok (.iconst 0, 1) := by decide +kernel
theorem dLw_law_246 : decode zbLw_law 246 = .ok (.laload, 1) := by decide +kernel
theorem dLw_law_247 : decode zbLw_law 247 = .ok (.iload 6, 2) := by decide +kernel
theorem dLw_law_249 : decode zbLw_law 249 = .ok (.i2l, 1) := by decide +kernel
theorem dLw_law_250 : decode zbLw_law 250 = .ok (.lcmp, 1) := by decide +kernel
theorem dLw_law_251 : decode zbLw_law 251 = .ok (.ifCond .eq 5, 3) := by decide +kernel
theorem dLw_law_254 : decode zbLw_law 254 = .ok (.iconst 0, 1) := by decide +kernel
theorem dLw_law_255 : decode zbLw_law 255 = .ok (.ireturn, 1) := by decide +kernel
theorem dLw_law_256 : decode zbLw_law 256 = .ok (.goto 452, 3) := by decide +kernel
theorem dLw_law_259 : decode zbLw_law 259 = .ok (.aload_n 1, 1) := by decide +kernel
theorem dLw_law_260 : decode zbLw_law 260 = .ok (.invokevirtual 61, 3) := by decide +kernel
theorem dLw_law_263 : decode zbLw_law 263 = .ok (.aload_n 2, 1) := by decide +kernel
theorem dLw_law_264 : decode zbLw_law 264 = .ok (.invokevirtual 65, 3) := by decide +kernel
theorem dLw_law_267 : decode zbLw_law 267 = .ok (.if_icmp .eq 441, 3) := by decide +kernel
theorem dLw_law_270 : decode zbLw_law 270 = .ok (.iconst 0, 1) := by decide +kernel
theorem dLw_law_271 : decode zbLw_law 271 = .ok (.ireturn, 1) := by decide +kernel
theorem dLw_law_272 : decode zbLw_law 272 = .ok (.aload_n 1, 1) := by decide +kernel
theorem dLw_law_273 : decode zbLw_law 273 = .ok (.invokevirtual 66, 3) := by decide +kernel
theorem dLw_law_276 : decode zbLw_law 276 = .ok (.aload_n 2, 1) := by decide +kernel
theorem dLw_law_277 : decode zbLw_law 277 = .ok (.invokevirtual 69, 3) := by decide +kernel
theorem dLw_law_280 : decode zbLw_law 280 = .ok (.if_icmp .eq 428, 3) := by decide +kernel
theorem dLw_law_283 : decode zbLw_law 283 = .ok (.iconst 0, 1) := by decide +kernel
theorem dLw_law_284 : decode zbLw_law 284 = .ok (.ireturn, 1) := by decide +kernel
theorem dLw_law_285 : decode zbLw_law 285 = .ok (.aload_n 1, 1) := by decide +kernel
theorem dLw_law_286 : decode zbLw_law 286 = .ok (.aload_n 0, 1) := by decide +kernel
theorem dLw_law_287 : decode zbLw_law 287 = .ok (.iload 4, 2) := by decide +kernel
theorem dLw_law_289 : decode zbLw_law 289 = .ok (.iconst 1, 1) := by decide +kernel
theorem dLw_law_290 : decode zbLw_law 290 = .ok (.iadd, 1) := by decide +kernel
theorem dLw_law_291 : decode zbLw_law 291 = .ok (.iaload, 1) := by decide +kernel
theorem dLw_law_292 : decode zbLw_law 292 = .ok (.aload_n 0, 1) := by decide +kernel
theorem dLw_law_293 : decode zbLw_law 293 = .ok (.iload 4, 2) := by decide +kernel
theorem dLw_law_295 : decode zbLw_law 295 = .ok (.iconst 2, 1) := by decide +kernel
theorem dLw_law_296 : decode zbLw_law 296 = .ok (.iadd, 1) := by decide +kernel
theorem dLw_law_297 : decode zbLw_law 297 = .ok (.iaload, 1) := by decide +kernel
theorem dLw_law_298 : decode zbLw_law 298 = .ok (.aload_n 3, 1) := by decide +kernel
theorem dLw_law_299 : decode zbLw_law 299 = .ok (.invokestatic 70, 3) := by decide +kernel
theorem dLw_law_302 : decode zbLw_law 302 = .ok (.istore 5, 2) := by decide +kernel
theorem dLw_law_304 : decode zbLw_law 304 = .ok (.aload_n 2, 1) := by decide +kernel
theorem dLw_law_305 : decode zbLw_law 305 = .ok (.aload_n 0, 1) := by decide +kernel
theorem dLw_law_306 : decode zbLw_law 306 = .ok (.iload 4, 2) := by decide +kernel
theorem dLw_law_308 : decode zbLw_law 308 = .ok (.iconst 1, 1) := by decide +kernel
theorem dLw_law_309 : decode zbLw_law 309 = .ok (.iadd, 1) := by decide +kernel
theorem dLw_law_310 : decode zbLw_law 310 = .ok (.iaload, 1) := by decide +kernel
theorem dLw_law_311 : decode zbLw_law 311 = .ok (.aload_n 0, 1) := by decide +kernel
theorem dLw_law_312 : decode zbLw_law 312 = .ok (.iload 4, 2) := by decide +kernel
theorem dLw_law_314 : decode zbLw_law 314 = .ok (.iconst 2, 1) := by decide +kernel
theorem dLw_law_315 : decode zbLw_law 315 = .ok (.iadd, 1) := by decide +kernel
theorem dLw_law_316 : decode zbLw_law 316 = .ok (.iaload, 1) := by decide +kernel
theorem dLw_law_317 : decode zbLw_law 317 = .ok (.invokevirtual 73, 3) := by decide +kernel
theorem dLw_law_320 : decode zbLw_law 320 = .ok (.istore 6, 2) := by decide +kernel
theorem dLw_law_322 : decode zbLw_law 322 = .ok (.aload_n 2, 1) := by decide +kernel
theorem dLw_law_323 : decode zbLw_law 323 = .ok (.invokevirtual 58, 3) := by decide +kernel
theorem dLw_law_326 : decode zbLw_law 326 = .ok (.iload 5, 2) := by decide +kernel
theorem dLw_law_328 : decode zbLw_law 328 = .ok (.if_icmp .eq 5, 3) := by decide +kernel
theorem dLw_law_331 : decode zbLw_law 331 = .ok (.iconst 0, 1) := by decide +kernel
theorem dLw_law_332 : decode zbLw_law 332 = .ok (.ireturn, 1) := by decide +kernel
theorem dLw_law_333 : decode zbLw_law 333 = .ok (.iload 5, 2) := by decide +kernel
theorem dLw_law_335 : decode zbLw_law 335 = .ok (.ifCond .ne 15, 3) := by decide +kernel
theorem dLw_law_338 : decode zbLw_law 338 = .ok (.aload_n 3, 1) := by decide +kernel
theorem dLw_law_339 : decode zbLw_law 339 = .ok (.iconst 0, 1) := by decide +kernel
theorem dLw_law_340 : decode zbLw_law 340 = .ok (.laload, 1) := by decide +kernel
theorem dLw_law_341 : decode zbLw_law 341 = .ok (.iload 6, 2) := by decide +kernel
theorem dLw_law_343 : decode zbLw_law 343 = .ok (.i2l, 1) := by decide +kernel
theorem dLw_law_344 : decode zbLw_law 344 = .ok (.lcmp, 1) := by decide +kernel
theorem dLw_law_345 : decode zbLw_law 345 = .ok (.ifCond .eq 5, 3) := by decide +kernel
theorem dLw_law_348 : decode zbLw_law 348 = .ok (.iconst 0, 1) := by decide +kernel
theorem dLw_law_349 : decode zbLw_law 349 = .ok (.ireturn, 1) := by decide +kernel
theorem dLw_law_350 : decode zbLw_law 350 = .ok (.goto 358, 3) := by decide +kernel
theorem dLw_law_353 : decode zbLw_law 353 = .ok (.aload_n 1, 1) := by decide +kernel
theorem dLw_law_354 : decode zbLw_law 354 = .ok (.aload_n 3, 1) := by decide +kernel
theorem dLw_law_355 : decode zbLw_law 355 = .ok (.invokestatic 74, 3) := by decide +kernel
theorem dLw_law_358 : decode zbLw_law 358 = .ok (.istore 5, 2) := by decide +kernel
theorem dLw_law_360 : decode zbLw_law 360 = .ok (.aload_n 2, 1) := by decide +kernel
theorem dLw_law_361 : decode zbLw_law 361 = .ok (.invokevirtual 76, 3) := by decide +kernel
theorem dLw_law_364 : decode zbLw_law 364 = .ok (.istore 6, 2) := by decide +kernel
theorem dLw_law_366 : decode zbLw_law 366 = .ok (.aload_n 2, 1) := by decide +kernel
theorem dLw_law_367 : decode zbLw_law 367 = .ok (.invokevirtual 58, 3) := by decide +kernel
theorem dLw_law_370 : decode zbLw_law 370 = .ok (.iload 5, 2) := by decide +kernel
theorem dLw_law_372 : decode zbLw_law 372 = .ok (.if_icmp .eq 5, 3) := by decide +kernel
theorem dLw_law_375 : decode zbLw_law 375 = .ok (.iconst 0, 1) := by decide +kernel
theorem dLw_law_376 : decode zbLw_law 376 = .ok (.ireturn, 1) := by decide +kernel
theorem dLw_law_377 : decode zbLw_law 377 = .ok (.iload 5, 2) := by decide +kernel
theorem dLw_law_379 : decode zbLw_law 379 = .ok (.ifCond .ne 15, 3) := by decide +kernel
theorem dLw_law_382 : decode zbLw_law 382 = .ok (.aload_n 3, 1) := by decide +kernel
theorem dLw_law_383 : decode zbLw_law 383 = .ok (.iconst 0, 1) := by decide +kernel
theorem dLw_law_384 : decode zbLw_law 384 = .ok (.laload, 1) := by decide +kernel
theorem dLw_law_385 : decode zbLw_law 385 = .ok (.iload 6, 2) := by decide +kernel
theorem dLw_law_387 : decode zbLw_law 387 = .ok (.i2l, 1) := by decide +kernel
theorem dLw_law_388 : decode zbLw_law 388 = .ok (.lcmp, 1) := by decide +kernel
theorem dLw_law_389 : decode zbLw_law 389 = .ok (.ifCond .eq 5, 3) := by decide +kernel
theorem dLw_law_392 : decode zbLw_law 392 = .ok (.iconst 0, 1) := by decide +kernel
theorem dLw_law_393 : decode zbLw_law 393 = .ok (.ireturn, 1) := by decide +kernel
theorem dLw_law_394 : decode zbLw_law 394 = .ok (.goto 314, 3) := by decide +kernel
theorem dLw_law_397 : decode zbLw_law 397 = .ok (.aload_n 1, 1) := by decide +kernel
theorem dLw_law_398 : decode zbLw_law 398 = .ok (.invokevirtual 77, 3) := by decide +kernel
theorem dLw_law_401 : decode zbLw_law 401 = .ok (.aload_n 2, 1) := by decide +kernel
theorem dLw_law_402 : decode zbLw_law 402 = .ok (.invokevirtual 80, 3) := by decide +kernel
theorem dLw_law_405 : decode zbLw_law 405 = .ok (.if_icmp .eq 303, 3) := by decide +kernel
theorem dLw_law_408 : decode zbLw_law 408 = .ok (.iconst 0, 1) := by decide +kernel
theorem dLw_law_409 : decode zbLw_law 409 = .ok (.ireturn, 1) := by decide +kernel
theorem dLw_law_410 : decode zbLw_law 410 = .ok (.aload_n 1, 1) := by decide +kernel
theorem dLw_law_411 : decode zbLw_law 411 = .ok (.invokevirtual 81, 3) := by decide +kernel
theorem dLw_law_414 : decode zbLw_law 414 = .ok (.aload_n 2, 1) := by decide +kernel
theorem dLw_law_415 : decode zbLw_law 415 = .ok (.invokevirtual 84, 3) := by decide +kernel
theorem dLw_law_418 : decode zbLw_law 418 = .ok (.if_icmp .eq 290, 3) := by decide +kernel
theorem dLw_law_421 : decode zbLw_law 421 = .ok (.iconst 0, 1) := by decide +kernel
theorem dLw_law_422 : decode zbLw_law 422 = .ok (.ireturn, 1) := by decide +kernel
theorem dLw_law_423 : decode zbLw_law 423 = .ok (.aload_n 1, 1) := by decide +kernel
theorem dLw_law_424 : decode zbLw_law 424 = .ok (.aload_n 0, 1) := by decide +kernel
theorem dLw_law_425 : decode zbLw_law 425 = .ok (.iload 4, 2) := by decide +kernel
theorem dLw_law_427 : decode zbLw_law 427 = .ok (.iconst 1, 1) := by decide +kernel
theorem dLw_law_428 : decode zbLw_law 428 = .ok (.iadd, 1) := by decide +kernel
theorem dLw_law_429 : decode zbLw_law 429 = .ok (.iaload, 1) := by decide +kernel
theorem dLw_law_430 : decode zbLw_law 430 = .ok (.invokevirtual 85, 3) := by decide +kernel
theorem dLw_law_433 : decode zbLw_law 433 = .ok (.aload_n 2, 1) := by decide +kernel
theorem dLw_law_434 : decode zbLw_law 434 = .ok (.aload_n 0, 1) := by decide +kernel
theorem dLw_law_435 : decode zbLw_law 435 = .ok (.iload 4, 2) := by decide +kernel
theorem dLw_law_437 : decode zbLw_law 437 = .ok (.iconst 1, 1) := by decide +kernel
theorem dLw_law_438 : decode zbLw_law 438 = .ok (.iadd, 1) := by decide +kernel
theorem dLw_law_439 : decode zbLw_law 439 = .ok (.iaload, 1) := by decide +kernel
theorem dLw_law_440 : decode zbLw_law 440 = .ok (.invokevirtual 89, 3) := by decide +kernel
theorem dLw_law_443 : decode zbLw_law 443 = .ok (.if_icmp .eq 265, 3) := by decide +kernel
theorem dLw_law_446 : decode zbLw_law 446 = .ok (.iconst 0, 1) := by decide +kernel
theorem dLw_law_447 : decode zbLw_law 447 = .ok (.ireturn, 1) := by decide +kernel
theorem dLw_law_448 : decode zbLw_law 448 = .ok (.aload_n 1, 1) := by decide +kernel
theorem dLw_law_449 : decode zbLw_law 449 = .ok (.aload_n 0, 1) := by decide +kernel
theorem dLw_law_450 : decode zbLw_law 450 = .ok (.iload 4, 2) := by decide +kernel
theorem dLw_law_452 : decode zbLw_law 452 = .ok (.iconst 1, 1) := by decide +kernel
theorem dLw_law_453 : decode zbLw_law 453 = .ok (.iadd, 1) := by decide +kernel
theorem dLw_law_454 : decode zbLw_law 454 = .ok (.iaload, 1) := by decide +kernel
theorem dLw_law_455 : decode zbLw_law 455 = .ok (.invokevirtual 90, 3) := by decide +kernel
theorem dLw_law_458 : decode zbLw_law 458 = .ok (.aload_n 2, 1) := by decide +kernel
theorem dLw_law_459 : decode zbLw_law 459 = .ok (.aload_n 0, 1) := by decide +kernel
theorem dLw_law_460 : decode zbLw_law 460 = .ok (.iload 4, 2) := by decide +kernel
theorem dLw_law_462 : decode zbLw_law 462 = .ok (.iconst 1, 1) := by decide +kernel
theorem dLw_law_463 : decode zbLw_law 463 = .ok (.iadd, 1) := by decide +kernel
theorem dLw_law_464 : decode zbLw_law 464 = .ok (.iaload, 1) := by decide +kernel
theorem dLw_law_465 : decode zbLw_law 465 = .ok (.invokevirtual 93, 3) := by decide +kernel
theorem dLw_law_468 : decode zbLw_law 468 = .ok (.if_icmp .eq 240, 3) := by decide +kernel
theorem dLw_law_471 : decode zbLw_law 471 = .ok (.iconst 0, 1) := by decide +kernel
theorem dLw_law_472 : decode zbLw_law 472 = .ok (.ireturn, 1) := by decide +kernel
theorem dLw_law_473 : decode zbLw_law 473 = .ok (.aload_n 1, 1) := by decide +kernel
theorem dLw_law_474 : decode zbLw_law 474 = .ok (.aload_n 0, 1) := by decide +kernel
theorem dLw_law_475 : decode zbLw_law 475 = .ok (.iload 4, 2) := by decide +kernel
theorem dLw_law_477 : decode zbLw_law 477 = .ok (.iconst 1, 1) := by decide +kernel
theorem dLw_law_478 : decode zbLw_law 478 = .ok (.iadd, 1) := by decide +kernel
theorem dLw_law_479 : decode zbLw_law 479 = .ok (.iaload, 1) := by decide +kernel
theorem dLw_law_480 : decode zbLw_law 480 = .ok (.invokevirtual 94, 3) := by decide +kernel
theorem dLw_law_483 : decode zbLw_law 483 = .ok (.aload_n 2, 1) := by decide +kernel
theorem dLw_law_484 : decode zbLw_law 484 = .ok (.aload_n 0, 1) := by decide +kernel
theorem dLw_law_485 : decode zbLw_law 485 = .ok (.iload 4, 2) := by decide +kernel
theorem dLw_law_487 : decode zbLw_law 487 = .ok (.iconst 1, 1) := by decide +kernel
theorem dLw_law_488 : decode zbLw_law 488 = .ok (.iadd, 1) := by decide +kernel
theorem dLw_law_489 : decode zbLw_law 489 = .ok (.iaload, 1) := by decide +kernel
theorem dLw_law_490 : decode zbLw_law 490 = .ok (.invokevirtual 97, 3) := by decide +kernel
theorem dLw_law_493 : decode zbLw_law 493 = .ok (.if_icmp .eq 215, 3) := by decide +kernel
theorem dLw_law_496 : decode zbLw_law 496 = .ok (.iconst 0, 1) := by decide +kernel
theorem dLw_law_497 : decode zbLw_law 497 = .ok (.ireturn, 1) := by decide +kernel
theorem dLw_law_498 : decode zbLw_law 498 = .ok (.aload_n 1, 1) := by decide +kernel
theorem dLw_law_499 : decode zbLw_law 499 = .ok (.aload_n 0, 1) := by decide +kernel
theorem dLw_law_500 : decode zbLw_law 500 = .ok (.iload 4, 2) := by decide +kernel
theorem dLw_law_502 : decode zbLw_law 502 = .ok (.iconst 1, 1) := by decide +kernel
theorem dLw_law_503 : decode zbLw_law 503 = .ok (.iadd, 1) := by decide +kernel
theorem dLw_law_504 : decode zbLw_law 504 = .ok (.iaload, 1) := by decide +kernel
theorem dLw_law_505 : decode zbLw_law 505 = .ok (.aload_n 0, 1) := by decide +kernel
theorem dLw_law_506 : decode zbLw_law 506 = .ok (.iload 4, 2) := by decide +kernel
theorem dLw_law_508 : decode zbLw_law 508 = .ok (.iconst 2, 1) := by decide +kernel
theorem dLw_law_509 : decode zbLw_law 509 = .ok (.iadd, 1) := by decide +kernel
theorem dLw_law_510 : decode zbLw_law 510 = .ok (.iaload, 1) := by decide +kernel
theorem dLw_law_511 : decode zbLw_law 511 = .ok (.invokevirtual 98, 3) := by decide +kernel
theorem dLw_law_514 : decode zbLw_law 514 = .ok (.aload_n 2, 1) := by decide +kernel
theorem dLw_law_515 : decode zbLw_law 515 = .ok (.aload_n 0, 1) := by decide +kernel
theorem dLw_law_516 : decode zbLw_law 516 = .ok (.iload 4, 2) := by decide +kernel
theorem dLw_law_518 : decode zbLw_law 518 = .ok (.iconst 1, 1) := by decide +kernel
theorem dLw_law_519 : decode zbLw_law 519 = .ok (.iadd, 1) := by decide +kernel
theorem dLw_law_520 : decode zbLw_law 520 = .ok (.iaload, 1) := by decide +kernel
theorem dLw_law_521 : decode zbLw_law 521 = .ok (.aload_n 0, 1) := by decide +kernel
theorem dLw_law_522 : decode zbLw_law 522 = .ok (.iload 4, 2) := by decide +kernel
theorem dLw_law_524 : decode zbLw_law 524 = .ok (.iconst 2, 1) := by decide +kernel
theorem dLw_law_525 : decode zbLw_law 525 = .ok (.iadd, 1) := by decide +kernel
theorem dLw_law_526 : decode zbLw_law 526 = .ok (.iaload, 1) := by decide +kernel
theorem dLw_law_527 : decode zbLw_law 527 = .ok (.invokevirtual 101, 3) := by decide +kernel
theorem dLw_law_530 : decode zbLw_law 530 = .ok (.if_icmp .eq 178, 3) := by decide +kernel
theorem dLw_law_533 : decode zbLw_law 533 = .ok (.iconst 0, 1) := by decide +kernel
theorem dLw_law_534 : decode zbLw_law 534 = .ok (.ireturn, 1) := by decide +kernel
theorem dLw_law_535 : decode zbLw_law 535 = .ok (.aload_n 1, 1) := by decide +kernel
theorem dLw_law_536 : decode zbLw_law 536 = .ok (.aload_n 0, 1) := by decide +kernel
theorem dLw_law_537 : decode zbLw_law 537 = .ok (.iload 4, 2) := by decide +kernel
theorem dLw_law_539 : decode zbLw_law 539 = .ok (.iconst 1, 1) := by decide +kernel
theorem dLw_law_540 : decode zbLw_law 540 = .ok (.iadd, 1) := by decide +kernel
theorem dLw_law_541 : decode zbLw_law 541 = .ok (.iaload, 1) := by decide +kernel
theorem dLw_law_542 : decode zbLw_law 542 = .ok (.aload_n 0, 1) := by decide +kernel
theorem dLw_law_543 : decode zbLw_law 543 = .ok (.iload 4, 2) := by decide +kernel
theorem dLw_law_545 : decode zbLw_law 545 = .ok (.iconst 2, 1) := by decide +kernel
theorem dLw_law_546 : decode zbLw_law 546 = .ok (.iadd, 1) := by decide +kernel
theorem dLw_law_547 : decode zbLw_law 547 = .ok (.iaload, 1) := by decide +kernel
theorem dLw_law_548 : decode zbLw_law 548 = .ok (.invokevirtual 102, 3) := by decide +kernel
theorem dLw_law_551 : decode zbLw_law 551 = .ok (.aload_n 2, 1) := by decide +kernel
theorem dLw_law_552 : decode zbLw_law 552 = .ok (.aload_n 0, 1) := by decide +kernel
theorem dLw_law_553 : decode zbLw_law 553 = .ok (.iload 4, 2) := by decide +kernel
theorem dLw_law_555 : decode zbLw_law 555 = .ok (.iconst 1, 1) := by decide +kernel
theorem dLw_law_556 : decode zbLw_law 556 = .ok (.iadd, 1) := by decide +kernel
theorem dLw_law_557 : decode zbLw_law 557 = .ok (.iaload, 1) := by decide +kernel
theorem dLw_law_558 : decode zbLw_law 558 = .ok (.aload_n 0, 1) := by decide +kernel
theorem dLw_law_559 : decode zbLw_law 559 = .ok (.iload 4, 2) := by decide +kernel
theorem dLw_law_561 : decode zbLw_law 561 = .ok (.iconst 2, 1) := by decide +kernel
theorem dLw_law_562 : decode zbLw_law 562 = .ok (.iadd, 1) := by decide +kernel
theorem dLw_law_563 : decode zbLw_law 563 = .ok (.iaload, 1) := by decide +kernel
theorem dLw_law_564 : decode zbLw_law 564 = .ok (.invokevirtual 105, 3) := by decide +kernel
theorem dLw_law_567 : decode zbLw_law 567 = .ok (.if_icmp .eq 141, 3) := by decide +kernel
theorem dLw_law_570 : decode zbLw_law 570 = .ok (.iconst 0, 1) := by decide +kernel
theorem dLw_law_571 : decode zbLw_law 571 = .ok (.ireturn, 1) := by decide +kernel
theorem dLw_law_572 : decode zbLw_law 572 = .ok (.aload_n 1, 1) := by decide +kernel
theorem dLw_law_573 : decode zbLw_law 573 = .ok (.aload_n 0, 1) := by decide +kernel
theorem dLw_law_574 : decode zbLw_law 574 = .ok (.iload 4, 2) := by decide +kernel
theorem dLw_law_576 : decode zbLw_law 576 = .ok (.iconst 1, 1) := by decide +kernel
theorem dLw_law_577 : decode zbLw_law 577 = .ok (.iadd, 1) := by decide +kernel
theorem dLw_law_578 : decode zbLw_law 578 = .ok (.iaload, 1) := by decide +kernel
end
section
theorem dLw_law_579 : decode zbLw_law 579 = .ok (.aload_n 0, 1) := by decide +kernel
theorem dLw_law_580 : decode zbLw_law 580 = .ok (.iload 4, 2) := by decide +kernel
theorem dLw_law_582 : decode zbLw_law 582 = .ok (.iconst 2, 1) := by decide +kernel
theorem dLw_law_583 : decode zbLw_law 583 = .ok (.iadd, 1) := by decide +kernel
theorem dLw_law_584 : decode zbLw_law 584 = .ok (.iaload, 1) := by decide +kernel
theorem dLw_law_585 : decode zbLw_law 585 = .ok (.aload_n 3, 1) := by decide +kernel
theorem dLw_law_586 : decode zbLw_law 586 = .ok (.invokestatic 106, 3) := by decide +kernel
theorem dLw_law_589 : decode zbLw_law 589 = .ok (.istore 5, 2) := by decide +kernel
theorem dLw_law_591 : decode zbLw_law 591 = .ok (.aload_n 2, 1) := by decide +kernel
theorem dLw_law_592 : decode zbLw_law 592 = .ok (.aload_n 0, 1) := by decide +kernel
theorem dLw_law_593 : decode zbLw_law 593 = .ok (.iload 4, 2) := by decide +kernel
theorem dLw_law_595 : decode zbLw_law 595 = .ok (.iconst 1, 1) := by decide +kernel
theorem dLw_law_596 : decode zbLw_law 596 = .ok (.iadd, 1) := by decide +kernel
theorem dLw_law_597 : decode zbLw_law 597 = .ok (.iaload, 1) := by decide +kernel
theorem dLw_law_598 : decode zbLw_law 598 = .ok (.aload_n 0, 1) := by decide +kernel
theorem dLw_law_599 : decode zbLw_law 599 = .ok (.iload 4, 2) := by decide +kernel
theorem dLw_law_601 : decode zbLw_law 601 = .ok (.iconst 2, 1) := by decide +kernel
theorem dLw_law_602 : decode zbLw_law 602 = .ok (.iadd, 1) := by decide +kernel
theorem dLw_law_603 : decode zbLw_law 603 = .ok (.iaload, 1) := by decide +kernel
theorem dLw_law_604 : decode zbLw_law 604 = .ok (.invokevirtual 108, 3) := by decide +kernel
theorem dLw_law_607 : decode zbLw_law 607 = .ok (.istore 6, 2) := by decide +kernel
theorem dLw_law_609 : decode zbLw_law 609 = .ok (.aload_n 2, 1) := by decide +kernel
theorem dLw_law_610 : decode zbLw_law 610 = .ok (.invokevirtual 58, 3) := by decide +kernel
theorem dLw_law_613 : decode zbLw_law 613 = .ok (.iload 5, 2) := by decide +kernel
theorem dLw_law_615 : decode zbLw_law 615 = .ok (.if_icmp .eq 5, 3) := by decide +kernel
theorem dLw_law_618 : decode zbLw_law 618 = .ok (.iconst 0, 1) := by decide +kernel
theorem dLw_law_619 : decode zbLw_law 619 = .ok (.ireturn, 1) := by decide +kernel
theorem dLw_law_620 : decode zbLw_law 620 = .ok (.iload 5, 2) := by decide +kernel
theorem dLw_law_622 : decode zbLw_law 622 = .ok (.ifCond .ne 15, 3) := by decide +kernel
theorem dLw_law_625 : decode zbLw_law 625 = .ok (.aload_n 3, 1) := by decide +kernel
theorem dLw_law_626 : decode zbLw_law 626 = .ok (.iconst 0, 1) := by decide +kernel
theorem dLw_law_627 : decode zbLw_law 627 = .ok (.laload, 1) := by decide +kernel
theorem dLw_law_628 : decode zbLw_law 628 = .ok (.iload 6, 2) := by decide +kernel
theorem dLw_law_630 : decode zbLw_law 630 = .ok (.i2l, 1) := by decide +kernel
theorem dLw_law_631 : decode zbLw_law 631 = .ok (.lcmp, 1) := by decide +kernel
theorem dLw_law_632 : decode zbLw_law 632 = .ok (.ifCond .eq 5, 3) := by decide +kernel
theorem dLw_law_635 : decode zbLw_law 635 = .ok (.iconst 0, 1) := by decide +kernel
theorem dLw_law_636 : decode zbLw_law 636 = .ok (.ireturn, 1) := by decide +kernel
theorem dLw_law_637 : decode zbLw_law 637 = .ok (.goto 71, 3) := by decide +kernel
theorem dLw_law_640 : decode zbLw_law 640 = .ok (.aload_n 1, 1) := by decide +kernel
theorem dLw_law_641 : decode zbLw_law 641 = .ok (.aload_n 0, 1) := by decide +kernel
theorem dLw_law_642 : decode zbLw_law 642 = .ok (.iload 4, 2) := by decide +kernel
theorem dLw_law_644 : decode zbLw_law 644 = .ok (.iconst 1, 1) := by decide +kernel
theorem dLw_law_645 : decode zbLw_law 645 = .ok (.iadd, 1) := by decide +kernel
theorem dLw_law_646 : decode zbLw_law 646 = .ok (.iaload, 1) := by decide +kernel
theorem dLw_law_647 : decode zbLw_law 647 = .ok (.aload_n 0, 1) := by decide +kernel
theorem dLw_law_648 : decode zbLw_law 648 = .ok (.iload 4, 2) := by decide +kernel
theorem dLw_law_650 : decode zbLw_law 650 = .ok (.iconst 2, 1) := by decide +kernel
theorem dLw_law_651 : decode zbLw_law 651 = .ok (.iadd, 1) := by decide +kernel
theorem dLw_law_652 : decode zbLw_law 652 = .ok (.iaload, 1) := by decide +kernel
theorem dLw_law_653 : decode zbLw_law 653 = .ok (.aload_n 3, 1) := by decide +kernel
theorem dLw_law_654 : decode zbLw_law 654 = .ok (.invokestatic 109, 3) := by decide +kernel
theorem dLw_law_657 : decode zbLw_law 657 = .ok (.istore 5, 2) := by decide +kernel
theorem dLw_law_659 : decode zbLw_law 659 = .ok (.aload_n 2, 1) := by decide +kernel
theorem dLw_law_660 : decode zbLw_law 660 = .ok (.aload_n 0, 1) := by decide +kernel
theorem dLw_law_661 : decode zbLw_law 661 = .ok (.iload 4, 2) := by decide +kernel
theorem dLw_law_663 : decode zbLw_law 663 = .ok (.iconst 1, 1) := by decide +kernel
theorem dLw_law_664 : decode zbLw_law 664 = .ok (.iadd, 1) := by decide +kernel
theorem dLw_law_665 : decode zbLw_law 665 = .ok (.iaload, 1) := by decide +kernel
theorem dLw_law_666 : decode zbLw_law 666 = .ok (.aload_n 0, 1) := by decide +kernel
theorem dLw_law_667 : decode zbLw_law 667 = .ok (.iload 4, 2) := by decide +kernel
theorem dLw_law_669 : decode zbLw_law 669 = .ok (.iconst 2, 1) := by decide +kernel
theorem dLw_law_670 : decode zbLw_law 670 = .ok (.iadd, 1) := by decide +kernel
theorem dLw_law_671 : decode zbLw_law 671 = .ok (.iaload, 1) := by decide +kernel
theorem dLw_law_672 : decode zbLw_law 672 = .ok (.invokevirtual 111, 3) := by decide +kernel
theorem dLw_law_675 : decode zbLw_law 675 = .ok (.istore 6, 2) := by decide +kernel
theorem dLw_law_677 : decode zbLw_law 677 = .ok (.aload_n 2, 1) := by decide +kernel
theorem dLw_law_678 : decode zbLw_law 678 = .ok (.invokevirtual 58, 3) := by decide +kernel
theorem dLw_law_681 : decode zbLw_law 681 = .ok (.iload 5, 2) := by decide +kernel
theorem dLw_law_683 : decode zbLw_law 683 = .ok (.if_icmp .eq 5, 3) := by decide +kernel
theorem dLw_law_686 : decode zbLw_law 686 = .ok (.iconst 0, 1) := by decide +kernel
theorem dLw_law_687 : decode zbLw_law 687 = .ok (.ireturn, 1) := by decide +kernel
theorem dLw_law_688 : decode zbLw_law 688 = .ok (.iload 5, 2) := by decide +kernel
theorem dLw_law_690 : decode zbLw_law 690 = .ok (.ifCond .ne 15, 3) := by decide +kernel
theorem dLw_law_693 : decode zbLw_law 693 = .ok (.aload_n 3, 1) := by decide +kernel
theorem dLw_law_694 : decode zbLw_law 694 = .ok (.iconst 0, 1) := by decide +kernel
theorem dLw_law_695 : decode zbLw_law 695 = .ok (.laload, 1) := by decide +kernel
theorem dLw_law_696 : decode zbLw_law 696 = .ok (.iload 6, 2) := by decide +kernel
theorem dLw_law_698 : decode zbLw_law 698 = .ok (.i2l, 1) := by decide +kernel
theorem dLw_law_699 : decode zbLw_law 699 = .ok (.lcmp, 1) := by decide +kernel
theorem dLw_law_700 : decode zbLw_law 700 = .ok (.ifCond .eq 5, 3) := by decide +kernel
theorem dLw_law_703 : decode zbLw_law 703 = .ok (.iconst 0, 1) := by decide +kernel
theorem dLw_law_704 : decode zbLw_law 704 = .ok (.ireturn, 1) := by decide +kernel
theorem dLw_law_705 : decode zbLw_law 705 = .ok (.goto 3, 3) := by decide +kernel
theorem dLw_law_708 : decode zbLw_law 708 = .ok (.iinc 4 3, 3) := by decide +kernel
theorem dLw_law_711 : decode zbLw_law 711 = .ok (.goto (-688), 3) := by decide +kernel
theorem dLw_law_714 : decode zbLw_law 714 = .ok (.iconst 1, 1) := by decide +kernel
theorem dLw_law_715 : decode zbLw_law 715 = .ok (.ireturn, 1) := by decide +kernel
end
section
/-! memory pictures: one function a kind of slot; the shape of each address: (0,_) not ours, (1,c) an object of class c, (t+2,n) an array of kind t with n places -/
abbrev Mm : Type := Nat × Nat × (Nat → Nat × Nat) × (Nat → Nat → Int32) × (Nat → Nat → Option Nat) × (Nat → Nat → Int64)
def mm_z (M : Mm) : Nat := M.1
def mm_e (M : Mm) : Nat := M.2.1
def mm_s (M : Mm) : Nat → Nat × Nat := M.2.2.1
def mm_i (M : Mm) : Nat → Nat → Int32 := M.2.2.2.1
def mm_r (M : Mm) : Nat → Nat → Option Nat := M.2.2.2.2.1
def mm_l (M : Mm) : Nat → Nat → Int64 := M.2.2.2.2.2
def up_2 {α : Type} (f : Nat → Nat → α) (q k : Nat) (v : α) : Nat → Nat → α := fun a b => if a = q ∧ b = k then v else f a b
def mm_pi (M : Mm) (q k : Nat) (v : Int32) : Mm := (mm_z M, mm_e M, mm_s M, up_2 (mm_i M) q k v, mm_r M, mm_l M)
def mm_pr (M : Mm) (q k : Nat) (v : Option Nat) : Mm := (mm_z M, mm_e M, mm_s M, mm_i M, up_2 (mm_r M) q k v, mm_l M)
def mm_pl (M : Mm) (q k : Nat) (v : Int64) : Mm := (mm_z M, mm_e M, mm_s M, mm_i M, mm_r M, up_2 (mm_l M) q k v)
def mm_pc (M : Mm) (q : Nat) (f : Nat → Int32) : Mm := (mm_z M, mm_e M, mm_s M, fun a b => if a = q then f b else mm_i M a b, mm_r M, mm_l M)
def mm_nw (M : Mm) (d : Nat × Nat) : Mm := (mm_z M + 1, mm_e M, fun a => if a = mm_z M then d else mm_s M a, fun a b => if a = mm_z M then 0 else mm_i M a b, fun a b => if a = mm_z M then none else mm_r M a b, fun a b => if a = mm_z M then 0 else mm_l M a b)
/-- an exception of kind x has been thrown: what the heap's size is, isn't known any more -/
def mm_th (M : Mm) (x : Nat) : Mm := (0, x, mm_s M, mm_i M, mm_r M, mm_l M)
def mm_fv (M : Mm) (ci q k : Nat) : Value := if cl_r ci k = true then va_rf (mm_r M q k) else .int (mm_i M q k)
def mm_av (M : Mm) (t q : Nat) : Nat → Value := fun j => if t = 3 then .long (mm_l M q j) else if t = 4 ∨ t = 5 then va_rf (mm_r M q j) else .int (mm_i M q j)
def ar_ok (cA : ClassId) (n : Nat) (f : Nat → Value) (q : Nat) (H : Heap) : Prop := ∃ cell : Cell, H[q]? = some cell ∧ cell.cls = cA ∧ (∀ k, cell.vm ≠ .statics k) ∧ cell.vm ≠ .unknown ∧ cell.slots.size = n ∧ ∀ j : Nat, j < n → cell.slots[j]? = some (f j)
theorem ar_ok.kept {cA : ClassId} {n : Nat} {f : Nat → Value} {q : Nat} {H H1 : Heap} (h : ar_ok cA n f q H) (h1 : H1[q]? = H[q]?) : ar_ok cA n f q H1 := by
  obtain ⟨cell, a, b⟩ := h
  exact ⟨cell, by rw [h1]; exact a, b⟩
def mm_at (D : va_G) (cA : Nat → ClassId) (M : Mm) (q : Nat) (H : Heap) : Prop :=
  match mm_s M q with
  | (0, _) => True
  | (1, ci) => t_OB q (D.1 ci) (cl_n ci) (D.2 ci) H (mm_fv M ci q)
  | (t + 2, n) => if t = 6 then ar_ok (cA t) n (mm_av M t q) q H else H[q]? = some (arrV (cA t) n (mm_av M t q))
def mm_W (D : va_G) (cA : Nat → ClassId) (M : Mm) (H : Heap) : Prop := (mm_z M ≠ 0 → H.size = mm_z M) ∧ ∀ q : Nat, mm_at D cA M q H
/-- what may be written: not the script (kind 6) -/
def mm_w (M : Mm) (q : Nat) : Prop := (mm_s M q).1 ≠ 0 ∧ (mm_s M q).1 ≠ 8
def mm_G (A : Nat → Prop) (M : Mm) : Prop := ∀ q, mm_w M q → A q
def mm_A (M : Mm) (sz : Nat) : Nat → Prop := fun q => mm_w M q ∨ sz ≤ q
def mm_K (D : va_G) (cA : Nat → ClassId) (U : State) : Prop := va_K D vwCl [] U ∧ (∀ t : Nat, t < 7 → ∃ (k : Class) (comp : ClassId), U.vm.classes[cA t]? = some k ∧ k.kind = .array comp (tg_ty t) ∧ (t < 6 → U.vm.findClass ("[" ++ (tg_ty t).toString) = some (cA t)) ∧ ∀ C : String, tg_ty t = .object C → U.vm.findClass C = some comp) ∧ (∀ q ∈ nwT, va_Nw (.methodLinkNest q.1 q.2.1 q.2.2.1 q.2.2.2) U) ∧ ∀ C ∈ aoT, va_AO C U
theorem mm_K.arrs {cA : Nat → ClassId} {u U : State} (hvm : u.vm.Alike U.vm) (h : ∀ t : Nat, t < 7 → ∃ (k : Class) (comp : ClassId), u.vm.classes[cA t]? = some k ∧ k.kind = .array comp (tg_ty t) ∧ (t < 6 → u.vm.findClass ("[" ++ (tg_ty t).toString) = some (cA t)) ∧ ∀ C : String, tg_ty t = .object C → u.vm.findClass C = some comp) : ∀ t : Nat, t < 7 → ∃ (k : Class) (comp : ClassId), U.vm.classes[cA t]? = some k ∧ k.kind = .array comp (tg_ty t) ∧ (t < 6 → U.vm.findClass ("[" ++ (tg_ty t).toString) = some (cA t)) ∧ ∀ C : String, tg_ty t = .object C → U.vm.findClass C = some comp := by
  intro t ht
  obtain ⟨k, comp, h1, h2, h3, h4⟩ := h t ht
  obtain ⟨k', hk', he⟩ := hvm.2.2 _ _ h1
  exact ⟨k', comp, hk', by rw [he]; exact h2, fun h6 => by rw [hvm.findClass]; exact h3 h6, fun C hC => by rw [hvm.findClass]; exact h4 C hC⟩
theorem mm_K.warm {D : va_G} {cA : Nat → ClassId} {u U : State} (hW : u.WarmedH U.vm) (h : mm_K D cA u) : mm_K D cA U := ⟨va_K.moved hW.alike h.1, mm_K.arrs hW.alike h.2.1, fun q hq => va_Nw.warmM hW (h.2.2.1 q hq), fun C hC => va_AO.moved hW.alike (h.2.2.2 C hC)⟩
theorem mm_K.same {D : va_G} {cA : Nat → ClassId} {u U : State} (hv : u.vm = U.vm) (h : mm_K D cA u) : mm_K D cA U := ⟨va_K.moved (by rw [hv]; exact Vm.Alike.refl _) h.1, mm_K.arrs (by rw [hv]; exact Vm.Alike.refl _) h.2.1, fun q hq => va_Nw.same rfl hv (h.2.2.1 q hq), fun C hC => va_AO.moved (by rw [hv]; exact Vm.Alike.refl _) (h.2.2.2 C hC)⟩
def mm_Q (D : va_G) (cA : Nat → ClassId) (A : Nat → Prop) (vo : Int32 → Option Value) (r : Int32) (M' : Mm) : Array Value → State → Outcome → State → Prop := fun _ st oc t => oc = .returned (vo r) ∧ mm_W D cA M' t.heap ∧ mm_G A M' ∧ va_F A st t
/-- the same but for what lies at q -/
def mm_eo (M M2 : Mm) (q : Nat) : Prop := mm_z M2 = mm_z M ∧ mm_s M2 = mm_s M ∧ ∀ a, a ≠ q → mm_i M2 a = mm_i M a ∧ mm_r M2 a = mm_r M a ∧ mm_l M2 a = mm_l M a
theorem ar_of {cA : ClassId} {n : Nat} {f : Nat → Value} {q : Nat} {H : Heap} (h : H[q]? = some (arrV cA n f)) : ar_ok cA n f q H := ⟨_, h, rfl, (fun _ z => by cases z), (fun z => by cases z), arrV_size _ _ _, fun _ hj => arrV_read _ _ hj⟩
theorem mm_at.lt {D : va_G} {cA : Nat → ClassId} {M : Mm} {q : Nat} {H : Heap} (h : mm_at D cA M q H) (hk : (mm_s M q).1 ≠ 0) : q < H.size := by
  unfold mm_at at h
  split at h
  · next e => rw [e] at hk; exact absurd rfl hk
  · obtain ⟨cell, h2, -⟩ := h
    exact (Array.getElem?_eq_some_iff.mp h2).1
  · split at h
    · obtain ⟨cell, h2, -⟩ := h
      exact (Array.getElem?_eq_some_iff.mp h2).1
    · exact (Array.getElem?_eq_some_iff.mp h).1
theorem mm_at.to {D : va_G} {cA : Nat → ClassId} {M M2 : Mm} {q : Nat} {H H2 : Heap} (h : mm_at D cA M q H) (hs : mm_s M2 q = mm_s M q) (hi : mm_i M2 q = mm_i M q) (hr : mm_r M2 q = mm_r M q) (hl : mm_l M2 q = mm_l M q) (hH : (mm_s M q).1 ≠ 0 → H2[q]? = H[q]?) : mm_at D cA M2 q H2 := by
  unfold mm_at at h ⊢
  rw [hs]
  split at h
  · exact trivial
  · next ci e =>
    refine (h.kept (hH (by rw [e]; exact Nat.one_ne_zero))).to fun k _ => ?_
    unfold mm_fv
    rw [hi, hr]
  · next t n e =>
    show if t = 6 then ar_ok (cA t) n (mm_av M2 t q) q H2 else H2[q]? = some (arrV (cA t) n (mm_av M2 t q))
    have e2 : mm_av M2 t q = mm_av M t q := by unfold mm_av; rw [hi, hr, hl]
    rw [e2]
    have hh := hH (by rw [e]; exact Nat.succ_ne_zero _)
    split at h
    · next e6 => rw [if_pos e6]; exact h.kept hh
    · next e6 => rw [if_neg e6, hh]; exact h
theorem mm_W.set {D : va_G} {cA : Nat → ClassId} {M M2 : Mm} {q : Nat} {H H2 : Heap} (h : mm_W D cA M H) (he : mm_eo M M2 q) (hz : H2.size = H.size) (ho : ∀ a : Nat, a ≠ q → H2[a]? = H[a]?) (hq : mm_at D cA M2 q H2) : mm_W D cA M2 H2 := by
  refine ⟨fun hm => by rw [hz, he.1]; exact h.1 (by rw [← he.1]; exact hm), fun a => ?_⟩
  by_cases ha : a = q
  · rw [ha]; exact hq
  · obtain ⟨e1, e2, e3⟩ := he.2.2 a ha
    exact (h.2 a).to (by rw [he.2.1]) e1 e2 e3 (fun _ => ho a ha)
theorem mm_G.set {A : Nat → Prop} {M M2 : Mm} (h : mm_G A M) (he : mm_s M2 = mm_s M) : mm_G A M2 := fun q hq => h q (by unfold mm_w at hq ⊢; rw [he] at hq; exact hq)
theorem mm_W.ob {D : va_G} {cA : Nat → ClassId} {M : Mm} {q ci : Nat} {H : Heap} (h : mm_W D cA M H) (hs : mm_s M q = (1, ci)) : t_OB q (D.1 ci) (cl_n ci) (D.2 ci) H (mm_fv M ci q) := by
  have h2 := h.2 q
  unfold mm_at at h2
  rw [hs] at h2
  exact h2
theorem mm_W.ar {D : va_G} {cA : Nat → ClassId} {M : Mm} {q t n : Nat} {H : Heap} (h : mm_W D cA M H) (hs : mm_s M q = (t + 2, n)) : ar_ok (cA t) n (mm_av M t q) q H := by
  have h2 := h.2 q
  unfold mm_at at h2
  rw [hs] at h2
  simp only at h2
  split at h2
  · exact h2
  · exact ar_of h2
theorem mm_W.av {D : va_G} {cA : Nat → ClassId} {M : Mm} {q t n : Nat} {H : Heap} (h : mm_W D cA M H) (hs : mm_s M q = (t + 2, n)) (h6 : t ≠ 6) : H[q]? = some (arrV (cA t) n (mm_av M t q)) := by
  have h2 := h.2 q
  unfold mm_at at h2
  rw [hs] at h2
  simp only at h2
  rw [if_neg h6] at h2
  exact h2
theorem up_2_row {α : Type} {f : Nat → Nat → α} {q k a : Nat} {v : α} (h : a ≠ q) : up_2 f q k v a = f a := by
  funext b
  simp [up_2, h]
theorem mm_eo_pi (M : Mm) (q k : Nat) (v : Int32) : mm_eo M (mm_pi M q k v) q := ⟨rfl, rfl, fun _ h => ⟨up_2_row h, rfl, rfl⟩⟩
theorem mm_eo_pr (M : Mm) (q k : Nat) (v : Option Nat) : mm_eo M (mm_pr M q k v) q := ⟨rfl, rfl, fun _ h => ⟨rfl, up_2_row h, rfl⟩⟩
theorem mm_eo_pl (M : Mm) (q k : Nat) (v : Int64) : mm_eo M (mm_pl M q k v) q := ⟨rfl, rfl, fun _ h => ⟨rfl, rfl, up_2_row h⟩⟩
theorem mm_eo_pc (M : Mm) (q : Nat) (f : Nat → Int32) : mm_eo M (mm_pc M q f) q := ⟨rfl, rfl, fun a h => ⟨by funext b; simp [mm_pc, mm_i, h], rfl, rfl⟩⟩
/-! the functional words -/
abbrev Rr : Type := Option (Int32 × Mm)
def fo_gi (M : Mm) (ci q k : Nat) (K : Int32 → Rr) : Rr := if mm_s M q = (1, ci) then K (mm_i M q k) else none
def fo_gr (M : Mm) (ci q k : Nat) (K : Nat → Rr) : Rr := if mm_s M q = (1, ci) then (match mm_r M q k with | some a => K a | none => none) else none
def fo_pi (M : Mm) (ci q k : Nat) (v : Int32) (K : Mm → Rr) : Rr := if mm_s M q = (1, ci) then K (mm_pi M q k v) else none
def fo_pz (M : Mm) (ci q k : Nat) (v : Int32) (K : Mm → Rr) : Rr := if mm_s M q = (1, ci) ∧ (v = 0 ∨ v = 1) then K (mm_pi M q k v) else none
def fo_pr (M : Mm) (ci q k : Nat) (v : Nat) (K : Mm → Rr) : Rr := if mm_s M q = (1, ci) then K (mm_pr M q k (some v)) else none
def fo_ai (M : Mm) (t q : Nat) (i : Int32) (K : Int32 → Rr) : Rr := if (mm_s M q).1 = t + 2 ∧ ¬ (i < 0 ∨ (mm_s M q).2 ≤ i.toNatClampNeg) then K (mm_i M q i.toNatClampNeg) else none
def fo_ar (M : Mm) (t q : Nat) (i : Int32) (K : Nat → Rr) : Rr := if (mm_s M q).1 = t + 2 ∧ ¬ (i < 0 ∨ (mm_s M q).2 ≤ i.toNatClampNeg) then (match mm_r M q i.toNatClampNeg with | some a => K a | none => none) else none
def fo_al (M : Mm) (q : Nat) (i : Int32) (K : Int64 → Rr) : Rr := if (mm_s M q).1 = 5 ∧ ¬ (i < 0 ∨ (mm_s M q).2 ≤ i.toNatClampNeg) then K (mm_l M q i.toNatClampNeg) else none
def fo_an (M : Mm) (t q : Nat) (K : Int32 → Rr) : Rr := if (mm_s M q).1 = t + 2 then K (Int32.ofNat (mm_s M q).2) else none
def fo_si (M : Mm) (q : Nat) (i v : Int32) (K : Mm → Rr) : Rr := if (mm_s M q).1 = 2 ∧ ¬ (i < 0 ∨ (mm_s M q).2 ≤ i.toNatClampNeg) then K (mm_pi M q i.toNatClampNeg v) else none
def fo_sz (M : Mm) (q : Nat) (i v : Int32) (K : Mm → Rr) : Rr := if (mm_s M q).1 = 3 ∧ ¬ (i < 0 ∨ (mm_s M q).2 ≤ i.toNatClampNeg) then K (mm_pi M q i.toNatClampNeg (vp_nar .boolean v)) else none
def fo_sc (M : Mm) (q : Nat) (i v : Int32) (K : Mm → Rr) : Rr := if (mm_s M q).1 = 4 ∧ ¬ (i < 0 ∨ (mm_s M q).2 ≤ i.toNatClampNeg) then K (mm_pi M q i.toNatClampNeg (vp_nar .char v)) else none
def fo_sl (M : Mm) (q : Nat) (i : Int32) (v : Int64) (K : Mm → Rr) : Rr := if (mm_s M q).1 = 5 ∧ ¬ (i < 0 ∨ (mm_s M q).2 ≤ i.toNatClampNeg) then K (mm_pl M q i.toNatClampNeg v) else none
def fo_sr (M : Mm) (t ci q : Nat) (i : Int32) (v : Nat) (K : Mm → Rr) : Rr := if (mm_s M q).1 = t + 2 ∧ ¬ (i < 0 ∨ (mm_s M q).2 ≤ i.toNatClampNeg) ∧ mm_s M v = (1, ci) then K (mm_pr M q i.toNatClampNeg (some v)) else none
def fo_nw (M : Mm) (d : Nat × Nat) (K : Nat → Mm → Rr) : Rr := if mm_z M ≠ 0 then K (mm_z M) (mm_nw M d) else none
def fo_cl (o : Rr) (K : Int32 → Mm → Rr) : Rr := match o with | some (r, M) => K r M | none => none
theorem fo_cl_some {o : Rr} {K : Int32 → Mm → Rr} {v : Int32 × Mm} (h : fo_cl o K = some v) : ∃ r1 M1, o = some (r1, M1) ∧ K r1 M1 = some v := by
  unfold fo_cl at h
  cases o with
  | none => cases h
  | some w => exact ⟨w.1, w.2, rfl, h⟩
def fo_cv (M : Mm) (ci b : Nat) (o : Rr) (K : Int32 → Mm → Rr) : Rr := if mm_s M b = (1, ci) then fo_cl o K else none
def fo_cp (M : Mm) (a b : Nat) (i j n : Int32) (K : Mm → Rr) : Rr := if (mm_s M a).1 = 2 ∧ (mm_s M b).1 = 2 ∧ ¬ i < 0 ∧ ¬ j < 0 ∧ ¬ n < 0 ∧ i.toNatClampNeg + n.toNatClampNeg ≤ (mm_s M a).2 ∧ j.toNatClampNeg + n.toNatClampNeg ≤ (mm_s M b).2 then K (mm_pc M b (va_cpy (mm_i M a) (mm_i M b) i.toNatClampNeg j.toNatClampNeg n.toNatClampNeg)) else none
def fo_nm (v : Int32) (K : Int32 → Rr) : Rr := K v
def fo_nl (v : Int64) (K : Int64 → Rr) : Rr := K v
def fo_rz (v : Int32) (M : Mm) : Rr := if v = 0 ∨ v = 1 then some (v, M) else none
def fo_jp {α : Type} (k : α) (b : α → Rr) : Rr := b k
def fo_fx {α : Type} (z : α) (F : α → α) : Nat → α
  | 0 => z
  | n + 1 => F (fo_fx z F n)
theorem fo_fx_P {α : Type} {z : α} {F : α → α} (P : α → Prop) (h0 : P z) (hs : ∀ a, P a → P (F a)) : ∀ n, P (fo_fx z F n)
  | 0 => h0
  | n + 1 => hs _ (fo_fx_P P h0 hs n)
/-! the judgement -/
abbrev Cx : Type := Program × Launch × Env × Room × State × MethodId × Array Value × List Frame × Method × Code × va_G × (Nat → ClassId) × (Nat → Prop) × (Int32 → Mm → State → Prop) × Nat
/-- what a method that returns owes at its end -/
def nq (vo : Int32 → Option Value) (mc ms : Nat) : List Frame → va_G → (Nat → ClassId) → (Nat → Prop) → Array Value → State → Int32 → Mm → State → Prop := fun below D cA A args s r M' => MQ below (mm_Q D cA A vo r M') args s mc ms A
def Vj (x : Cx) (n k pc : Nat) (lv : List (Nat × Value)) (st : List Value) (M : Mm) (o : Rr) : Prop :=
  match x with
  | (p, l, e, R, s, m, args, below, meth, c, D, cA, A, QQ, nL) => ∀ (r : Int32) (M' : Mm), o = some (r, M') → ∀ (H : Heap) (locs : List Loc) (ls : Array Slot), mm_W D cA M H → mm_G A M → va_S A s.heap H locs → lv_has ls nL lv →
    W p l e R s m args below meth c H locs n k (QQ r M') (F0 m pc ls st)
def Fj (x : Cx) (l0 : Launch) (cc : ByteArray) (nL0 : Nat) (Ts : List Cond) (own mn : String) (rm : Room) (rt : Option FieldType) (q0 : List Frame → va_G → (Nat → ClassId) → (Nat → Prop) → Array Value → State → Int32 → Mm → State → Prop) : Prop :=
  match x with
  | (p, l, _, R, s, m, args, below, meth, c, D, cA, A, QQ, nL) => (p.tables.exec = Jvm.exec ∧ c.code = cc ∧ c.maxLocals = nL0 ∧ s.vm.findClass own = some m.cls ∧ ∀ w ∈ Ts, w.before args s = true) ∧ mm_K D cA s ∧ R = rm ∧ meth.locks = false ∧ meth.sig.returnType = rt ∧ meth.name = mn ∧ (∀ q, s.heap.size ≤ q → A q) ∧ l = l0 ∧ nL = nL0 ∧ QQ = q0 below D cA A args s
theorem Vj_none {x : Cx} {n k pc : Nat} {lv : List (Nat × Value)} {st : List Value} {M : Mm} : Vj x n k pc lv st M none := by
  obtain ⟨p, l, e, R, s, m, args, below, meth, c, D, cA, A, QQ, nL⟩ := x
  intro r M' ho
  cases ho
section VJ
variable {x : Cx} {l0 : Launch} {cc : ByteArray} {nL0 : Nat} {Ts : List Cond} {own mn : String} {rm : Room} {rt : Option FieldType} {q0 : List Frame → va_G → (Nat → ClassId) → (Nat → Prop) → Array Value → State → Int32 → Mm → State → Prop} {vo0 : Int32 → Option Value} {mc0 ms0 : Nat} {n k pc : Nat} {lv : List (Nat × Value)} {st : List Value} {M : Mm} {o : Rr}
theorem vj_jp {α : Type} {K : α} {B : α → Rr} (P : α → Prop) (h1 : P K) (h2 : ∀ j, P j → Vj x n k pc lv st M (B j)) : Vj x n k pc lv st M (fo_jp K B) := h2 K h1
theorem vj_nm {v : Int32} {K : Int32 → Rr} (h : ∀ w, Vj x n k pc lv (.int w :: st) M (K w)) : Vj x n k pc lv (.int v :: st) M (fo_nm v K) := h v
theorem vj_nl {v : Int64} {K : Int64 → Rr} (h : ∀ w, Vj x n k pc lv (.long w :: st) M (K w)) : Vj x n k pc lv (.long v :: st) M (fo_nl v K) := h v
theorem vj_lk {lv' : List (Nat × Value)} (ks : List Nat) (hk : lv_pick lv ks = lv') (h : Vj x n k pc lv' st M o) : Vj x n k pc lv st M o := by
  obtain ⟨p, l, e, R, s, m, args, below, meth, c, D, cA, A, QQ, nL⟩ := x
  intro r M' ho H locs ls hW hG hS hl
  exact h r M' ho H locs ls hW hG hS (lv_sub hl ks hk)
theorem vj_iconst (C : Fj x l0 cc nL0 Ts own mn rm rt q0) {a : Int} {v : Int32} (d : decode cc pc = .ok (.iconst a, 1)) (hv : Int32.ofInt a = v) (h : Vj x n k (pc + 1) lv (.int v :: st) M o) : Vj x n k pc lv (st) M o := by
  obtain ⟨p, l, e, R, s, m, args, below, meth, c, D, cA, A, QQ, nL⟩ := x
  obtain ⟨⟨hx, hb, hml, hown, hts⟩, hK, hR, hlo, hrt, hmn, hA, hl0, hnL, hQQ⟩ := C
  subst hl0; subst hnL; subst hR
  intro r M' ho H locs ls hW hG hS hl
  exact lv_iconst hx hb d hv (h r M' ho H locs ls hW hG hS hl)
theorem vj_bipush (C : Fj x l0 cc nL0 Ts own mn rm rt q0) {a : Int} {v : Int32} (d : decode cc pc = .ok (.bipush a, 2)) (hv : (Int8.ofInt a).toInt32 = v) (h : Vj x n k (pc + 2) lv (.int v :: st) M o) : Vj x n k pc lv (st) M o := by
  obtain ⟨p, l, e, R, s, m, args, below, meth, c, D, cA, A, QQ, nL⟩ := x
  obtain ⟨⟨hx, hb, hml, hown, hts⟩, hK, hR, hlo, hrt, hmn, hA, hl0, hnL, hQQ⟩ := C
  subst hl0; subst hnL; subst hR
  intro r M' ho H locs ls hW hG hS hl
  exact lv_bipush hx hb d hv (h r M' ho H locs ls hW hG hS hl)
theorem vj_sipush (C : Fj x l0 cc nL0 Ts own mn rm rt q0) {a : Int} {v : Int32} (d : decode cc pc = .ok (.sipush a, 3)) (hv : (Int16.ofInt a).toInt32 = v) (h : Vj x n k (pc + 3) lv (.int v :: st) M o) : Vj x n k pc lv (st) M o := by
  obtain ⟨p, l, e, R, s, m, args, below, meth, c, D, cA, A, QQ, nL⟩ := x
  obtain ⟨⟨hx, hb, hml, hown, hts⟩, hK, hR, hlo, hrt, hmn, hA, hl0, hnL, hQQ⟩ := C
  subst hl0; subst hnL; subst hR
  intro r M' ho H locs ls hW hG hS hl
  exact lv_sipush hx hb d hv (h r M' ho H locs ls hW hG hS hl)
theorem vj_iload_n (C : Fj x l0 cc nL0 Ts own mn rm rt q0) {f : Fin 4} {i j : Nat} {v : Int32} (d : decode cc pc = .ok (.iload_n f, 1)) (hf : (f : Nat) = i) (hj : lv[j]? = some (i, .int v)) (h : Vj x n k (pc + 1) lv (.int v :: st) M o) : Vj x n k pc lv (st) M o := by
  obtain ⟨p, l, e, R, s, m, args, below, meth, c, D, cA, A, QQ, nL⟩ := x
  obtain ⟨⟨hx, hb, hml, hown, hts⟩, hK, hR, hlo, hrt, hmn, hA, hl0, hnL, hQQ⟩ := C
  subst hl0; subst hnL; subst hR
  intro r M' ho H locs ls hW hG hS hl
  exact lv_iload_n hx hb d hf (lv_at hl j hj) (h r M' ho H locs ls hW hG hS hl)
theorem vj_iload (C : Fj x l0 cc nL0 Ts own mn rm rt q0) {i j : Nat} {v : Int32} (d : decode cc pc = .ok (.iload i, 2)) (hj : lv[j]? = some (i, .int v)) (h : Vj x n k (pc + 2) lv (.int v :: st) M o) : Vj x n k pc lv (st) M o := by
  obtain ⟨p, l, e, R, s, m, args, below, meth, c, D, cA, A, QQ, nL⟩ := x
  obtain ⟨⟨hx, hb, hml, hown, hts⟩, hK, hR, hlo, hrt, hmn, hA, hl0, hnL, hQQ⟩ := C
  subst hl0; subst hnL; subst hR
  intro r M' ho H locs ls hW hG hS hl
  exact lv_iload hx hb d (lv_at hl j hj) (h r M' ho H locs ls hW hG hS hl)
theorem vj_aload_n (C : Fj x l0 cc nL0 Ts own mn rm rt q0) {f : Fin 4} {i j : Nat} {v : Nat} (d : decode cc pc = .ok (.aload_n f, 1)) (hf : (f : Nat) = i) (hj : lv[j]? = some (i, .ref v)) (h : Vj x n k (pc + 1) lv (.ref v :: st) M o) : Vj x n k pc lv (st) M o := by
  obtain ⟨p, l, e, R, s, m, args, below, meth, c, D, cA, A, QQ, nL⟩ := x
  obtain ⟨⟨hx, hb, hml, hown, hts⟩, hK, hR, hlo, hrt, hmn, hA, hl0, hnL, hQQ⟩ := C
  subst hl0; subst hnL; subst hR
  intro r M' ho H locs ls hW hG hS hl
  exact lv_aload_n hx hb d hf (lv_at hl j hj) (h r M' ho H locs ls hW hG hS hl)
theorem vj_aload (C : Fj x l0 cc nL0 Ts own mn rm rt q0) {i j : Nat} {v : Nat} (d : decode cc pc = .ok (.aload i, 2)) (hj : lv[j]? = some (i, .ref v)) (h : Vj x n k (pc + 2) lv (.ref v :: st) M o) : Vj x n k pc lv (st) M o := by
  obtain ⟨p, l, e, R, s, m, args, below, meth, c, D, cA, A, QQ, nL⟩ := x
  obtain ⟨⟨hx, hb, hml, hown, hts⟩, hK, hR, hlo, hrt, hmn, hA, hl0, hnL, hQQ⟩ := C
  subst hl0; subst hnL; subst hR
  intro r M' ho H locs ls hW hG hS hl
  exact lv_aload hx hb d (lv_at hl j hj) (h r M' ho H locs ls hW hG hS hl)
theorem vj_lload_n (C : Fj x l0 cc nL0 Ts own mn rm rt q0) {f : Fin 4} {i j : Nat} {v : Int64} (d : decode cc pc = .ok (.lload_n f, 1)) (hf : (f : Nat) = i) (hj : lv[j]? = some (i, .long v)) (h : Vj x n k (pc + 1) lv (.long v :: st) M o) : Vj x n k pc lv (st) M o := by
  obtain ⟨p, l, e, R, s, m, args, below, meth, c, D, cA, A, QQ, nL⟩ := x
  obtain ⟨⟨hx, hb, hml, hown, hts⟩, hK, hR, hlo, hrt, hmn, hA, hl0, hnL, hQQ⟩ := C
  subst hl0; subst hnL; subst hR
  intro r M' ho H locs ls hW hG hS hl
  exact lv_lload_n hx hb d hf (lv_at hl j hj) (h r M' ho H locs ls hW hG hS hl)
theorem vj_lload (C : Fj x l0 cc nL0 Ts own mn rm rt q0) {i j : Nat} {v : Int64} (d : decode cc pc = .ok (.lload i, 2)) (hj : lv[j]? = some (i, .long v)) (h : Vj x n k (pc + 2) lv (.long v :: st) M o) : Vj x n k pc lv (st) M o := by
  obtain ⟨p, l, e, R, s, m, args, below, meth, c, D, cA, A, QQ, nL⟩ := x
  obtain ⟨⟨hx, hb, hml, hown, hts⟩, hK, hR, hlo, hrt, hmn, hA, hl0, hnL, hQQ⟩ := C
  subst hl0; subst hnL; subst hR
  intro r M' ho H locs ls hW hG hS hl
  exact lv_lload hx hb d (lv_at hl j hj) (h r M' ho H locs ls hW hG hS hl)
theorem vj_istore_n (C : Fj x l0 cc nL0 Ts own mn rm rt q0) {f : Fin 4} {i : Nat} {v : Int32} {lv' : List (Nat × Value)} (d : decode cc pc = .ok (.istore_n f, 1)) (hf : (f : Nat) = i) (hi : i < nL0) (ks : List Nat) (hk : lv_pick ((i, .int v) :: lv.filter (fun q => !(q.1 == i) && !(q.1 + 1 == i && q.2.category == 2))) ks = lv') (h : Vj x n k (pc + 1) lv' st M o) : Vj x n k pc lv (.int v :: st) M o := by
  obtain ⟨p, l, e, R, s, m, args, below, meth, c, D, cA, A, QQ, nL⟩ := x
  obtain ⟨⟨hx, hb, hml, hown, hts⟩, hK, hR, hlo, hrt, hmn, hA, hl0, hnL, hQQ⟩ := C
  subst hl0; subst hnL; subst hR
  intro r M' ho H locs ls hW hG hS hl
  exact lv_istore_n hx hb d hf hl hi rfl (fun ls' hl' => h r M' ho H locs ls' hW hG hS (lv_sub hl' ks hk))
theorem vj_istore (C : Fj x l0 cc nL0 Ts own mn rm rt q0) {i : Nat} {v : Int32} {lv' : List (Nat × Value)} (d : decode cc pc = .ok (.istore i, 2)) (hi : i < nL0) (ks : List Nat) (hk : lv_pick ((i, .int v) :: lv.filter (fun q => !(q.1 == i) && !(q.1 + 1 == i && q.2.category == 2))) ks = lv') (h : Vj x n k (pc + 2) lv' st M o) : Vj x n k pc lv (.int v :: st) M o := by
  obtain ⟨p, l, e, R, s, m, args, below, meth, c, D, cA, A, QQ, nL⟩ := x
  obtain ⟨⟨hx, hb, hml, hown, hts⟩, hK, hR, hlo, hrt, hmn, hA, hl0, hnL, hQQ⟩ := C
  subst hl0; subst hnL; subst hR
  intro r M' ho H locs ls hW hG hS hl
  exact lv_istore hx hb d hl hi rfl (fun ls' hl' => h r M' ho H locs ls' hW hG hS (lv_sub hl' ks hk))
theorem vj_astore_n (C : Fj x l0 cc nL0 Ts own mn rm rt q0) {f : Fin 4} {i : Nat} {v : Nat} {lv' : List (Nat × Value)} (d : decode cc pc = .ok (.astore_n f, 1)) (hf : (f : Nat) = i) (hi : i < nL0) (ks : List Nat) (hk : lv_pick ((i, .ref v) :: lv.filter (fun q => !(q.1 == i) && !(q.1 + 1 == i && q.2.category == 2))) ks = lv') (h : Vj x n k (pc + 1) lv' st M o) : Vj x n k pc lv (.ref v :: st) M o := by
  obtain ⟨p, l, e, R, s, m, args, below, meth, c, D, cA, A, QQ, nL⟩ := x
  obtain ⟨⟨hx, hb, hml, hown, hts⟩, hK, hR, hlo, hrt, hmn, hA, hl0, hnL, hQQ⟩ := C
  subst hl0; subst hnL; subst hR
  intro r M' ho H locs ls hW hG hS hl
  exact lv_astore_n hx hb d hf hl hi rfl (fun ls' hl' => h r M' ho H locs ls' hW hG hS (lv_sub hl' ks hk))
theorem vj_astore (C : Fj x l0 cc nL0 Ts own mn rm rt q0) {i : Nat} {v : Nat} {lv' : List (Nat × Value)} (d : decode cc pc = .ok (.astore i, 2)) (hi : i < nL0) (ks : List Nat) (hk : lv_pick ((i, .ref v) :: lv.filter (fun q => !(q.1 == i) && !(q.1 + 1 == i && q.2.category == 2))) ks = lv') (h : Vj x n k (pc + 2) lv' st M o) : Vj x n k pc lv (.ref v :: st) M o := by
  obtain ⟨p, l, e, R, s, m, args, below, meth, c, D, cA, A, QQ, nL⟩ := x
  obtain ⟨⟨hx, hb, hml, hown, hts⟩, hK, hR, hlo, hrt, hmn, hA, hl0, hnL, hQQ⟩ := C
  subst hl0; subst hnL; subst hR
  intro r M' ho H locs ls hW hG hS hl
  exact lv_astore hx hb d hl hi rfl (fun ls' hl' => h r M' ho H locs ls' hW hG hS (lv_sub hl' ks hk))
theorem vj_iinc (C : Fj x l0 cc nL0 Ts own mn rm rt q0) {i j : Nat} {a : Int} {v b : Int32} {lv' : List (Nat × Value)} (d : decode cc pc = .ok (.iinc i a, 3)) (hj : lv[j]? = some (i, .int v)) (ha : Int32.ofInt a = b) (hi : i < nL0) (ks : List Nat) (hk : lv_pick ((i, .int (v + b)) :: lv.filter (fun q => !(q.1 == i) && !(q.1 + 1 == i && q.2.category == 2))) ks = lv') (h : Vj x n k (pc + 3) lv' st M o) : Vj x n k pc lv st M o := by
  obtain ⟨p, l, e, R, s, m, args, below, meth, c, D, cA, A, QQ, nL⟩ := x
  obtain ⟨⟨hx, hb, hml, hown, hts⟩, hK, hR, hlo, hrt, hmn, hA, hl0, hnL, hQQ⟩ := C
  subst hl0; subst hnL; subst hR
  intro r M' ho H locs ls hW hG hS hl
  exact lv_iinc hx hb d hl hj (by rw [ha]) hi rfl (fun ls' hl' => h r M' ho H locs ls' hW hG hS (lv_sub hl' ks hk))
theorem vj_iincC (C : Fj x l0 cc nL0 Ts own mn rm rt q0) {i j : Nat} {a : Int} {v b w : Int32} {lv' : List (Nat × Value)} (d : decode cc pc = .ok (.iinc i a, 3)) (hj : lv[j]? = some (i, .int v)) (ha : Int32.ofInt a = b) (hw : v + b = w) (hi : i < nL0) (ks : List Nat) (hk : lv_pick ((i, .int w) :: lv.filter (fun q => !(q.1 == i) && !(q.1 + 1 == i && q.2.category == 2))) ks = lv') (h : Vj x n k (pc + 3) lv' st M o) : Vj x n k pc lv st M o := by
  obtain ⟨p, l, e, R, s, m, args, below, meth, c, D, cA, A, QQ, nL⟩ := x
  obtain ⟨⟨hx, hb, hml, hown, hts⟩, hK, hR, hlo, hrt, hmn, hA, hl0, hnL, hQQ⟩ := C
  subst hl0; subst hnL; subst hR
  intro r M' ho H locs ls hW hG hS hl
  exact lv_iinc hx hb d hl hj (by rw [ha, hw]) hi rfl (fun ls' hl' => h r M' ho H locs ls' hW hG hS (lv_sub hl' ks hk))
theorem vj_iadd (C : Fj x l0 cc nL0 Ts own mn rm rt q0) {a b : Int32} (d : decode cc pc = .ok (.iadd, 1))  (h : Vj x n k (pc + 1) lv (.int (a + b) :: st) M o) : Vj x n k pc lv (.int b :: .int a :: st) M o := by
  obtain ⟨p, l, e, R, s, m, args, below, meth, c, D, cA, A, QQ, nL⟩ := x
  obtain ⟨⟨hx, hb, hml, hown, hts⟩, hK, hR, hlo, hrt, hmn, hA, hl0, hnL, hQQ⟩ := C
  subst hl0; subst hnL; subst hR
  intro r M' ho H locs ls hW hG hS hl
  exact lv_iadd hx hb d (h r M' ho H locs ls hW hG hS hl)
theorem vj_isub (C : Fj x l0 cc nL0 Ts own mn rm rt q0) {a b : Int32} (d : decode cc pc = .ok (.isub, 1))  (h : Vj x n k (pc + 1) lv (.int (a - b) :: st) M o) : Vj x n k pc lv (.int b :: .int a :: st) M o := by
  obtain ⟨p, l, e, R, s, m, args, below, meth, c, D, cA, A, QQ, nL⟩ := x
  obtain ⟨⟨hx, hb, hml, hown, hts⟩, hK, hR, hlo, hrt, hmn, hA, hl0, hnL, hQQ⟩ := C
  subst hl0; subst hnL; subst hR
  intro r M' ho H locs ls hW hG hS hl
  exact lv_isub hx hb d (h r M' ho H locs ls hW hG hS hl)
theorem vj_imul (C : Fj x l0 cc nL0 Ts own mn rm rt q0) {a b : Int32} (d : decode cc pc = .ok (.imul, 1))  (h : Vj x n k (pc + 1) lv (.int (a * b) :: st) M o) : Vj x n k pc lv (.int b :: .int a :: st) M o := by
  obtain ⟨p, l, e, R, s, m, args, below, meth, c, D, cA, A, QQ, nL⟩ := x
  obtain ⟨⟨hx, hb, hml, hown, hts⟩, hK, hR, hlo, hrt, hmn, hA, hl0, hnL, hQQ⟩ := C
  subst hl0; subst hnL; subst hR
  intro r M' ho H locs ls hW hG hS hl
  exact lv_imul hx hb d (h r M' ho H locs ls hW hG hS hl)
theorem vj_iand (C : Fj x l0 cc nL0 Ts own mn rm rt q0) {a b : Int32} (d : decode cc pc = .ok (.iand, 1))  (h : Vj x n k (pc + 1) lv (.int (a &&& b) :: st) M o) : Vj x n k pc lv (.int b :: .int a :: st) M o := by
  obtain ⟨p, l, e, R, s, m, args, below, meth, c, D, cA, A, QQ, nL⟩ := x
  obtain ⟨⟨hx, hb, hml, hown, hts⟩, hK, hR, hlo, hrt, hmn, hA, hl0, hnL, hQQ⟩ := C
  subst hl0; subst hnL; subst hR
  intro r M' ho H locs ls hW hG hS hl
  exact lv_iand hx hb d (h r M' ho H locs ls hW hG hS hl)
theorem vj_ior (C : Fj x l0 cc nL0 Ts own mn rm rt q0) {a b : Int32} (d : decode cc pc = .ok (.ior, 1))  (h : Vj x n k (pc + 1) lv (.int (a ||| b) :: st) M o) : Vj x n k pc lv (.int b :: .int a :: st) M o := by
  obtain ⟨p, l, e, R, s, m, args, below, meth, c, D, cA, A, QQ, nL⟩ := x
  obtain ⟨⟨hx, hb, hml, hown, hts⟩, hK, hR, hlo, hrt, hmn, hA, hl0, hnL, hQQ⟩ := C
  subst hl0; subst hnL; subst hR
  intro r M' ho H locs ls hW hG hS hl
  exact lv_ior hx hb d (h r M' ho H locs ls hW hG hS hl)
theorem vj_ishl (C : Fj x l0 cc nL0 Ts own mn rm rt q0) {a b : Int32} (d : decode cc pc = .ok (.ishl, 1))  (h : Vj x n k (pc + 1) lv (.int (a <<< (b &&& 31)) :: st) M o) : Vj x n k pc lv (.int b :: .int a :: st) M o := by
  obtain ⟨p, l, e, R, s, m, args, below, meth, c, D, cA, A, QQ, nL⟩ := x
  obtain ⟨⟨hx, hb, hml, hown, hts⟩, hK, hR, hlo, hrt, hmn, hA, hl0, hnL, hQQ⟩ := C
  subst hl0; subst hnL; subst hR
  intro r M' ho H locs ls hW hG hS hl
  exact lv_ishl hx hb d (h r M' ho H locs ls hW hG hS hl)
theorem vj_ishr (C : Fj x l0 cc nL0 Ts own mn rm rt q0) {a b : Int32} (d : decode cc pc = .ok (.ishr, 1))  (h : Vj x n k (pc + 1) lv (.int (a >>> (b &&& 31)) :: st) M o) : Vj x n k pc lv (.int b :: .int a :: st) M o := by
  obtain ⟨p, l, e, R, s, m, args, below, meth, c, D, cA, A, QQ, nL⟩ := x
  obtain ⟨⟨hx, hb, hml, hown, hts⟩, hK, hR, hlo, hrt, hmn, hA, hl0, hnL, hQQ⟩ := C
  subst hl0; subst hnL; subst hR
  intro r M' ho H locs ls hW hG hS hl
  exact lv_ishr hx hb d (h r M' ho H locs ls hW hG hS hl)
theorem vj_idiv (C : Fj x l0 cc nL0 Ts own mn rm rt q0) {a b : Int32} (d : decode cc pc = .ok (.idiv, 1)) (hne : ¬ b = 0) (h : Vj x n k (pc + 1) lv (.int (a / b) :: st) M o) : Vj x n k pc lv (.int b :: .int a :: st) M o := by
  obtain ⟨p, l, e, R, s, m, args, below, meth, c, D, cA, A, QQ, nL⟩ := x
  obtain ⟨⟨hx, hb, hml, hown, hts⟩, hK, hR, hlo, hrt, hmn, hA, hl0, hnL, hQQ⟩ := C
  subst hl0; subst hnL; subst hR
  intro r M' ho H locs ls hW hG hS hl
  exact lv_idiv hx hb d hne (h r M' ho H locs ls hW hG hS hl)
theorem vj_irem (C : Fj x l0 cc nL0 Ts own mn rm rt q0) {a b : Int32} (d : decode cc pc = .ok (.irem, 1)) (hne : ¬ b = 0) (h : Vj x n k (pc + 1) lv (.int (a - a / b * b) :: st) M o) : Vj x n k pc lv (.int b :: .int a :: st) M o := by
  obtain ⟨p, l, e, R, s, m, args, below, meth, c, D, cA, A, QQ, nL⟩ := x
  obtain ⟨⟨hx, hb, hml, hown, hts⟩, hK, hR, hlo, hrt, hmn, hA, hl0, hnL, hQQ⟩ := C
  subst hl0; subst hnL; subst hR
  intro r M' ho H locs ls hW hG hS hl
  exact lv_irem hx hb d hne (h r M' ho H locs ls hW hG hS hl)
theorem vj_land (C : Fj x l0 cc nL0 Ts own mn rm rt q0) {a b : Int64} (d : decode cc pc = .ok (.land, 1))  (h : Vj x n k (pc + 1) lv (.long (a &&& b) :: st) M o) : Vj x n k pc lv (.long b :: .long a :: st) M o := by
  obtain ⟨p, l, e, R, s, m, args, below, meth, c, D, cA, A, QQ, nL⟩ := x
  obtain ⟨⟨hx, hb, hml, hown, hts⟩, hK, hR, hlo, hrt, hmn, hA, hl0, hnL, hQQ⟩ := C
  subst hl0; subst hnL; subst hR
  intro r M' ho H locs ls hW hG hS hl
  exact lv_land hx hb d (h r M' ho H locs ls hW hG hS hl)
theorem vj_lor (C : Fj x l0 cc nL0 Ts own mn rm rt q0) {a b : Int64} (d : decode cc pc = .ok (.lor, 1))  (h : Vj x n k (pc + 1) lv (.long (a ||| b) :: st) M o) : Vj x n k pc lv (.long b :: .long a :: st) M o := by
  obtain ⟨p, l, e, R, s, m, args, below, meth, c, D, cA, A, QQ, nL⟩ := x
  obtain ⟨⟨hx, hb, hml, hown, hts⟩, hK, hR, hlo, hrt, hmn, hA, hl0, hnL, hQQ⟩ := C
  subst hl0; subst hnL; subst hR
  intro r M' ho H locs ls hW hG hS hl
  exact lv_lor hx hb d (h r M' ho H locs ls hW hG hS hl)
theorem vj_lushr (C : Fj x l0 cc nL0 Ts own mn rm rt q0) {a : Int64} {b : Int32} (d : decode cc pc = .ok (.lushr, 1))  (h : Vj x n k (pc + 1) lv (.long ((a.toUInt64 >>> (b.toInt64.toUInt64 &&& Int64.toUInt64 63)).toInt64) :: st) M o) : Vj x n k pc lv (.int b :: .long a :: st) M o := by
  obtain ⟨p, l, e, R, s, m, args, below, meth, c, D, cA, A, QQ, nL⟩ := x
  obtain ⟨⟨hx, hb, hml, hown, hts⟩, hK, hR, hlo, hrt, hmn, hA, hl0, hnL, hQQ⟩ := C
  subst hl0; subst hnL; subst hR
  intro r M' ho H locs ls hW hG hS hl
  exact lv_lushr hx hb d rfl (h r M' ho H locs ls hW hG hS hl)
theorem vj_lshr (C : Fj x l0 cc nL0 Ts own mn rm rt q0) {a : Int64} {b : Int32} (d : decode cc pc = .ok (.lshr, 1))  (h : Vj x n k (pc + 1) lv (.long (a >>> (b.toInt64 &&& 63)) :: st) M o) : Vj x n k pc lv (.int b :: .long a :: st) M o := by
  obtain ⟨p, l, e, R, s, m, args, below, meth, c, D, cA, A, QQ, nL⟩ := x
  obtain ⟨⟨hx, hb, hml, hown, hts⟩, hK, hR, hlo, hrt, hmn, hA, hl0, hnL, hQQ⟩ := C
  subst hl0; subst hnL; subst hR
  intro r M' ho H locs ls hW hG hS hl
  exact lv_lshr hx hb d rfl (h r M' ho H locs ls hW hG hS hl)
theorem vj_lshl (C : Fj x l0 cc nL0 Ts own mn rm rt q0) {a : Int64} {b : Int32} (d : decode cc pc = .ok (.lshl, 1))  (h : Vj x n k (pc + 1) lv (.long (a <<< (b.toInt64 &&& 63)) :: st) M o) : Vj x n k pc lv (.int b :: .long a :: st) M o := by
  obtain ⟨p, l, e, R, s, m, args, below, meth, c, D, cA, A, QQ, nL⟩ := x
  obtain ⟨⟨hx, hb, hml, hown, hts⟩, hK, hR, hlo, hrt, hmn, hA, hl0, hnL, hQQ⟩ := C
  subst hl0; subst hnL; subst hR
  intro r M' ho H locs ls hW hG hS hl
  exact lv_lshl hx hb d rfl (h r M' ho H locs ls hW hG hS hl)
theorem vj_i2l (C : Fj x l0 cc nL0 Ts own mn rm rt q0) {a : Int32} (d : decode cc pc = .ok (.i2l, 1))  (h : Vj x n k (pc + 1) lv (.long a.toInt64 :: st) M o) : Vj x n k pc lv (.int a :: st) M o := by
  obtain ⟨p, l, e, R, s, m, args, below, meth, c, D, cA, A, QQ, nL⟩ := x
  obtain ⟨⟨hx, hb, hml, hown, hts⟩, hK, hR, hlo, hrt, hmn, hA, hl0, hnL, hQQ⟩ := C
  subst hl0; subst hnL; subst hR
  intro r M' ho H locs ls hW hG hS hl
  exact lv_i2l hx hb d rfl (h r M' ho H locs ls hW hG hS hl)
theorem vj_l2i (C : Fj x l0 cc nL0 Ts own mn rm rt q0) {a : Int64} (d : decode cc pc = .ok (.l2i, 1))  (h : Vj x n k (pc + 1) lv (.int a.toInt32 :: st) M o) : Vj x n k pc lv (.long a :: st) M o := by
  obtain ⟨p, l, e, R, s, m, args, below, meth, c, D, cA, A, QQ, nL⟩ := x
  obtain ⟨⟨hx, hb, hml, hown, hts⟩, hK, hR, hlo, hrt, hmn, hA, hl0, hnL, hQQ⟩ := C
  subst hl0; subst hnL; subst hR
  intro r M' ho H locs ls hW hG hS hl
  exact lv_l2i hx hb d rfl (h r M' ho H locs ls hW hG hS hl)
theorem vj_i2c (C : Fj x l0 cc nL0 Ts own mn rm rt q0) {a : Int32} (d : decode cc pc = .ok (.i2c, 1))  (h : Vj x n k (pc + 1) lv (.int (a.toUInt32 % 65536).toInt32 :: st) M o) : Vj x n k pc lv (.int a :: st) M o := by
  obtain ⟨p, l, e, R, s, m, args, below, meth, c, D, cA, A, QQ, nL⟩ := x
  obtain ⟨⟨hx, hb, hml, hown, hts⟩, hK, hR, hlo, hrt, hmn, hA, hl0, hnL, hQQ⟩ := C
  subst hl0; subst hnL; subst hR
  intro r M' ho H locs ls hW hG hS hl
  exact lv_i2c hx hb d rfl (h r M' ho H locs ls hW hG hS hl)
theorem vj_lcmp (C : Fj x l0 cc nL0 Ts own mn rm rt q0) {a b : Int64} (d : decode cc pc = .ok (.lcmp, 1))  (h : Vj x n k (pc + 1) lv (.int (lg_cmp a b) :: st) M o) : Vj x n k pc lv (.long b :: .long a :: st) M o := by
  obtain ⟨p, l, e, R, s, m, args, below, meth, c, D, cA, A, QQ, nL⟩ := x
  obtain ⟨⟨hx, hb, hml, hown, hts⟩, hK, hR, hlo, hrt, hmn, hA, hl0, hnL, hQQ⟩ := C
  subst hl0; subst hnL; subst hR
  intro r M' ho H locs ls hW hG hS hl
  exact W.lcmp hx hb d (h r M' ho H locs ls hW hG hS hl)
theorem vj_dup (C : Fj x l0 cc nL0 Ts own mn rm rt q0) {va : Value} (d : decode cc pc = .ok (.dup, 1)) (hc : va.category = 1) (h : Vj x n k (pc + 1) lv (va :: va :: st) M o) : Vj x n k pc lv (va :: st) M o := by
  obtain ⟨p, l, e, R, s, m, args, below, meth, c, D, cA, A, QQ, nL⟩ := x
  obtain ⟨⟨hx, hb, hml, hown, hts⟩, hK, hR, hlo, hrt, hmn, hA, hl0, hnL, hQQ⟩ := C
  subst hl0; subst hnL; subst hR
  intro r M' ho H locs ls hW hG hS hl
  exact lv_dup hx hb d hc (h r M' ho H locs ls hW hG hS hl)
theorem vj_dup2 (C : Fj x l0 cc nL0 Ts own mn rm rt q0) {va vb : Value} (d : decode cc pc = .ok (.dup2, 1)) (hc : va.category = 1) (hc2 : vb.category = 1) (h : Vj x n k (pc + 1) lv (va :: vb :: va :: vb :: st) M o) : Vj x n k pc lv (va :: vb :: st) M o := by
  obtain ⟨p, l, e, R, s, m, args, below, meth, c, D, cA, A, QQ, nL⟩ := x
  obtain ⟨⟨hx, hb, hml, hown, hts⟩, hK, hR, hlo, hrt, hmn, hA, hl0, hnL, hQQ⟩ := C
  subst hl0; subst hnL; subst hR
  intro r M' ho H locs ls hW hG hS hl
  exact lv_dup2_11 hx hb d hc hc2 (h r M' ho H locs ls hW hG hS hl)
theorem vj_pop (C : Fj x l0 cc nL0 Ts own mn rm rt q0) {va : Value} (d : decode cc pc = .ok (.pop, 1)) (hc : va.category = 1) (h : Vj x n k (pc + 1) lv (st) M o) : Vj x n k pc lv (va :: st) M o := by
  obtain ⟨p, l, e, R, s, m, args, below, meth, c, D, cA, A, QQ, nL⟩ := x
  obtain ⟨⟨hx, hb, hml, hown, hts⟩, hK, hR, hlo, hrt, hmn, hA, hl0, hnL, hQQ⟩ := C
  subst hl0; subst hnL; subst hR
  intro r M' ho H locs ls hW hG hS hl
  exact lv_pop hx hb d hc (h r M' ho H locs ls hW hG hS hl)
theorem vj_lconst (C : Fj x l0 cc nL0 Ts own mn rm rt q0) {a : Fin 2} {v : Int64} (d : decode cc pc = .ok (.lconst a, 1)) (hv : Int64.ofNat (a : Nat) = v) (h : Vj x n k (pc + 1) lv (.long v :: st) M o) : Vj x n k pc lv (st) M o := by
  obtain ⟨p, l, e, R, s, m, args, below, meth, c, D, cA, A, QQ, nL⟩ := x
  obtain ⟨⟨hx, hb, hml, hown, hts⟩, hK, hR, hlo, hrt, hmn, hA, hl0, hnL, hQQ⟩ := C
  subst hl0; subst hnL; subst hR
  intro r M' ho H locs ls hW hG hS hl
  exact lv_lconst hx hb d hv (h r M' ho H locs ls hW hG hS hl)
theorem vj_ldc2 (C : Fj x l0 cc nL0 Ts own mn rm rt q0) {idx : Nat} {v : Int64} (d : decode cc pc = .ok (.ldc2_w idx, 3)) (hm : Cond.constantLong own idx v ∈ Ts) (h : Vj x n k (pc + 3) lv (.long v :: st) M o) : Vj x n k pc lv (st) M o := by
  obtain ⟨p, l, e, R, s, m, args, below, meth, c, D, cA, A, QQ, nL⟩ := x
  obtain ⟨⟨hx, hb, hml, hown, hts⟩, hK, hR, hlo, hrt, hmn, hA, hl0, hnL, hQQ⟩ := C
  subst hl0; subst hnL; subst hR
  intro r M' ho H locs ls hW hG hS hl
  exact lv_ldc2 hx hb hown (hts _ hm) d (h r M' ho H locs ls hW hG hS hl)
theorem vj_goto (C : Fj x l0 cc nL0 Ts own mn rm rt q0) {off : Int} {tgt : Nat} (d : decode cc pc = .ok (.goto off, 3)) (ht : (pc : Int) + off = (tgt : Int)) (h : Vj x n k tgt lv st M o) : Vj x n k pc lv st M o := by
  obtain ⟨p, l, e, R, s, m, args, below, meth, c, D, cA, A, QQ, nL⟩ := x
  obtain ⟨⟨hx, hb, hml, hown, hts⟩, hK, hR, hlo, hrt, hmn, hA, hl0, hnL, hQQ⟩ := C
  subst hl0; subst hnL; subst hR
  intro r M' ho H locs ls hW hG hS hl
  exact lv_goto hx hb d ht (h r M' ho H locs ls hW hG hS hl)
theorem vj_if_eq (C : Fj x l0 cc nL0 Ts own mn rm rt q0) {a : Int32} {off : Int} {tgt : Nat} {o1 o2 : Rr} (d : decode cc pc = .ok (.ifCond .eq off, 3)) (ht : (pc : Int) + off = (tgt : Int)) (h1 : Vj x n k tgt lv st M o1) (h2 : Vj x n k (pc + 3) lv st M o2) : Vj x n k pc lv (.int a :: st) M (if a = 0 then o1 else o2) := by
  obtain ⟨p, l, e, R, s, m, args, below, meth, c, D, cA, A, QQ, nL⟩ := x
  obtain ⟨⟨hx, hb, hml, hown, hts⟩, hK, hR, hlo, hrt, hmn, hA, hl0, hnL, hQQ⟩ := C
  subst hl0; subst hnL; subst hR
  intro r M' ho H locs ls hW hG hS hl
  refine lv_if_eq hx hb d ht (fun q => h1 r M' ?_ H locs ls hW hG hS hl) (fun q => h2 r M' ?_ H locs ls hW hG hS hl)
  · rw [if_pos q] at ho; exact ho
  · rw [if_neg q] at ho; exact ho
theorem vj_if_lt (C : Fj x l0 cc nL0 Ts own mn rm rt q0) {a : Int32} {off : Int} {tgt : Nat} {o1 o2 : Rr} (d : decode cc pc = .ok (.ifCond .lt off, 3)) (ht : (pc : Int) + off = (tgt : Int)) (h1 : Vj x n k tgt lv st M o1) (h2 : Vj x n k (pc + 3) lv st M o2) : Vj x n k pc lv (.int a :: st) M (if a < 0 then o1 else o2) := by
  obtain ⟨p, l, e, R, s, m, args, below, meth, c, D, cA, A, QQ, nL⟩ := x
  obtain ⟨⟨hx, hb, hml, hown, hts⟩, hK, hR, hlo, hrt, hmn, hA, hl0, hnL, hQQ⟩ := C
  subst hl0; subst hnL; subst hR
  intro r M' ho H locs ls hW hG hS hl
  refine lv_if_lt hx hb d ht (fun q => h1 r M' ?_ H locs ls hW hG hS hl) (fun q => h2 r M' ?_ H locs ls hW hG hS hl)
  · rw [if_pos q] at ho; exact ho
  · rw [if_neg q] at ho; exact ho
theorem vj_if_ge (C : Fj x l0 cc nL0 Ts own mn rm rt q0) {a : Int32} {off : Int} {tgt : Nat} {o1 o2 : Rr} (d : decode cc pc = .ok (.ifCond .ge off, 3)) (ht : (pc : Int) + off = (tgt : Int)) (h1 : Vj x n k tgt lv st M o1) (h2 : Vj x n k (pc + 3) lv st M o2) : Vj x n k pc lv (.int a :: st) M (if 0 ≤ a then o1 else o2) := by
  obtain ⟨p, l, e, R, s, m, args, below, meth, c, D, cA, A, QQ, nL⟩ := x
  obtain ⟨⟨hx, hb, hml, hown, hts⟩, hK, hR, hlo, hrt, hmn, hA, hl0, hnL, hQQ⟩ := C
  subst hl0; subst hnL; subst hR
  intro r M' ho H locs ls hW hG hS hl
  refine lv_if_ge hx hb d ht (fun q => h1 r M' ?_ H locs ls hW hG hS hl) (fun q => h2 r M' ?_ H locs ls hW hG hS hl)
  · rw [if_pos q] at ho; exact ho
  · rw [if_neg q] at ho; exact ho
theorem vj_if_gt (C : Fj x l0 cc nL0 Ts own mn rm rt q0) {a : Int32} {off : Int} {tgt : Nat} {o1 o2 : Rr} (d : decode cc pc = .ok (.ifCond .gt off, 3)) (ht : (pc : Int) + off = (tgt : Int)) (h1 : Vj x n k tgt lv st M o1) (h2 : Vj x n k (pc + 3) lv st M o2) : Vj x n k pc lv (.int a :: st) M (if 0 < a then o1 else o2) := by
  obtain ⟨p, l, e, R, s, m, args, below, meth, c, D, cA, A, QQ, nL⟩ := x
  obtain ⟨⟨hx, hb, hml, hown, hts⟩, hK, hR, hlo, hrt, hmn, hA, hl0, hnL, hQQ⟩ := C
  subst hl0; subst hnL; subst hR
  intro r M' ho H locs ls hW hG hS hl
  refine lv_if_gt hx hb d ht (fun q => h1 r M' ?_ H locs ls hW hG hS hl) (fun q => h2 r M' ?_ H locs ls hW hG hS hl)
  · rw [if_pos q] at ho; exact ho
  · rw [if_neg q] at ho; exact ho
theorem vj_if_le (C : Fj x l0 cc nL0 Ts own mn rm rt q0) {a : Int32} {off : Int} {tgt : Nat} {o1 o2 : Rr} (d : decode cc pc = .ok (.ifCond .le off, 3)) (ht : (pc : Int) + off = (tgt : Int)) (h1 : Vj x n k tgt lv st M o1) (h2 : Vj x n k (pc + 3) lv st M o2) : Vj x n k pc lv (.int a :: st) M (if a ≤ 0 then o1 else o2) := by
  obtain ⟨p, l, e, R, s, m, args, below, meth, c, D, cA, A, QQ, nL⟩ := x
  obtain ⟨⟨hx, hb, hml, hown, hts⟩, hK, hR, hlo, hrt, hmn, hA, hl0, hnL, hQQ⟩ := C
  subst hl0; subst hnL; subst hR
  intro r M' ho H locs ls hW hG hS hl
  refine lv_if_le hx hb d ht (fun q => h1 r M' ?_ H locs ls hW hG hS hl) (fun q => h2 r M' ?_ H locs ls hW hG hS hl)
  · rw [if_pos q] at ho; exact ho
  · rw [if_neg q] at ho; exact ho
theorem vj_if_ne (C : Fj x l0 cc nL0 Ts own mn rm rt q0) {a : Int32} {off : Int} {tgt : Nat} {o1 o2 : Rr} (d : decode cc pc = .ok (.ifCond .ne off, 3)) (ht : (pc : Int) + off = (tgt : Int)) (h1 : Vj x n k tgt lv st M o1) (h2 : Vj x n k (pc + 3) lv st M o2) : Vj x n k pc lv (.int a :: st) M (if a = 0 then o2 else o1) := by
  obtain ⟨p, l, e, R, s, m, args, below, meth, c, D, cA, A, QQ, nL⟩ := x
  obtain ⟨⟨hx, hb, hml, hown, hts⟩, hK, hR, hlo, hrt, hmn, hA, hl0, hnL, hQQ⟩ := C
  subst hl0; subst hnL; subst hR
  intro r M' ho H locs ls hW hG hS hl
  refine lv_if_ne hx hb d ht (fun q => h1 r M' ?_ H locs ls hW hG hS hl) (fun q => h2 r M' ?_ H locs ls hW hG hS hl)
  · rw [if_neg q] at ho; exact ho
  · rw [if_pos q] at ho; exact ho
theorem vj_icmp_eq (C : Fj x l0 cc nL0 Ts own mn rm rt q0) {a b : Int32} {off : Int} {tgt : Nat} {o1 o2 : Rr} (d : decode cc pc = .ok (.if_icmp .eq off, 3)) (ht : (pc : Int) + off = (tgt : Int)) (h1 : Vj x n k tgt lv st M o1) (h2 : Vj x n k (pc + 3) lv st M o2) : Vj x n k pc lv (.int b :: .int a :: st) M (if a = b then o1 else o2) := by
  obtain ⟨p, l, e, R, s, m, args, below, meth, c, D, cA, A, QQ, nL⟩ := x
  obtain ⟨⟨hx, hb, hml, hown, hts⟩, hK, hR, hlo, hrt, hmn, hA, hl0, hnL, hQQ⟩ := C
  subst hl0; subst hnL; subst hR
  intro r M' ho H locs ls hW hG hS hl
  refine lv_icmp_eq hx hb d ht (fun q => h1 r M' ?_ H locs ls hW hG hS hl) (fun q => h2 r M' ?_ H locs ls hW hG hS hl)
  · rw [if_pos q] at ho; exact ho
  · rw [if_neg q] at ho; exact ho
theorem vj_icmp_lt (C : Fj x l0 cc nL0 Ts own mn rm rt q0) {a b : Int32} {off : Int} {tgt : Nat} {o1 o2 : Rr} (d : decode cc pc = .ok (.if_icmp .lt off, 3)) (ht : (pc : Int) + off = (tgt : Int)) (h1 : Vj x n k tgt lv st M o1) (h2 : Vj x n k (pc + 3) lv st M o2) : Vj x n k pc lv (.int b :: .int a :: st) M (if a < b then o1 else o2) := by
  obtain ⟨p, l, e, R, s, m, args, below, meth, c, D, cA, A, QQ, nL⟩ := x
  obtain ⟨⟨hx, hb, hml, hown, hts⟩, hK, hR, hlo, hrt, hmn, hA, hl0, hnL, hQQ⟩ := C
  subst hl0; subst hnL; subst hR
  intro r M' ho H locs ls hW hG hS hl
  refine lv_icmp_lt hx hb d ht (fun q => h1 r M' ?_ H locs ls hW hG hS hl) (fun q => h2 r M' ?_ H locs ls hW hG hS hl)
  · rw [if_pos q] at ho; exact ho
  · rw [if_neg q] at ho; exact ho
theorem vj_icmp_ge (C : Fj x l0 cc nL0 Ts own mn rm rt q0) {a b : Int32} {off : Int} {tgt : Nat} {o1 o2 : Rr} (d : decode cc pc = .ok (.if_icmp .ge off, 3)) (ht : (pc : Int) + off = (tgt : Int)) (h1 : Vj x n k tgt lv st M o1) (h2 : Vj x n k (pc + 3) lv st M o2) : Vj x n k pc lv (.int b :: .int a :: st) M (if b ≤ a then o1 else o2) := by
  obtain ⟨p, l, e, R, s, m, args, below, meth, c, D, cA, A, QQ, nL⟩ := x
  obtain ⟨⟨hx, hb, hml, hown, hts⟩, hK, hR, hlo, hrt, hmn, hA, hl0, hnL, hQQ⟩ := C
  subst hl0; subst hnL; subst hR
  intro r M' ho H locs ls hW hG hS hl
  refine lv_icmp_ge hx hb d ht (fun q => h1 r M' ?_ H locs ls hW hG hS hl) (fun q => h2 r M' ?_ H locs ls hW hG hS hl)
  · rw [if_pos q] at ho; exact ho
  · rw [if_neg q] at ho; exact ho
theorem vj_icmp_gt (C : Fj x l0 cc nL0 Ts own mn rm rt q0) {a b : Int32} {off : Int} {tgt : Nat} {o1 o2 : Rr} (d : decode cc pc = .ok (.if_icmp .gt off, 3)) (ht : (pc : Int) + off = (tgt : Int)) (h1 : Vj x n k tgt lv st M o1) (h2 : Vj x n k (pc + 3) lv st M o2) : Vj x n k pc lv (.int b :: .int a :: st) M (if b < a then o1 else o2) := by
  obtain ⟨p, l, e, R, s, m, args, below, meth, c, D, cA, A, QQ, nL⟩ := x
  obtain ⟨⟨hx, hb, hml, hown, hts⟩, hK, hR, hlo, hrt, hmn, hA, hl0, hnL, hQQ⟩ := C
  subst hl0; subst hnL; subst hR
  intro r M' ho H locs ls hW hG hS hl
  refine lv_icmp_gt hx hb d ht (fun q => h1 r M' ?_ H locs ls hW hG hS hl) (fun q => h2 r M' ?_ H locs ls hW hG hS hl)
  · rw [if_pos q] at ho; exact ho
  · rw [if_neg q] at ho; exact ho
theorem vj_icmp_le (C : Fj x l0 cc nL0 Ts own mn rm rt q0) {a b : Int32} {off : Int} {tgt : Nat} {o1 o2 : Rr} (d : decode cc pc = .ok (.if_icmp .le off, 3)) (ht : (pc : Int) + off = (tgt : Int)) (h1 : Vj x n k tgt lv st M o1) (h2 : Vj x n k (pc + 3) lv st M o2) : Vj x n k pc lv (.int b :: .int a :: st) M (if a ≤ b then o1 else o2) := by
  obtain ⟨p, l, e, R, s, m, args, below, meth, c, D, cA, A, QQ, nL⟩ := x
  obtain ⟨⟨hx, hb, hml, hown, hts⟩, hK, hR, hlo, hrt, hmn, hA, hl0, hnL, hQQ⟩ := C
  subst hl0; subst hnL; subst hR
  intro r M' ho H locs ls hW hG hS hl
  refine lv_icmp_le hx hb d ht (fun q => h1 r M' ?_ H locs ls hW hG hS hl) (fun q => h2 r M' ?_ H locs ls hW hG hS hl)
  · rw [if_pos q] at ho; exact ho
  · rw [if_neg q] at ho; exact ho
theorem vj_icmp_ne (C : Fj x l0 cc nL0 Ts own mn rm rt q0) {a b : Int32} {off : Int} {tgt : Nat} {o1 o2 : Rr} (d : decode cc pc = .ok (.if_icmp .ne off, 3)) (ht : (pc : Int) + off = (tgt : Int)) (h1 : Vj x n k tgt lv st M o1) (h2 : Vj x n k (pc + 3) lv st M o2) : Vj x n k pc lv (.int b :: .int a :: st) M (if a = b then o2 else o1) := by
  obtain ⟨p, l, e, R, s, m, args, below, meth, c, D, cA, A, QQ, nL⟩ := x
  obtain ⟨⟨hx, hb, hml, hown, hts⟩, hK, hR, hlo, hrt, hmn, hA, hl0, hnL, hQQ⟩ := C
  subst hl0; subst hnL; subst hR
  intro r M' ho H locs ls hW hG hS hl
  refine lv_icmp_ne hx hb d ht (fun q => h1 r M' ?_ H locs ls hW hG hS hl) (fun q => h2 r M' ?_ H locs ls hW hG hS hl)
  · rw [if_neg q] at ho; exact ho
  · rw [if_pos q] at ho; exact ho
theorem vj_if {q : Prop} [Decidable q] {o1 o2 : Rr} (hq : q) (h : Vj x n k pc lv st M (if q then o1 else o2)) : Vj x n k pc lv st M o1 := by
  rw [if_pos hq] at h; exact h
theorem vj_ifn {q : Prop} [Decidable q] {o1 o2 : Rr} (hq : ¬ q) (h : Vj x n k pc lv st M (if q then o1 else o2)) : Vj x n k pc lv st M o2 := by
  rw [if_neg hq] at h; exact h
/-- a field's link: place idx in own's pool is field kk of class ci -/
def lk_f (Ts : List Cond) (own : String) (idx ci kk : Nat) : Prop := ∃ (Cn : String) (T : u_T) (N : Nat), vwCl[ci]? = some (Cn, T, N) ∧ kk < N ∧ Cond.fieldLink own idx Cn (T kk).2.1 (T kk).2.2.1 ∈ Ts ∧ (T kk).1 = Cn ∧ (∀ w ∈ u_ws Cn T N, w ∈ Ts) ∧ N = cl_n ci
/-- and what may be stored: its type, not final, or in the class's own constructor; the slots are apart -/
def lk_p (own mn : String) (ci kk : Nat) (ty : FieldType) : Prop := ∃ (Cn : String) (T : u_T) (N : Nat) (ty0 : Nat → FieldType), vwCl[ci]? = some (Cn, T, N) ∧ parseFieldDescriptor (T kk).2.2.1 = some ty ∧ ((T kk).2.2.2 = false ∨ ((T kk).2.2.2 = true ∧ mn = "<init>" ∧ (T kk).1 = own)) ∧ (∀ j, j < N → parseFieldDescriptor (T j).2.2.1 = some (ty0 j)) ∧ ∀ a, a < N → ∀ b, b < N → a ≠ b → (T a).2.1 ≠ (T b).2.1
theorem vj_gi (C : Fj x l0 cc nL0 Ts own mn rm rt q0) {idx ci q kk : Nat} {K : Int32 → Rr} (d : decode cc pc = .ok (.getfield idx, 3)) (L : lk_f Ts own idx ci kk) (hr : cl_r ci kk = false) (h : ∀ v, Vj x n k (pc + 3) lv (.int v :: st) M (K v)) : Vj x n k pc lv (.ref q :: st) M (fo_gi M ci q kk K) := by
  obtain ⟨p, l, e, R, s, m, args, below, meth, c, D, cA, A, QQ, nL⟩ := x
  obtain ⟨⟨hx, hb, hml, hown, hts⟩, hK, hR, hlo, hrt, hmn, hA, hl0, hnL, hQQ⟩ := C
  subst hl0; subst hnL; subst hR
  intro r M' ho H locs ls hW hG hS hl
  obtain ⟨Cn, T, N, hc, hk, hm, hd, hin, hN⟩ := L
  unfold fo_gi at ho
  split at ho
  · next h1 =>
    obtain ⟨cell, q1, q2, q3, q4⟩ := hW.ob h1
    obtain ⟨hS', hfc, kC, hkC, hkind⟩ := hK.1.1 ci _ hc
    obtain ⟨cf, kf, fi, f, hi, hsl⟩ := hS' kk hk
    refine W.getf hx hb hown (hts _ hm) (by rw [← hd]; exact hi) (u_facts hfc hkC (u_lays hts hin hk) hi).1 q1 (by rw [q3]; exact fun z => by cases z) (v := .int (mm_i M q kk)) ?_ rfl rfl d (h _ r M' ho H locs ls hW hG hS hl)
    rw [hsl, q4 kk (by rw [← hN]; exact hk)]
    simp [mm_fv, hr]
  · cases ho
theorem vj_gr (C : Fj x l0 cc nL0 Ts own mn rm rt q0) {idx ci q kk : Nat} {K : Nat → Rr} (d : decode cc pc = .ok (.getfield idx, 3)) (L : lk_f Ts own idx ci kk) (hr : cl_r ci kk = true) (h : ∀ v, Vj x n k (pc + 3) lv (.ref v :: st) M (K v)) : Vj x n k pc lv (.ref q :: st) M (fo_gr M ci q kk K) := by
  obtain ⟨p, l, e, R, s, m, args, below, meth, c, D, cA, A, QQ, nL⟩ := x
  obtain ⟨⟨hx, hb, hml, hown, hts⟩, hK, hR, hlo, hrt, hmn, hA, hl0, hnL, hQQ⟩ := C
  subst hl0; subst hnL; subst hR
  intro r M' ho H locs ls hW hG hS hl
  obtain ⟨Cn, T, N, hc, hk, hm, hd, hin, hN⟩ := L
  unfold fo_gr at ho
  split at ho
  · next h1 =>
    split at ho
    · next a ha =>
      obtain ⟨cell, q1, q2, q3, q4⟩ := hW.ob h1
      obtain ⟨hS', hfc, kC, hkC, hkind⟩ := hK.1.1 ci _ hc
      obtain ⟨cf, kf, fi, f, hi, hsl⟩ := hS' kk hk
      refine W.getf hx hb hown (hts _ hm) (by rw [← hd]; exact hi) (u_facts hfc hkC (u_lays hts hin hk) hi).1 q1 (by rw [q3]; exact fun z => by cases z) (v := .ref a) ?_ rfl rfl d (h _ r M' ho H locs ls hW hG hS hl)
      rw [hsl, q4 kk (by rw [← hN]; exact hk)]
      simp [mm_fv, hr, ha, va_rf]
    · cases ho
  · cases ho
/-- the core of a store into a field -/
theorem vj_p0 (C : Fj x l0 cc nL0 Ts own mn rm rt q0) {idx ci q kk : Nat} {v : Value} {ty : FieldType} {M2 : Mm} (d : decode cc pc = .ok (.putfield idx, 3)) (L : lk_f Ts own idx ci kk) (L2 : lk_p own mn ci kk ty) (hs : mm_s M q = (1, ci)) (hn : narrow ty v = v) (hf : fits ty v = true) (he : mm_eo M M2 q) (hv : ∀ j, mm_fv M2 ci q j = updV (mm_fv M ci q) kk v j) (h : Vj x n k (pc + 3) lv st M2 o) : Vj x n k pc lv (v :: .ref q :: st) M o := by
  obtain ⟨p, l, e, R, s, m, args, below, meth, c, D, cA, A, QQ, nL⟩ := x
  obtain ⟨⟨hx, hb, hml, hown, hts⟩, hK, hR, hlo, hrt, hmn, hA, hl0, hnL, hQQ⟩ := C
  subst hl0; subst hnL; subst hR
  intro r M' ho H locs ls hW hG hS hl
  obtain ⟨Cn, T, N, hc, hk, hm, hd, hin, hN⟩ := L
  obtain ⟨Cn', T', N', ty0, hc', hty, hfin, htys, hnm⟩ := L2
  cases hc.symm.trans hc'
  have hap := va_apart (own := own) hts hin ty0 htys hnm hK.1 hc
  obtain ⟨cell, q1, q2, q3, q4⟩ := hW.ob hs
  rw [← hN] at q4
  obtain ⟨hS', hfc, kC, hkC, hkind⟩ := hK.1.1 ci _ hc
  obtain ⟨cf, kf, fi, f, hi, hsl⟩ := hS' kk hk
  have hlay := hts _ (hin _ (u_in_lay hk))
  unfold u_lay at hlay
  have hst := (u_facts hfc hkC (u_lays hts hin hk) hi).1
  have hw : mm_w M q := by unfold mm_w; rw [hs]; simp
  have fin : ∀ H' : Heap, H'[q]? = some (cell.setSlot f.slot v) → H'.size = H.size → (∀ a, a ≠ q → H'[a]? = H[a]?) → W p l e R s m args below meth c H' (locs ++ [⟨q, f.slot⟩]) n k (QQ r M') (F0 m (pc + 3) ls st) := by
    intro H' e1 e2 e3
    rw [hsl] at e1
    refine h r M' ho H' _ ls (hW.set he e2 e3 ?_) (hG.set he.2.1) (hS.put e2 e3 (hG q hw)) hl
    unfold mm_at
    rw [he.2.1, hs]
    refine t_OB.to (V := updV (mm_fv M ci q) kk v) ⟨_, e1, q2, q3, ?_⟩ (fun j _ => (hv j).symm)
    rw [← hN]
    exact t_set q4 hap hk v
  rcases hfin with hfin | ⟨hfin, hmn2, hdecl⟩
  · rw [if_neg (by rw [hfin]; decide)] at hlay
    have h6 := u_store hfc hkC hkind hlay hi hty hn hf
    exact W.putK hx hb (f := f) ⟨hown, hts _ hm, ⟨_, _, _, by rw [← hd]; exact hi⟩, hst⟩ (by rw [q2]; exact h6) q1 q3 (by rw [hsl]; exact k2_hasslot (q4 kk hk)) rfl rfl d fin
  · rw [if_pos hfin] at hlay
    have hcf : m.cls = cf := by
      obtain ⟨_, _, c', _, _, _, -, -, hf', -, -, -, hown2, -⟩ := Cond.laysFinal_spec hlay
      have e1 : c' = cf := by have := hi.symm.trans hf'; simp at this; exact this.1.symm
      rw [hdecl] at hown2
      rw [← e1]; exact Option.some.inj (hown.symm.trans hown2)
    have h6 := u_fits hfc hkC hkind (Or.inr hlay) hi hty hn hf
    exact W.putFinK hx hb hown (hts _ hm) (by rw [← hd]; exact hi) hst hcf (hmn.trans hmn2) (by rw [q2]; exact h6) q1 q3 (by rw [hsl]; exact k2_hasslot (q4 kk hk)) rfl rfl d fin
theorem mm_fv_pi {M : Mm} {ci q kk : Nat} {v : Int32} (hr : cl_r ci kk = false) (j : Nat) : mm_fv (mm_pi M q kk v) ci q j = updV (mm_fv M ci q) kk (.int v) j := by
  by_cases h : j = kk
  · subst h; simp [mm_fv, hr, updV, mm_pi, mm_i, up_2]
  · simp [mm_fv, updV, mm_pi, mm_i, mm_r, up_2, h]
theorem mm_fv_pr {M : Mm} {ci q kk a : Nat} (hr : cl_r ci kk = true) (j : Nat) : mm_fv (mm_pr M q kk (some a)) ci q j = updV (mm_fv M ci q) kk (.ref a) j := by
  by_cases h : j = kk
  · subst h; simp [mm_fv, hr, updV, mm_pr, mm_r, up_2, va_rf]
  · simp [mm_fv, updV, mm_pr, mm_i, mm_r, up_2, h]
theorem vj_of {o2 : Rr} (h : ∀ r M', o2 = some (r, M') → o = some (r, M')) (hv : Vj x n k pc lv st M o) : Vj x n k pc lv st M o2 := by
  obtain ⟨p, l, e, R, s, m, args, below, meth, c, D, cA, A, QQ, nL⟩ := x
  intro r M' ho
  exact hv r M' (h r M' ho)
theorem vj_ite {q : Prop} [Decidable q] {o1 : Rr} (h : q → Vj x n k pc lv st M o1) : Vj x n k pc lv st M (if q then o1 else none) := by
  by_cases hq : q
  · rw [if_pos hq]; exact h hq
  · rw [if_neg hq]; exact Vj_none
theorem vj_pi (C : Fj x l0 cc nL0 Ts own mn rm rt q0) {idx ci q kk : Nat} {v : Int32} {K : Mm → Rr} (d : decode cc pc = .ok (.putfield idx, 3)) (L : lk_f Ts own idx ci kk) (L2 : lk_p own mn ci kk .int) (hr : cl_r ci kk = false) (h : ∀ M2, Vj x n k (pc + 3) lv st M2 (K M2)) : Vj x n k pc lv (.int v :: .ref q :: st) M (fo_pi M ci q kk v K) :=
  vj_ite fun h1 => vj_p0 C d L L2 h1 rfl rfl (mm_eo_pi M q kk v) (mm_fv_pi hr) (h _)
theorem vj_pz (C : Fj x l0 cc nL0 Ts own mn rm rt q0) {idx ci q kk : Nat} {v : Int32} {K : Mm → Rr} (d : decode cc pc = .ok (.putfield idx, 3)) (L : lk_f Ts own idx ci kk) (L2 : lk_p own mn ci kk .boolean) (hr : cl_r ci kk = false) (h : ∀ M2, Vj x n k (pc + 3) lv st M2 (K M2)) : Vj x n k pc lv (.int v :: .ref q :: st) M (fo_pz M ci q kk v K) :=
  vj_ite fun h1 => vj_p0 C d L L2 h1.1 (by rcases h1.2 with e | e <;> rw [e] <;> decide) (by rcases h1.2 with e | e <;> rw [e] <;> decide) (mm_eo_pi M q kk v) (mm_fv_pi hr) (h _)
theorem vj_pr (C : Fj x l0 cc nL0 Ts own mn rm rt q0) {idx ci q kk a : Nat} {ty : FieldType} {K : Mm → Rr} (d : decode cc pc = .ok (.putfield idx, 3)) (L : lk_f Ts own idx ci kk) (L2 : lk_p own mn ci kk ty) (hr : cl_r ci kk = true) (hn : narrow ty (.ref a) = .ref a) (hf : fits ty (.ref a) = true) (h : ∀ M2, Vj x n k (pc + 3) lv st M2 (K M2)) : Vj x n k pc lv (.ref a :: .ref q :: st) M (fo_pr M ci q kk a K) :=
  vj_ite fun h1 => vj_p0 C d L L2 h1 hn hf (mm_eo_pr M q kk (some a)) (mm_fv_pr hr) (h _)
theorem vj_iald (C : Fj x l0 cc nL0 Ts own mn rm rt q0) {t q : Nat} {i : Int32} {K : Int32 → Rr} (d : decode cc pc = .ok (.iaload, 1)) (ht : t < 7 ∧ t ≠ 3 ∧ t ≠ 4 ∧ t ≠ 5 ∧ tg_ty t = .int) (h : ∀ v, Vj x n k (pc + 1) lv (.int v :: st) M (K v)) : Vj x n k pc lv (.int i :: .ref q :: st) M (fo_ai M t q i K) := by
  obtain ⟨p, l, e, R, s, m, args, below, meth, c, D, cA, A, QQ, nL⟩ := x
  obtain ⟨⟨hx, hb, hml, hown, hts⟩, hK, hR, hlo, hrt, hmn, hA, hl0, hnL, hQQ⟩ := C
  subst hl0; subst hnL; subst hR
  intro r M' ho H locs ls hW hG hS hl
  unfold fo_ai at ho
  split at ho
  · next h1 =>
    obtain ⟨cell, q1, q2, q3, q4, q5, q6⟩ := hW.ar (t := t) (n := (mm_s M q).2) (Prod.ext h1.1 rfl)
    obtain ⟨kA, comp, k1, k2, -, -⟩ := hK.2.1 t ht.1
    have hlt : i.toNatClampNeg < (mm_s M q).2 := Nat.not_le.mp fun z => h1.2 (Or.inr z)
    refine W.iald (v := .int (mm_i M q i.toNatClampNeg)) hx hb q1 ⟨q3, kA, by rw [q2]; exact k1, comp, by rw [k2, ht.2.2.2.2]⟩ q4 (by rw [q5]; exact h1.2) ?_ rfl rfl d (h _ r M' ho H locs ls hW hG hS hl)
    rw [q6 _ hlt]
    simp [mm_av, ht.2.1, ht.2.2.1, ht.2.2.2.1]
  · cases ho
theorem vj_zald (C : Fj x l0 cc nL0 Ts own mn rm rt q0) {t q : Nat} {i : Int32} {K : Int32 → Rr} (d : decode cc pc = .ok (.baload, 1)) (ht : t < 7 ∧ t ≠ 3 ∧ t ≠ 4 ∧ t ≠ 5 ∧ tg_ty t = .boolean) (h : ∀ v, Vj x n k (pc + 1) lv (.int v :: st) M (K v)) : Vj x n k pc lv (.int i :: .ref q :: st) M (fo_ai M t q i K) := by
  obtain ⟨p, l, e, R, s, m, args, below, meth, c, D, cA, A, QQ, nL⟩ := x
  obtain ⟨⟨hx, hb, hml, hown, hts⟩, hK, hR, hlo, hrt, hmn, hA, hl0, hnL, hQQ⟩ := C
  subst hl0; subst hnL; subst hR
  intro r M' ho H locs ls hW hG hS hl
  unfold fo_ai at ho
  split at ho
  · next h1 =>
    obtain ⟨cell, q1, q2, q3, q4, q5, q6⟩ := hW.ar (t := t) (n := (mm_s M q).2) (Prod.ext h1.1 rfl)
    obtain ⟨kA, comp, k1, k2, -, -⟩ := hK.2.1 t ht.1
    have hlt : i.toNatClampNeg < (mm_s M q).2 := Nat.not_le.mp fun z => h1.2 (Or.inr z)
    refine W.zald (v := .int (mm_i M q i.toNatClampNeg)) hx hb q1 ⟨q3, kA, by rw [q2]; exact k1, comp, by rw [k2, ht.2.2.2.2]⟩ q4 (by rw [q5]; exact h1.2) ?_ rfl rfl d (h _ r M' ho H locs ls hW hG hS hl)
    rw [q6 _ hlt]
    simp [mm_av, ht.2.1, ht.2.2.1, ht.2.2.2.1]
  · cases ho
theorem vj_cald (C : Fj x l0 cc nL0 Ts own mn rm rt q0) {t q : Nat} {i : Int32} {K : Int32 → Rr} (d : decode cc pc = .ok (.caload, 1)) (ht : t < 7 ∧ t ≠ 3 ∧ t ≠ 4 ∧ t ≠ 5 ∧ tg_ty t = .char) (h : ∀ v, Vj x n k (pc + 1) lv (.int v :: st) M (K v)) : Vj x n k pc lv (.int i :: .ref q :: st) M (fo_ai M t q i K) := by
  obtain ⟨p, l, e, R, s, m, args, below, meth, c, D, cA, A, QQ, nL⟩ := x
  obtain ⟨⟨hx, hb, hml, hown, hts⟩, hK, hR, hlo, hrt, hmn, hA, hl0, hnL, hQQ⟩ := C
  subst hl0; subst hnL; subst hR
  intro r M' ho H locs ls hW hG hS hl
  unfold fo_ai at ho
  split at ho
  · next h1 =>
    obtain ⟨cell, q1, q2, q3, q4, q5, q6⟩ := hW.ar (t := t) (n := (mm_s M q).2) (Prod.ext h1.1 rfl)
    obtain ⟨kA, comp, k1, k2, -, -⟩ := hK.2.1 t ht.1
    have hlt : i.toNatClampNeg < (mm_s M q).2 := Nat.not_le.mp fun z => h1.2 (Or.inr z)
    refine W.cald (v := .int (mm_i M q i.toNatClampNeg)) hx hb q1 ⟨q3, kA, by rw [q2]; exact k1, comp, by rw [k2, ht.2.2.2.2]⟩ q4 (by rw [q5]; exact h1.2) ?_ rfl rfl d (h _ r M' ho H locs ls hW hG hS hl)
    rw [q6 _ hlt]
    simp [mm_av, ht.2.1, ht.2.2.1, ht.2.2.2.1]
  · cases ho
theorem vj_lald (C : Fj x l0 cc nL0 Ts own mn rm rt q0) {q : Nat} {i : Int32} {K : Int64 → Rr} (d : decode cc pc = .ok (.laload, 1)) (h : ∀ v, Vj x n k (pc + 1) lv (.long v :: st) M (K v)) : Vj x n k pc lv (.int i :: .ref q :: st) M (fo_al M q i K) := by
  obtain ⟨p, l, e, R, s, m, args, below, meth, c, D, cA, A, QQ, nL⟩ := x
  obtain ⟨⟨hx, hb, hml, hown, hts⟩, hK, hR, hlo, hrt, hmn, hA, hl0, hnL, hQQ⟩ := C
  subst hl0; subst hnL; subst hR
  intro r M' ho H locs ls hW hG hS hl
  unfold fo_al at ho
  split at ho
  · next h1 =>
    obtain ⟨cell, q1, q2, q3, q4, q5, q6⟩ := hW.ar (t := 3) (n := (mm_s M q).2) (Prod.ext h1.1 rfl)
    obtain ⟨kA, comp, k1, k2, -, -⟩ := hK.2.1 3 (by decide)
    have hlt : i.toNatClampNeg < (mm_s M q).2 := Nat.not_le.mp fun z => h1.2 (Or.inr z)
    refine W.lald (v := .long (mm_l M q i.toNatClampNeg)) hx hb q1 ⟨q3, kA, by rw [q2]; exact k1, comp, k2⟩ q4 (by rw [q5]; exact h1.2) ?_ rfl rfl d (h _ r M' ho H locs ls hW hG hS hl)
    rw [q6 _ hlt]
    simp [mm_av]
  · cases ho
theorem vj_aald (C : Fj x l0 cc nL0 Ts own mn rm rt q0) {t q : Nat} {i : Int32} {K : Nat → Rr} (d : decode cc pc = .ok (.aaload, 1)) (ht : t = 4 ∨ t = 5) (h : ∀ v, Vj x n k (pc + 1) lv (.ref v :: st) M (K v)) : Vj x n k pc lv (.int i :: .ref q :: st) M (fo_ar M t q i K) := by
  obtain ⟨p, l, e, R, s, m, args, below, meth, c, D, cA, A, QQ, nL⟩ := x
  obtain ⟨⟨hx, hb, hml, hown, hts⟩, hK, hR, hlo, hrt, hmn, hA, hl0, hnL, hQQ⟩ := C
  subst hl0; subst hnL; subst hR
  intro r M' ho H locs ls hW hG hS hl
  unfold fo_ar at ho
  split at ho
  · next h1 =>
    split at ho
    · next a ha =>
      obtain ⟨cell, q1, q2, q3, q4, q5, q6⟩ := hW.ar (t := t) (n := (mm_s M q).2) (Prod.ext h1.1 rfl)
      obtain ⟨kA, comp, k1, k2, -, -⟩ := hK.2.1 t (by omega)
      have hlt : i.toNatClampNeg < (mm_s M q).2 := Nat.not_le.mp fun z => h1.2 (Or.inr z)
      refine W.aald (v := .ref a) (ty := tg_ty t) hx hb q1 ⟨q3, kA, by rw [q2]; exact k1, comp, k2⟩ (by rcases ht with e | e <;> rw [e] <;> rfl) q4 (by rw [q5]; exact h1.2) ?_ rfl rfl d (h _ r M' ho H locs ls hW hG hS hl)
      rw [q6 _ hlt]
      have h3 : t ≠ 3 := by omega
      simp [mm_av, ha, ht, h3, va_rf]
    · cases ho
  · cases ho
theorem vj_alen (C : Fj x l0 cc nL0 Ts own mn rm rt q0) {t q : Nat} {K : Int32 → Rr} (d : decode cc pc = .ok (.arraylength, 1)) (ht : t < 7) (h : ∀ v, Vj x n k (pc + 1) lv (.int v :: st) M (K v)) : Vj x n k pc lv (.ref q :: st) M (fo_an M t q K) := by
  obtain ⟨p, l, e, R, s, m, args, below, meth, c, D, cA, A, QQ, nL⟩ := x
  obtain ⟨⟨hx, hb, hml, hown, hts⟩, hK, hR, hlo, hrt, hmn, hA, hl0, hnL, hQQ⟩ := C
  subst hl0; subst hnL; subst hR
  intro r M' ho H locs ls hW hG hS hl
  unfold fo_an at ho
  split at ho
  · next h1 =>
    obtain ⟨cell, q1, q2, q3, q4, q5, q6⟩ := hW.ar (t := t) (n := (mm_s M q).2) (Prod.ext h1 rfl)
    obtain ⟨kA, comp, k1, k2, -, -⟩ := hK.2.1 t ht
    exact W.alen (n := Int32.ofNat (mm_s M q).2) hx hb q1 ⟨q3, kA, by rw [q2]; exact k1, comp, k2⟩ (by rw [q5]) rfl rfl d (h _ r M' ho H locs ls hW hG hS hl)
  · cases ho
/-- the core of a store into an array -/
theorem ar_set {D : va_G} {cA : Nat → ClassId} {M M2 : Mm} {q t j n0 : Nat} {H H2 : Heap} {v : Value} (hW : mm_W D cA M H) (hs : mm_s M q = (t + 2, n0)) (h6 : t ≠ 6) (he : mm_eo M M2 q) (hv : ∀ b, mm_av M2 t q b = updV (mm_av M t q) j v b)
    (e1 : H2[q]? = some ((arrV (cA t) n0 (mm_av M t q)).setSlot j v)) (e2 : H2.size = H.size) (e3 : ∀ a : Nat, a ≠ q → H2[a]? = H[a]?) : mm_W D cA M2 H2 := by
  refine hW.set he e2 e3 ?_
  unfold mm_at
  rw [he.2.1, hs]
  simp only
  rw [if_neg h6, e1, arrV_store, funext hv]
theorem vj_iast (C : Fj x l0 cc nL0 Ts own mn rm rt q0) {q : Nat} {i v : Int32} {K : Mm → Rr} (d : decode cc pc = .ok (.iastore, 1)) (h : ∀ M2, Vj x n k (pc + 1) lv st M2 (K M2)) : Vj x n k pc lv (.int v :: .int i :: .ref q :: st) M (fo_si M q i v K) := by
  obtain ⟨p, l, e, R, s, m, args, below, meth, c, D, cA, A, QQ, nL⟩ := x
  obtain ⟨⟨hx, hb, hml, hown, hts⟩, hK, hR, hlo, hrt, hmn, hA, hl0, hnL, hQQ⟩ := C
  subst hl0; subst hnL; subst hR
  intro r M' ho H locs ls hW hG hS hl
  unfold fo_si at ho
  split at ho
  · next h1 =>
    have hs : mm_s M q = (0 + 2, (mm_s M q).2) := Prod.ext h1.1 rfl
    have q1 := hW.av hs (by decide)
    obtain ⟨kA, comp, k1, k2, -, -⟩ := hK.2.1 0 (by decide)
    have hw : mm_w M q := by unfold mm_w; rw [hs]; simp
    refine W.iast hx hb q1 ⟨(fun _ z => by cases z), kA, k1, comp, k2⟩ (fun z => by cases z) (by rw [arrV_size]; exact h1.2) rfl rfl d fun H2 e1 e2 e3 => ?_
    refine h _ r M' ho H2 _ ls (ar_set hW hs (by decide) (mm_eo_pi M q _ _) (fun b => ?_) e1 e2 e3) (hG.set rfl) (hS.put e2 e3 (hG q hw)) hl
    by_cases hb2 : b = i.toNatClampNeg
    · subst hb2; simp [mm_av, updV, mm_pi, mm_i, up_2]; try rfl
    · simp [mm_av, updV, mm_pi, mm_i, mm_r, mm_l, up_2, hb2]
  · cases ho
theorem vj_zast (C : Fj x l0 cc nL0 Ts own mn rm rt q0) {q : Nat} {i v : Int32} {K : Mm → Rr} (d : decode cc pc = .ok (.bastore, 1)) (h : ∀ M2, Vj x n k (pc + 1) lv st M2 (K M2)) : Vj x n k pc lv (.int v :: .int i :: .ref q :: st) M (fo_sz M q i v K) := by
  obtain ⟨p, l, e, R, s, m, args, below, meth, c, D, cA, A, QQ, nL⟩ := x
  obtain ⟨⟨hx, hb, hml, hown, hts⟩, hK, hR, hlo, hrt, hmn, hA, hl0, hnL, hQQ⟩ := C
  subst hl0; subst hnL; subst hR
  intro r M' ho H locs ls hW hG hS hl
  unfold fo_sz at ho
  split at ho
  · next h1 =>
    have hs : mm_s M q = (1 + 2, (mm_s M q).2) := Prod.ext h1.1 rfl
    have q1 := hW.av hs (by decide)
    obtain ⟨kA, comp, k1, k2, -, -⟩ := hK.2.1 1 (by decide)
    have hw : mm_w M q := by unfold mm_w; rw [hs]; simp
    refine W.zast hx hb q1 ⟨(fun _ z => by cases z), kA, k1, comp, k2⟩ (fun z => by cases z) (by rw [arrV_size]; exact h1.2) rfl rfl d fun H2 e1 e2 e3 => ?_
    refine h _ r M' ho H2 _ ls (ar_set hW hs (by decide) (mm_eo_pi M q _ _) (fun b => ?_) e1 e2 e3) (hG.set rfl) (hS.put e2 e3 (hG q hw)) hl
    by_cases hb2 : b = i.toNatClampNeg
    · subst hb2; simp [mm_av, updV, mm_pi, mm_i, up_2]; try rfl
    · simp [mm_av, updV, mm_pi, mm_i, mm_r, mm_l, up_2, hb2]
  · cases ho
theorem vj_cast (C : Fj x l0 cc nL0 Ts own mn rm rt q0) {q : Nat} {i v : Int32} {K : Mm → Rr} (d : decode cc pc = .ok (.castore, 1)) (h : ∀ M2, Vj x n k (pc + 1) lv st M2 (K M2)) : Vj x n k pc lv (.int v :: .int i :: .ref q :: st) M (fo_sc M q i v K) := by
  obtain ⟨p, l, e, R, s, m, args, below, meth, c, D, cA, A, QQ, nL⟩ := x
  obtain ⟨⟨hx, hb, hml, hown, hts⟩, hK, hR, hlo, hrt, hmn, hA, hl0, hnL, hQQ⟩ := C
  subst hl0; subst hnL; subst hR
  intro r M' ho H locs ls hW hG hS hl
  unfold fo_sc at ho
  split at ho
  · next h1 =>
    have hs : mm_s M q = (2 + 2, (mm_s M q).2) := Prod.ext h1.1 rfl
    have q1 := hW.av hs (by decide)
    obtain ⟨kA, comp, k1, k2, -, -⟩ := hK.2.1 2 (by decide)
    have hw : mm_w M q := by unfold mm_w; rw [hs]; simp
    refine W.cast hx hb q1 ⟨(fun _ z => by cases z), kA, k1, comp, k2⟩ (fun z => by cases z) (by rw [arrV_size]; exact h1.2) rfl rfl d fun H2 e1 e2 e3 => ?_
    refine h _ r M' ho H2 _ ls (ar_set hW hs (by decide) (mm_eo_pi M q _ _) (fun b => ?_) e1 e2 e3) (hG.set rfl) (hS.put e2 e3 (hG q hw)) hl
    by_cases hb2 : b = i.toNatClampNeg
    · subst hb2; simp [mm_av, updV, mm_pi, mm_i, up_2]; try rfl
    · simp [mm_av, updV, mm_pi, mm_i, mm_r, mm_l, up_2, hb2]
  · cases ho
theorem vj_last (C : Fj x l0 cc nL0 Ts own mn rm rt q0) {q : Nat} {i : Int32} {v : Int64} {K : Mm → Rr} (d : decode cc pc = .ok (.lastore, 1)) (h : ∀ M2, Vj x n k (pc + 1) lv st M2 (K M2)) : Vj x n k pc lv (.long v :: .int i :: .ref q :: st) M (fo_sl M q i v K) := by
  obtain ⟨p, l, e, R, s, m, args, below, meth, c, D, cA, A, QQ, nL⟩ := x
  obtain ⟨⟨hx, hb, hml, hown, hts⟩, hK, hR, hlo, hrt, hmn, hA, hl0, hnL, hQQ⟩ := C
  subst hl0; subst hnL; subst hR
  intro r M' ho H locs ls hW hG hS hl
  unfold fo_sl at ho
  split at ho
  · next h1 =>
    have hs : mm_s M q = (3 + 2, (mm_s M q).2) := Prod.ext h1.1 rfl
    have q1 := hW.av hs (by decide)
    obtain ⟨kA, comp, k1, k2, -, -⟩ := hK.2.1 3 (by decide)
    have hw : mm_w M q := by unfold mm_w; rw [hs]; simp
    refine W.last hx hb q1 ⟨(fun _ z => by cases z), kA, k1, comp, k2⟩ (fun z => by cases z) (by rw [arrV_size]; exact h1.2) rfl rfl d fun H2 e1 e2 e3 => ?_
    refine h _ r M' ho H2 _ ls (ar_set hW hs (by decide) (mm_eo_pl M q _ _) (fun b => ?_) e1 e2 e3) (hG.set rfl) (hS.put e2 e3 (hG q hw)) hl
    by_cases hb2 : b = i.toNatClampNeg
    · subst hb2; simp [mm_av, updV, mm_pl, mm_l, up_2]
    · simp [mm_av, updV, mm_pl, mm_i, mm_r, mm_l, up_2, hb2]
  · cases ho
theorem vj_aast (C : Fj x l0 cc nL0 Ts own mn rm rt q0) {t ci q a : Nat} {i : Int32} {K : Mm → Rr} (d : decode cc pc = .ok (.aastore, 1)) (ht : t = 4 ∨ t = 5) (hcl : ∃ (T : u_T) (N : Nat) (Cn : String), vwCl[ci]? = some (Cn, T, N) ∧ tg_ty t = .object Cn) (h : ∀ M2, Vj x n k (pc + 1) lv st M2 (K M2)) : Vj x n k pc lv (.ref a :: .int i :: .ref q :: st) M (fo_sr M t ci q i a K) := by
  obtain ⟨p, l, e, R, s, m, args, below, meth, c, D, cA, A, QQ, nL⟩ := x
  obtain ⟨⟨hx, hb, hml, hown, hts⟩, hK, hR, hlo, hrt, hmn, hA, hl0, hnL, hQQ⟩ := C
  subst hl0; subst hnL; subst hR
  intro r M' ho H locs ls hW hG hS hl
  unfold fo_sr at ho
  split at ho
  · next h1 =>
    obtain ⟨T, N, Cn, hc, hty⟩ := hcl
    have hs : mm_s M q = (t + 2, (mm_s M q).2) := Prod.ext h1.1 rfl
    have q1 := hW.av hs (by omega)
    obtain ⟨kA, comp, k1, k2, k3, k4⟩ := hK.2.1 t (by omega)
    obtain ⟨cellV, g1, g2, g3, -⟩ := hW.ob h1.2.2
    have hcls := (hK.1.1 ci _ hc).2
    have hcomp : comp = D.1 ci := Option.some.inj ((k4 Cn hty).symm.trans hcls.1)
    subst hcomp
    obtain ⟨kC, hkC, -⟩ := hcls.2
    have hw : mm_w M q := by unfold mm_w; rw [hs]; simp; omega
    have hlt : i.toNatClampNeg < (mm_s M q).2 := Nat.not_le.mp fun z => h1.2.1 (Or.inr z)
    have h0 : ¬ i < 0 := fun z => h1.2.1 (Or.inl z)
    refine W.aast hx hb q1 (fun _ z => by cases z) (fun z => by cases z) k1 k2 (by rw [hty]; rfl) hkC ⟨h0, by rw [arrV_size]; exact hlt⟩ g1 (fun z hz => by rw [g3] at hz; cases hz) (by rw [g2]; exact hkC) (by rw [g2]; exact va_assign hcls) rfl rfl d fun H2 e1 e2 e3 => ?_
    refine h _ r M' ho H2 _ ls (ar_set hW hs (by omega) (mm_eo_pr M q _ _) (fun b => ?_) e1 e2 e3) (hG.set rfl) (hS.put e2 e3 (hG q hw)) hl
    have h3 : t ≠ 3 := by omega
    by_cases hb2 : b = i.toNatClampNeg
    · subst hb2; simp [mm_av, updV, mm_pr, mm_r, up_2, ht, h3, va_rf]
    · simp [mm_av, updV, mm_pr, mm_i, mm_r, mm_l, up_2, hb2]
  · cases ho
theorem vj_ret (C : Fj x l0 cc nL0 Ts own mn rm rt (nq vo0 mc0 ms0)) {v : Int32} (d : decode cc pc = .ok (.ireturn, 1)) (hrt2 : rt = some .int) (hv : vo0 = fun w => some (.int w)) (hn : n ≤ mc0) (hk : k ≤ ms0) : Vj x n k pc lv [.int v] M (some (v, M)) := by
  obtain ⟨p, l, e, R, s, m, args, below, meth, c, D, cA, A, QQ, nL⟩ := x
  obtain ⟨⟨hx, hb, hml, hown, hts⟩, hK, hR, hlo, hrt, hmn, hA, hl0, hnL, hQQ⟩ := C
  subst hl0; subst hnL; subst hR
  intro r M' ho H locs ls hW hG hS hl
  cases ho
  subst hQQ
  refine W.widen hn hk ?_
  exact W.iret hx hb (hrt.trans hrt2) (fun t ht hWm => ⟨by rw [hv], by rw [ht]; exact hW, hG, hS.F ht⟩) hS.2.2 d hlo
theorem vj_retz (C : Fj x l0 cc nL0 Ts own mn rm rt (nq vo0 mc0 ms0)) {v : Int32} (d : decode cc pc = .ok (.ireturn, 1)) (hrt2 : rt = some .boolean) (hv : vo0 = fun w => some (.int w)) (hn : n ≤ mc0) (hk : k ≤ ms0) : Vj x n k pc lv [.int v] M (fo_rz v M) := by
  obtain ⟨p, l, e, R, s, m, args, below, meth, c, D, cA, A, QQ, nL⟩ := x
  obtain ⟨⟨hx, hb, hml, hown, hts⟩, hK, hR, hlo, hrt, hmn, hA, hl0, hnL, hQQ⟩ := C
  subst hl0; subst hnL; subst hR
  intro r M' ho H locs ls hW hG hS hl
  unfold fo_rz at ho
  split at ho
  · next h1 =>
    cases ho
    subst hQQ
    refine W.widen hn hk ?_
    exact W.zret hx hb (hrt.trans hrt2) (by rcases h1 with e | e <;> rw [e] <;> decide) (fun t ht hWm => ⟨by rw [hv], by rw [ht]; exact hW, hG, hS.F ht⟩) hS.2.2 d hlo
  · cases ho
theorem vj_retv (C : Fj x l0 cc nL0 Ts own mn rm rt (nq vo0 mc0 ms0)) (d : decode cc pc = .ok (.return_, 1)) (hrt2 : rt = none) (hv : vo0 = fun _ => none) (hn : n ≤ mc0) (hk : k ≤ ms0) : Vj x n k pc lv [] M (some (0, M)) := by
  obtain ⟨p, l, e, R, s, m, args, below, meth, c, D, cA, A, QQ, nL⟩ := x
  obtain ⟨⟨hx, hb, hml, hown, hts⟩, hK, hR, hlo, hrt, hmn, hA, hl0, hnL, hQQ⟩ := C
  subst hl0; subst hnL; subst hR
  intro r M' ho H locs ls hW hG hS hl
  cases ho
  subst hQQ
  refine W.widen hn hk ?_
  exact W.vret hx hb (hrt.trans hrt2) (fun t ht hWm => ⟨by rw [hv], by rw [ht]; exact hW, hG, hS.F ht⟩) hS.2.2 d hlo
theorem vj_ts (C : Fj x l0 cc nL0 Ts own mn rm rt q0) {dflt lo hi : Int} {offs : Array Int} {len : Nat} {v cs : Int32} {off : Int} {tgt : Nat} {o1 o2 : Rr} (d : decode cc pc = .ok (.tableswitch dflt lo hi offs, len)) (hq : lo ≤ cs.toInt ∧ cs.toInt ≤ hi ∧ offs[(cs.toInt - lo).toNat]? = some off) (ht : (pc : Int) + off = (tgt : Int)) (h1 : Vj x n k tgt lv st M o1) (h2 : ¬ v = cs → Vj x n k pc lv (.int v :: st) M o2) : Vj x n k pc lv (.int v :: st) M (if v = cs then o1 else o2) := by
  by_cases hv : v = cs
  · rw [if_pos hv]
    subst hv
    obtain ⟨p, l, e, R, s, m, args, below, meth, c, D, cA, A, QQ, nL⟩ := x
    obtain ⟨⟨hx, hb, hml, hown, hts⟩, hrest⟩ := C
    intro r M' ho H locs ls hW hG hS hl
    exact lv_tableIn hx hb d (by omega) (by omega) hq.2.2 ht (h1 r M' ho H locs ls hW hG hS hl)
  · rw [if_neg hv]
    exact h2 hv
theorem vj_tsd (C : Fj x l0 cc nL0 Ts own mn rm rt q0) {dflt lo hi : Int} {offs : Array Int} {len : Nat} {v : Int32} {tgt : Nat} (d : decode cc pc = .ok (.tableswitch dflt lo hi offs, len)) (hq : v.toInt < lo ∨ hi < v.toInt) (ht : (pc : Int) + dflt = (tgt : Int)) (h : Vj x n k tgt lv st M o) : Vj x n k pc lv (.int v :: st) M o := by
  obtain ⟨p, l, e, R, s, m, args, below, meth, c, D, cA, A, QQ, nL⟩ := x
  obtain ⟨⟨hx, hb, hml, hown, hts⟩, hK, hR, hlo, hrt, hmn, hA, hl0, hnL, hQQ⟩ := C
  subst hl0; subst hnL; subst hR
  intro r M' ho H locs ls hW hG hS hl
  exact lv_tableOut hx hb d hq ht (h r M' ho H locs ls hW hG hS hl)
theorem vj_ls (C : Fj x l0 cc nL0 Ts own mn rm rt q0) {dflt : Int} {ps : Array (Int × Int)} {len : Nat} {v cs : Int32} {off : Int} {tgt : Nat} {o1 o2 : Rr} (d : decode cc pc = .ok (.lookupswitch dflt ps, len)) (hq : (ps.toList.zip (ps.toList.drop 1)).all (fun (a, next) => a.1 < next.1) = true ∧ Op.lookupswitch.offset ps.toList dflt cs.toInt = off) (ht : (pc : Int) + off = (tgt : Int)) (h1 : Vj x n k tgt lv st M o1) (h2 : ¬ v = cs → Vj x n k pc lv (.int v :: st) M o2) : Vj x n k pc lv (.int v :: st) M (if v = cs then o1 else o2) := by
  by_cases hv : v = cs
  · rw [if_pos hv]
    subst hv
    obtain ⟨p, l, e, R, s, m, args, below, meth, c, D, cA, A, QQ, nL⟩ := x
    obtain ⟨⟨hx, hb, hml, hown, hts⟩, hrest⟩ := C
    intro r M' ho H locs ls hW hG hS hl
    exact lv_lookup hx hb d hq.1 hq.2 ht (h1 r M' ho H locs ls hW hG hS hl)
  · rw [if_neg hv]
    exact h2 hv
theorem vj_lsd (C : Fj x l0 cc nL0 Ts own mn rm rt q0) {dflt : Int} {ps : Array (Int × Int)} {len : Nat} {v : Int32} {off : Int} {tgt : Nat} (d : decode cc pc = .ok (.lookupswitch dflt ps, len)) (hq : (ps.toList.zip (ps.toList.drop 1)).all (fun (a, next) => a.1 < next.1) = true ∧ Op.lookupswitch.offset ps.toList dflt v.toInt = off) (ht : (pc : Int) + off = (tgt : Int)) (h : Vj x n k tgt lv st M o) : Vj x n k pc lv (.int v :: st) M o := by
  obtain ⟨p, l, e, R, s, m, args, below, meth, c, D, cA, A, QQ, nL⟩ := x
  obtain ⟨⟨hx, hb, hml, hown, hts⟩, hK, hR, hlo, hrt, hmn, hA, hl0, hnL, hQQ⟩ := C
  subst hl0; subst hnL; subst hR
  intro r M' ho H locs ls hW hG hS hl
  exact lv_lookup hx hb d hq.1 hq.2 ht (h r M' ho H locs ls hW hG hS hl)
theorem mm_W.new {D : va_G} {cA : Nat → ClassId} {M : Mm} {d : Nat × Nat} {H H1 : Heap} (hW : mm_W D cA M H) (hWz : H.size = mm_z M) (z1 : H1.size = mm_z M + 1) (o1 : ∀ q : Nat, q < mm_z M → H1[q]? = H[q]?) (hq : mm_at D cA (mm_nw M d) (mm_z M) H1) : mm_W D cA (mm_nw M d) H1 := by
  refine ⟨fun _ => z1, fun a => ?_⟩
  by_cases ha : a = mm_z M
  · rw [ha]; exact hq
  · refine (hW.2 a).to (by simp [mm_nw, mm_s, ha]) (by funext b; simp [mm_nw, mm_i, ha]) (by funext b; simp [mm_nw, mm_r, ha]) (by funext b; simp [mm_nw, mm_l, ha]) (fun hk => o1 a ?_)
    have h2 := (hW.2 a).lt hk
    rw [hWz] at h2
    exact h2
theorem mm_G.new {A : Nat → Prop} {M : Mm} {d : Nat × Nat} (hG : mm_G A M) (hz : A (mm_z M)) : mm_G A (mm_nw M d) := by
  intro q hq
  by_cases hqz : q = mm_z M
  · rw [hqz]; exact hz
  · refine hG q ?_
    unfold mm_w at hq ⊢
    have e : mm_s (mm_nw M d) q = mm_s M q := by simp [mm_nw, mm_s, hqz]
    rw [e] at hq
    exact hq
theorem vj_new (C : Fj x l0 cc nL0 Ts own mn rm rt q0) {idx ci Nf : Nat} {Cn : String} {T : u_T} {K : Nat → Mm → Rr} (d : decode cc pc = .ok (.new idx, 3)) (hc : vwCl[ci]? = some (Cn, T, Nf)) (hN : Nf = cl_n ci) (hcl : Cond.classLink own idx Cn ∈ Ts) (hins : Cond.instantiable Cn Nf ∈ Ts) (hini : Cond.initialized Cn ∈ Ts) (hin : ∀ w ∈ u_ws Cn T Nf, w ∈ Ts) (ty : Nat → FieldType) (hty : ∀ j, j < Nf → parseFieldDescriptor (T j).2.2.1 = some (ty j)) (hdf : ∀ j, j < Nf → defaultValue (ty j) = if cl_r ci j = true then .null else .int 0) (hcs : n + 1 ≤ rm.cells) (hss : k + Nf ≤ rm.slots) (h : ∀ q M2, Vj x (n + 1) (k + Nf) (pc + 3) lv (.ref q :: st) M2 (K q M2)) : Vj x n k pc lv st M (fo_nw M (1, ci) K) := by
  obtain ⟨p, l, e, R, s, m, args, below, meth, c, D, cA, A, QQ, nL⟩ := x
  obtain ⟨⟨hx, hb, hml, hown, hts⟩, hK, hR, hlo, hrt, hmn, hA, hl0, hnL, hQQ⟩ := C
  subst hl0; subst hnL; subst hR
  intro r M' ho H locs ls hW hG hS hl
  unfold fo_nw at ho
  split at ho
  case isFalse => cases ho
  rename_i hz
  have hWz := hW.1 hz
  have hKn := hK.1.1 ci _ hc
  have hle : s.heap.size ≤ mm_z M := by rw [← hWz]; exact hS.1
  refine W.newcK hx hb hown (hts _ hcl) (hts _ hins) (hts _ hini) rfl d hcs hss hKn.2.1 hWz fun H1 kC hkC e1 z1 o1 => ?_
  refine h (mm_z M) (mm_nw M (1, ci)) r M' ho H1 locs ls (hW.new hWz z1 o1 ?_) (hG.new (hA _ hle)) ⟨by omega, fun q h1 h2 => (o1 q (Nat.lt_of_lt_of_le h1 hle)).trans (hS.2.1 q h1 h2), hS.2.2⟩ hl
  have e0 : mm_s (mm_nw M (1, ci)) (mm_z M) = (1, ci) := by simp [mm_nw, mm_s]
  unfold mm_at
  rw [e0]
  simp only
  rw [← hN]
  refine (u_born ty hts hin hKn hkC e1 hty).to fun j hj => ?_
  rw [hdf j hj]
  simp [mm_fv, mm_nw, mm_i, mm_r, va_rf]
theorem vj_newa (C : Fj x l0 cc nL0 Ts own mn rm rt q0) {ay : ArrayType} {t N : Nat} {nn : Int32} {K : Nat → Mm → Rr} (d : decode cc pc = .ok (.newarray ay, 2)) (ht : t < 4 ∧ newarray.typeOf ay = tg_ty t) (harr : Cond.arrayClass (newarray.typeOf ay) ∈ Ts) (hn : ¬ nn < 0) (hN : nn.toNatClampNeg = N) (hby : N * componentBytes (newarray.typeOf ay) ≤ 536870912) (hcs : n + 1 ≤ rm.cells) (hss : k + N ≤ rm.slots) (h : ∀ q M2, Vj x (n + 1) (k + N) (pc + 2) lv (.ref q :: st) M2 (K q M2)) : Vj x n k pc lv (.int nn :: st) M (fo_nw M (t + 2, N) K) := by
  obtain ⟨p, l, e, R, s, m, args, below, meth, c, D, cA, A, QQ, nL⟩ := x
  obtain ⟨⟨hx, hb, hml, hown, hts⟩, hK, hR, hlo, hrt, hmn, hA, hl0, hnL, hQQ⟩ := C
  subst hl0; subst hnL; subst hR
  intro r M' ho H locs ls hW hG hS hl
  subst hN
  unfold fo_nw at ho
  split at ho
  case isFalse => cases ho
  rename_i hz
  have hWz := hW.1 hz
  have hle : s.heap.size ≤ mm_z M := by rw [← hWz]; exact hS.1
  refine W.newa hx hb (hts _ harr) rfl d rfl hn hby hcs hss fun cA' kA comp f1 f2 f3 => ?_
  obtain ⟨kA', comp', k1, k2, k3, -⟩ := hK.2.1 t (by omega)
  rw [ht.2] at f1 ⊢
  have ec : cA' = cA t := Option.some.inj (f1.symm.trans (k3 (by omega)))
  subst ec
  rw [hWz]
  refine h (mm_z M) (mm_nw M (t + 2, nn.toNatClampNeg)) r M' ho _ locs ls (hW.new hWz (by rw [Array.size_push, hWz]) (fun q hq => by rw [Array.getElem?_push, if_neg (by rw [hWz]; omega)]) ?_) (hG.new (hA _ hle)) ⟨by rw [Array.size_push]; have := hS.1; omega, fun q h1 h2 => by rw [Array.getElem?_push, if_neg (by have := hS.1; omega)]; exact hS.2.1 q h1 h2, hS.2.2⟩ hl
  have e0 : mm_s (mm_nw M (t + 2, nn.toNatClampNeg)) (mm_z M) = (t + 2, nn.toNatClampNeg) := by simp [mm_nw, mm_s]
  unfold mm_at
  rw [e0]
  simp only
  rw [if_neg (by omega), ← hWz, Array.getElem?_push_size, arrV_new]
  congr 2
  funext j
  have ht4 := ht.1
  rcases (show t = 0 ∨ t = 1 ∨ t = 2 ∨ t = 3 by omega) with e | e | e | e <;> subst e <;> simp [mm_av, mm_nw, mm_i, mm_l, hWz, tg_ty, defaultValue]
theorem vj_newq (C : Fj x l0 cc nL0 Ts own mn rm rt q0) {idx t N : Nat} {Cn : String} {nn : Int32} {K : Nat → Mm → Rr} (d : decode cc pc = .ok (.anewarray idx, 3)) (ht : (t = 4 ∨ t = 5) ∧ tg_ty t = .object Cn) (hcl : Cond.classLink own idx Cn ∈ Ts) (hov : Cn ∈ aoT) (hn : ¬ nn < 0) (hN : nn.toNatClampNeg = N) (hby : N * 4 ≤ 536870912) (hcs : n + 1 ≤ rm.cells) (hss : k + N ≤ rm.slots) (h : ∀ q M2, Vj x (n + 1) (k + N) (pc + 3) lv (.ref q :: st) M2 (K q M2)) : Vj x n k pc lv (.int nn :: st) M (fo_nw M (t + 2, N) K) := by
  obtain ⟨p, l, e, R, s, m, args, below, meth, c, D, cA, A, QQ, nL⟩ := x
  obtain ⟨⟨hx, hb, hml, hown, hts⟩, hK, hR, hlo, hrt, hmn, hA, hl0, hnL, hQQ⟩ := C
  subst hl0; subst hnL; subst hR
  intro r M' ho H locs ls hW hG hS hl
  subst hN
  unfold fo_nw at ho
  split at ho
  case isFalse => cases ho
  rename_i hz
  have hWz := hW.1 hz
  have hle : s.heap.size ≤ mm_z M := by rw [← hWz]; exact hS.1
  refine W.anew hx hb hown (hts _ hcl) (va_AO.use (hK.2.2.2 _ hov)) rfl d rfl hn hby hcs hss fun cA' kA comp f1 f2 f3 f4 => ?_
  obtain ⟨kA', comp', k1, k2, k3, -⟩ := hK.2.1 t (by omega)
  rw [← ht.2] at f1
  have ec : cA' = cA t := Option.some.inj (f1.symm.trans (k3 (by omega)))
  subst ec
  rw [hWz]
  refine h (mm_z M) (mm_nw M (t + 2, nn.toNatClampNeg)) r M' ho _ locs ls (hW.new hWz (by rw [Array.size_push, hWz]) (fun q hq => by rw [Array.getElem?_push, if_neg (by rw [hWz]; omega)]) ?_) (hG.new (hA _ hle)) ⟨by rw [Array.size_push]; have := hS.1; omega, fun q h1 h2 => by rw [Array.getElem?_push, if_neg (by have := hS.1; omega)]; exact hS.2.1 q h1 h2, hS.2.2⟩ hl
  have e0 : mm_s (mm_nw M (t + 2, nn.toNatClampNeg)) (mm_z M) = (t + 2, nn.toNatClampNeg) := by simp [mm_nw, mm_s]
  unfold mm_at
  rw [e0]
  simp only
  rw [if_neg (by omega), ← hWz, Array.getElem?_push_size, arrV_new]
  congr 2
  funext j
  have h3 : t ≠ 3 := by omega
  simp [mm_av, mm_nw, mm_r, hWz, ht.1, h3, va_rf]
theorem vj_oi (C : Fj x l0 cc nL0 Ts own mn rm rt q0) {idx q : Nat} (d : decode cc pc = .ok (.invokespecial idx, 3)) (hlk : Cond.methodLink own idx Lib.objectInit ∈ Ts) (hin : Cond.instanceMethod Lib.objectInit ∈ Ts) (hco : Cond.code Lib.objectInit ⟨#[0xb1]⟩ 1 none ∈ Ts) (hfr : 1 ≤ rm.frames) (hlo2 : (st.map fun v => v.category).sum + 12 ≤ rm.locals) (h : Vj x n k (pc + 3) lv st M o) : Vj x n k pc lv (.ref q :: st) M o := by
  obtain ⟨p, l, e, R, s, m, args, below, meth, c, D, cA, A, QQ, nL⟩ := x
  obtain ⟨⟨hx, hb, hml, hown, hts⟩, hK, hR, hlo, hrt, hmn, hA, hl0, hnL, hQQ⟩ := C
  subst hl0; subst hnL; subst hR
  intro r M' ho H locs ls hW hG hS hl
  exact W.objInit hx hb hown (hts _ hlk) (hts _ hin) (hts _ hco) rfl (hl.1.trans hml.symm) rfl d hfr (by show 2 * 0 + _ + 12 ≤ _; omega) (h r M' ho H locs ls hW hG hS hl)
theorem vj_min (C : Fj x l0 cc nL0 Ts own mn rm rt q0) {idx : Nat} {a b : Int32} (d : decode cc pc = .ok (.invokestatic idx, 3)) (hq : Cond.methodLink own idx Lib.Math.min.name ∈ Ts ∧ Cond.static Lib.Math.min.name ∈ Ts ∧ Cond.initialized "java/lang/Math" ∈ Ts ∧ Cond.code Lib.Math.min.name Lib.Math.min.code 2 (some .int) ∈ Ts) (hr : 1 ≤ rm.frames ∧ (st.map fun v => v.category).sum + 13 ≤ rm.locals ∧ n ≤ rm.cells ∧ k ≤ rm.slots) (h : Vj x n k (pc + 3) lv (.int (if b < a then b else a) :: st) M o) : Vj x n k pc lv (.int b :: .int a :: st) M o := by
  obtain ⟨p, l, e, R, s, m, args, below, meth, c, D, cA, A, QQ, nL⟩ := x
  obtain ⟨⟨hx, hb, hml, hown, hts⟩, hK, hR, hlo, hrt, hmn, hA, hl0, hnL, hQQ⟩ := C
  subst hl0; subst hnL; subst hR
  intro r M' ho H locs ls hW hG hS hl
  exact va_mmin hx hb (hml.trans hl.1.symm) hown (hts _ hq.1) (hts _ hq.2.1) (hts _ hq.2.2.1) (hts _ hq.2.2.2) hr.1 hr.2.1 hr.2.2.1 hr.2.2.2 d (h r M' ho H locs ls hW hG hS hl)
theorem vj_cp (C : Fj x l0 cc nL0 Ts own mn rm rt q0) {idx a b : Nat} {i j nn : Int32} {K : Mm → Rr} (d : decode cc pc = .ok (.invokestatic idx, 3)) (hq : Cond.methodLink own idx arraycopyName ∈ Ts ∧ Cond.native arraycopyName ∈ Ts ∧ Cond.static arraycopyName ∈ Ts ∧ Cond.initialized "java/lang/System" ∈ Ts) (hr : 1 ≤ rm.frames ∧ (st.map fun v => v.category).sum + (nativeFrameWords "java/lang/System" "arraycopy" 5 + 11) ≤ rm.locals) (h : ∀ M2, Vj x n k (pc + 3) lv st M2 (K M2)) : Vj x n k pc lv (.int nn :: .int j :: .ref b :: .int i :: .ref a :: st) M (fo_cp M a b i j nn K) := by
  obtain ⟨p, l, e, R, s, m, args, below, meth, c, D, cA, A, QQ, nL⟩ := x
  obtain ⟨⟨hx, hb, hml, hown, hts⟩, hK, hR, hlo, hrt, hmn, hA, hl0, hnL, hQQ⟩ := C
  subst hl0; subst hnL; subst hR
  intro r M' ho H locs ls hW hG hS hl
  unfold fo_cp at ho
  split at ho
  · next h1 =>
    obtain ⟨ta, tb, hi, hj, hn, hia, hjb⟩ := h1
    have hsa : mm_s M a = (0 + 2, (mm_s M a).2) := Prod.ext ta rfl
    have hsb : mm_s M b = (0 + 2, (mm_s M b).2) := Prod.ext tb rfl
    have av0 : ∀ q, mm_av M 0 q = fun z => .int (mm_i M q z) := fun q => by funext z; simp [mm_av]
    have qa := hW.av hsa (by decide)
    have qb := hW.av hsb (by decide)
    rw [av0] at qa qb
    obtain ⟨kA, comp, k1, k2, -, -⟩ := hK.2.1 0 (by decide)
    have nn0 : ∀ z : Int32, ¬ z < 0 → z.toInt = (z.toNatClampNeg : Int) := by
      intro z hz
      have hz0 : (0 : Int) ≤ z.toInt := by
        have := Int32.not_lt.mp hz
        simpa using Int32.le_iff_toInt_le.mp this
      show z.toInt = ((z.toInt.toNat : Nat) : Int)
      omega
    have hw : mm_w M b := by unfold mm_w; rw [hsb]; simp
    intro T hT X
    obtain ⟨vm', X', step⟩ := X.arraycopy hx hown (hts _ hq.1) (hts _ hq.2.1) (hts _ hq.2.2.1) (hts _ hq.2.2.2) (src := a) (dst := b) (srcPos := i) (destPos := j) (n := nn) (by rw [hT]; exact qa) (by rw [hT]; exact qb)
      (fun _ z => by cases z) (fun _ z => by cases z) (fun z => by cases z) (fun z => by cases z) k1 k1 k2 k2 (by simp [tg_ty, refKind]) hi hj hn
      (by rw [nn0 i hi, nn0 nn hn, arrV_size]; omega) (by rw [nn0 j hj, nn0 nn hn, arrV_size]; omega)
      (fun vm₁ _ z hz => by
        have ez : (arrV (cA 0) (mm_s M a).2 (fun z => Value.int (mm_i M a z))).slots.getD (i.toNatClampNeg + z) .null = .int (mm_i M a (i.toNatClampNeg + z)) := by
          rw [Array.getD_eq_getD_getElem?, arrV_read _ _ (by omega)]
          rfl
        rw [ez]
        exact ⟨rfl, trivial⟩)
      (g := F0 m pc ls (.int nn :: .int j :: .ref b :: .int i :: .ref a :: st)) rfl (hl.1.trans hml.symm) (rest := st) rfl (by rw [hb]; exact d) hr.1 (by have := hr.2; show 2 * 0 + _ + _ ≤ _; omega)
    have e1 : copied (arrV (cA 0) (mm_s M a).2 (fun z => Value.int (mm_i M a z))) (arrV (cA 0) (mm_s M b).2 (fun z => Value.int (mm_i M b z))) i j nn = arrV (cA 0) (mm_s M b).2 (fun z => Value.int (va_cpy (mm_i M a) (mm_i M b) i.toNatClampNeg j.toNatClampNeg nn.toNatClampNeg z)) := va_copied (fun z => .int z) _ _ _ _ hia
    rw [e1] at X' step
    have hlt : b < H.size := (Array.getElem?_eq_some_iff.mp qb).1
    have hheap : ((T.setVm vm').setCell b (arrV (cA 0) (mm_s M b).2 (fun z => Value.int (va_cpy (mm_i M a) (mm_i M b) i.toNatClampNeg j.toNatClampNeg nn.toNatClampNeg z)))).heap = H.setIfInBounds b (arrV (cA 0) (mm_s M b).2 (fun z => Value.int (va_cpy (mm_i M a) (mm_i M b) i.toNatClampNeg j.toNatClampNeg nn.toNatClampNeg z))) := by rw [← hT]; rfl
    have oq : ∀ q : Nat, q ≠ b → (H.setIfInBounds b (arrV (cA 0) (mm_s M b).2 (fun z => Value.int (va_cpy (mm_i M a) (mm_i M b) i.toNatClampNeg j.toNatClampNeg nn.toNatClampNeg z))))[q]? = H[q]? := fun q hq => by simp [Array.getElem?_setIfInBounds, Ne.symm hq]
    obtain ⟨t, a1, b1⟩ := h _ r M' ho _ _ ls (hW.set (mm_eo_pc M b _) (by simp) oq (by
        unfold mm_at
        have es : mm_s (mm_pc M b (va_cpy (mm_i M a) (mm_i M b) i.toNatClampNeg j.toNatClampNeg nn.toNatClampNeg)) b = (0 + 2, (mm_s M b).2) := hsb
        rw [es]
        simp only
        rw [if_neg (by decide)]
        have ev : mm_av (mm_pc M b (va_cpy (mm_i M a) (mm_i M b) i.toNatClampNeg j.toNatClampNeg nn.toNatClampNeg)) 0 b = fun z => Value.int (va_cpy (mm_i M a) (mm_i M b) i.toNatClampNeg j.toNatClampNeg nn.toNatClampNeg z) := by funext z; simp [mm_av, mm_pc, mm_i]
        rw [ev]
        simp [Array.getElem?_setIfInBounds, hlt])) (hG.set rfl) ⟨by simp; exact hS.1, fun q g1 g2 => by
        rw [oq q (fun e => g2 (by rw [e]; exact hG b hw))]
        exact hS.2.1 q g1 g2, fun q hq2 => by
        rcases List.mem_append.mp hq2 with h3 | h3
        · exact hS.2.2 q h3
        · obtain ⟨z, -, hz⟩ := List.mem_map.mp h3
          rw [← hz]
          exact hG b hw⟩ hl _ hheap X'
    exact ⟨t, step t a1, b1⟩
  · cases ho
end VJ
/-- a method's contract: where the functional word gives an answer, the method gives it -/
def ct (l : Launch) (y : MethodName) (ws : List Cond) (rm : Room) (mc ms : Nat) (vo : Int32 → Option Value) (av : List Value) (M : Mm) (o : Rr) : Prop :=
  ∀ (r : Int32) (M' : Mm), o = some (r, M') → ∀ (D : va_G) (cA : Nat → ClassId) (sz : Nat), Met l y ws rm (va_Pc av (fun U => U.heap.size = sz ∧ mm_W D cA M U.heap ∧ mm_K D cA U)) (mm_Q D cA (mm_A M sz) vo r M') mc ms (mm_A M sz)
theorem ct_blind {av : List Value} {M : Mm} {D : va_G} {cA : Nat → ClassId} {sz : Nat} : FrameBlind (va_Pc av (fun U => U.heap.size = sz ∧ mm_W D cA M U.heap ∧ mm_K D cA U)) := fun a U g mk q => by
  obtain ⟨q0, q3, q1, q2⟩ := q
  exact ⟨q0, q3, q1, mm_K.same (u := U) (U := U.calling g mk a) rfl q2⟩
theorem ct_of {l : Launch} {y : MethodName} {ws ws' : List Cond} {rm : Room} {mc ms : Nat} {vo : Int32 → Option Value} {av : List Value} {M : Mm} {o : Rr} {cc : ByteArray} {maxL : Nat} {ret : Option FieldType} {lv0 : List (Nat × Value)}
    (hy : plainName y.cls = true) (hw0 : ws = Cond.code y cc maxL ret :: ws') (hlen : (lg_sl av).length ≤ maxL) (hlv : lv_args 0 av = lv0)
    (hws : ws' = gw) (body : ∀ x : Cx, Fj x l cc maxL gw y.cls y.name rm ret (nq vo mc ms) → Vj x 0 0 0 lv0 [] M o) : ct l y ws rm mc ms vo av M o := by
  intro r M' ho D cA sz
  refine Met.ofW (cc := cc) (maxL := maxL) (ret := ret) hy hw0 ?_
  intro p e s m args below meth c s₁ B hml hv
  obtain ⟨rfl, rfl, hW, hK⟩ := hv
  have hts : ∀ w ∈ gw, w.before av.toArray s = true := fun w hw => atoms_spec (ws := ws) B.pre w (by rw [hw0, hws]; exact List.mem_cons_of_mem _ hw)
  have hA : ∀ q, s.heap.size ≤ q → mm_A M s.heap.size q := fun q h => Or.inr h
  have hb := body (p, l, e, (headSpec ws rm).room, s, m, av.toArray, below, meth, c, D, cA, mm_A M s.heap.size, nq vo mc ms below D cA (mm_A M s.heap.size) av.toArray s, maxL) ⟨⟨B.exec, B.bytes, hml, findClass_of_methodNamed B.named, hts⟩, hK, rfl, B.notSynchronized, B.returns, (name_of_methodNamed B.named B.method).1, hA, rfl, rfl, rfl⟩
  rw [lg_entry_eq]
  exact hb r M' ho s.heap [] _ hW (fun q h => Or.inl h) va_S.rf (hlv ▸ lv_entry av hlen)
section VC
variable {x : Cx} {l0 : Launch} {cc : ByteArray} {nL0 : Nat} {Ts : List Cond} {own mn : String} {rm : Room} {rt : Option FieldType} {q0 : List Frame → va_G → (Nat → ClassId) → (Nat → Prop) → Array Value → State → Int32 → Mm → State → Prop} {vo0 : Int32 → Option Value} {mc0 ms0 : Nat} {n k pc : Nat} {lv : List (Nat × Value)} {st : List Value} {M : Mm} {o : Rr}
/-- behind a call -/
theorem va_Run.w {p : Program} {l : Launch} {e : Env} {R : Room} {s : State} {m : MethodId} {args : Array Value} {below : List Frame} {meth : Method} {c : Code} {H : Heap} {locs : List Loc} {n k mc1 ms1 pc : Nat} {ls : Array Slot} {st0 st : List Value} {D : va_G} {cA : Nat → ClassId} {A : Nat → Prop} {vo1 : Int32 → Option Value} {r1 : Int32} {M M1 : Mm} {a : Array Value} {Q : State → Prop}
    (hr : va_Run p l e R s m args below meth c H locs n k mc1 ms1 (F0 m pc ls st0) st (mm_Q D cA (mm_A M H.size) vo1 r1 M1 a) (mm_A M H.size)) (hW : mm_W D cA M H) (hG : mm_G A M) (hS : va_S A s.heap H locs) (hA : ∀ q, s.heap.size ≤ q → A q)
    (kk : ∀ (H1 : Heap) (locs1 : List Loc), mm_W D cA M1 H1 → mm_G A M1 → va_S A s.heap H1 locs1 → W p l e R s m args below meth c H1 locs1 (n + mc1) (k + ms1) Q (F0 m (pc + 3) ls ((vo1 r1).toList ++ st))) : W p l e R s m args below meth c H locs n k Q (F0 m pc ls st0) := by
  intro T hT X
  obtain ⟨v, st₀, t, T', L, h0, X', hL, e1, e2, ⟨hv, hW1, hG1, hz, hk⟩, stp⟩ := hr T hT X
  cases hv
  rw [h0] at hz hk
  have hin : ∀ q, mm_A M H.size q → A q := by
    intro q hq
    rcases hq with hq | hq
    · exact hG q hq
    · exact hA q (Nat.le_trans hS.1 hq)
  obtain ⟨t2, a1, b1⟩ := kk T'.heap (locs ++ L) (by rw [e1]; exact hW1) (fun q hq => hin q (hG1 q hq))
    ⟨Nat.le_trans hS.1 (by rw [e1]; exact hz), fun q h1 h2 => by rw [e1, hk q (Nat.lt_of_lt_of_le h1 hS.1) (fun z => h2 (hin q z))]; exact hS.2.1 q h1 h2, fun q hq => by
      rcases List.mem_append.mp hq with h | h
      · exact hS.2.2 q h
      · exact hin _ (hL q h)⟩ T' rfl X'
  exact ⟨t2, stp t2 a1, b1⟩
theorem mm_W.recv {D : va_G} {cA : Nat → ClassId} {M : Mm} {b ci : Nat} {H : Heap} {s : State} {Cn : String} {T : u_T} {N : Nat} (hW : mm_W D cA M H) (hK : mm_K D cA s) (hs : mm_s M b = (1, ci)) (hc : vwCl[ci]? = some (Cn, T, N)) : ∃ cell : Cell, H[b]? = some cell ∧ cell.vm.isStatics = false ∧ s.vm.findClass Cn = some cell.cls := by
  obtain ⟨cell, g1, g2, g3, -⟩ := hW.ob hs
  exact ⟨cell, g1, by rw [g3]; rfl, by rw [g2]; exact (hK.1.1 ci _ hc).2.1⟩
theorem vj_cV (C : Fj x l0 cc nL0 Ts own mn rm rt q0) {y : MethodName} {bytes : ByteArray} {maxL idx a1 : Nat} {ret : Option FieldType} {ws ws' : List Cond} {rm1 : Room} {mc1 ms1 : Nat} {vo1 : Int32 → Option Value} {o1 : Rr} {K : Int32 → Mm → Rr} {As st0 : List Value} {ci b : Nat} {Cn : String} {T : u_T} {N : Nat} (d : decode cc pc = .ok (.invokevirtual idx, 3)) (hM : ct l0 y ws rm1 mc1 ms1 vo1 (.ref b :: As) M o1) (hcl : vwCl[ci]? = some (Cn, T, N)) (hG1 : GoodIn Ts (wsV own idx Cn y ws)) (hw : ws = Cond.code y bytes maxL ret :: ws') (hrc : rm1.cells = mc1) (hrs : rm1.slots = ms1)
    (hd : y.cls = Cn ∧ y.cls ≠ "java/lang/invoke/MethodHandle" ∧ y.cls ≠ "java/lang/invoke/VarHandle" ∧ (parseMethodDescriptor y.desc).map (fun d => d.parameters.length) = some a1) (hR2 : rm1.frames + 1 ≤ rm.frames ∧ 8 + (maxL + 11) + rm1.locals ≤ rm.locals) (hlen : As.length = a1) (hst : st0 = As.reverse ++ .ref b :: st) (hcat : (st.map fun v => v.category).sum ≤ 8) (hf : n + mc1 ≤ rm.cells ∧ k + ms1 ≤ rm.slots) (h : ∀ r1 M1, Vj x (n + mc1) (k + ms1) (pc + 3) lv ((vo1 r1).toList ++ st) M1 (K r1 M1)) : Vj x n k pc lv st0 M (fo_cv M ci b o1 K) := by
  obtain ⟨p, l, e, R, s, m, args, below, meth, c, D, cA, A, QQ, nL⟩ := x
  obtain ⟨⟨hx, hb, hml, hown, hts⟩, hK, hR, hlo, hrt, hmn, hA, hl0, hnL, hQQ⟩ := C
  subst hl0; subst hnL; subst hR
  intro r M' ho H locs ls hW hG hS hl
  unfold fo_cv at ho
  split at ho
  · next h1 =>
    obtain ⟨r1, M1, e1, ho⟩ := fo_cl_some ho
    refine va_Run.w (va_runV ⟨hx, hb, hml, hown, hts⟩ (hM r1 M1 e1 D cA H.size) (cwV a1 hts hG1 hw hrc hrs hd hR2) ⟨ct_blind, hW.recv hK h1 hcl, fun U hU hWm => ⟨rfl, by rw [hU], by rw [hU]; exact hW, mm_K.warm hWm hK⟩⟩ rfl hlen hl.1 hst (lv_room hcat) d hf) hW hG hS hA ?_
    intro H1 locs1 hW1 hG1 hS1
    exact h r1 M1 r M' ho H1 locs1 ls hW1 hG1 hS1 hl
  · cases ho
theorem vj_cVN (C : Fj x l0 cc nL0 Ts own mn rm rt q0) {y : MethodName} {bytes : ByteArray} {maxL idx a1 : Nat} {ret : Option FieldType} {ws ws' : List Cond} {rm1 : Room} {mc1 ms1 : Nat} {vo1 : Int32 → Option Value} {o1 : Rr} {K : Int32 → Mm → Rr} {As st0 : List Value} {ci b : Nat} {Cn host : String} {T : u_T} {N : Nat} (d : decode cc pc = .ok (.invokevirtual idx, 3)) (hM : ct l0 y ws rm1 mc1 ms1 vo1 (.ref b :: As) M o1) (hcl : vwCl[ci]? = some (Cn, T, N)) (hG1 : GoodIn Ts ws) (hlk : (own, idx, y, host) ∈ nwT) (hin : Cond.instanceMethod y ∈ Ts) (hse : Cond.selects Cn y y ∈ Ts) (hini : Cond.initialized y.cls ∈ Ts) (hw : ws = Cond.code y bytes maxL ret :: ws') (hrc : rm1.cells = mc1) (hrs : rm1.slots = ms1)
    (hd : y.cls ≠ "java/lang/invoke/MethodHandle" ∧ y.cls ≠ "java/lang/invoke/VarHandle" ∧ (parseMethodDescriptor y.desc).map (fun d => d.parameters.length) = some a1) (hR2 : rm1.frames + 1 ≤ rm.frames ∧ 8 + (maxL + 11) + rm1.locals ≤ rm.locals) (hlen : As.length = a1) (hst : st0 = As.reverse ++ .ref b :: st) (hcat : (st.map fun v => v.category).sum ≤ 8) (hf : n + mc1 ≤ rm.cells ∧ k + ms1 ≤ rm.slots) (h : ∀ r1 M1, Vj x (n + mc1) (k + ms1) (pc + 3) lv ((vo1 r1).toList ++ st) M1 (K r1 M1)) : Vj x n k pc lv st0 M (fo_cv M ci b o1 K) := by
  obtain ⟨p, l, e, R, s, m, args, below, meth, c, D, cA, A, QQ, nL⟩ := x
  obtain ⟨⟨hx, hb, hml, hown, hts⟩, hK, hR, hlo, hrt, hmn, hA, hl0, hnL, hQQ⟩ := C
  subst hl0; subst hnL; subst hR
  intro r M' ho H locs ls hW hG hS hl
  unfold fo_cv at ho
  split at ho
  · next h1 =>
    obtain ⟨r1, M1, e1, ho⟩ := fo_cl_some ho
    refine va_Run.w (va_runVN ⟨hx, hb, hml, hown, hts⟩ (hM r1 M1 e1 D cA H.size) ⟨va_cnB a1 hts hG1 hw hrc hrs (hK.2.2.1 _ hlk) (hts _ hini) hd hR2, hts _ hin, hts _ hse⟩ ⟨ct_blind, hW.recv hK h1 hcl, fun U hU hWm => ⟨rfl, by rw [hU], by rw [hU]; exact hW, mm_K.warm hWm hK⟩⟩ rfl hlen hl.1 hst (lv_room hcat) d hf) hW hG hS hA ?_
    intro H1 locs1 hW1 hG1 hS1
    exact h r1 M1 r M' ho H1 locs1 ls hW1 hG1 hS1 hl
  · cases ho
theorem vj_cS (C : Fj x l0 cc nL0 Ts own mn rm rt q0) {y : MethodName} {bytes : ByteArray} {maxL idx a1 : Nat} {ret : Option FieldType} {ws ws' : List Cond} {rm1 : Room} {mc1 ms1 : Nat} {vo1 : Int32 → Option Value} {o1 : Rr} {K : Int32 → Mm → Rr} {As st0 : List Value} (d : decode cc pc = .ok (.invokestatic idx, 3)) (hM : ct l0 y ws rm1 mc1 ms1 vo1 As M o1) (hG1 : GoodIn Ts (wsS own idx y ws)) (hw : ws = Cond.code y bytes maxL ret :: ws') (hrc : rm1.cells = mc1) (hrs : rm1.slots = ms1)
    (hd : y.cls = own ∧ y.cls ≠ "java/lang/invoke/MethodHandle" ∧ y.cls ≠ "java/lang/invoke/VarHandle" ∧ (parseMethodDescriptor y.desc).map (fun d => d.parameters.length) = some a1) (hR2 : rm1.frames + 1 ≤ rm.frames ∧ 8 + (maxL + 11) + rm1.locals ≤ rm.locals) (hlen : As.length = a1) (hst : st0 = As.reverse ++ st) (hcat : (st.map fun v => v.category).sum ≤ 8) (hf : n + mc1 ≤ rm.cells ∧ k + ms1 ≤ rm.slots) (h : ∀ r1 M1, Vj x (n + mc1) (k + ms1) (pc + 3) lv ((vo1 r1).toList ++ st) M1 (K r1 M1)) : Vj x n k pc lv st0 M (fo_cl o1 K) := by
  obtain ⟨p, l, e, R, s, m, args, below, meth, c, D, cA, A, QQ, nL⟩ := x
  obtain ⟨⟨hx, hb, hml, hown, hts⟩, hK, hR, hlo, hrt, hmn, hA, hl0, hnL, hQQ⟩ := C
  subst hl0; subst hnL; subst hR
  intro r M' ho H locs ls hW hG hS hl
  obtain ⟨r1, M1, e1, ho⟩ := fo_cl_some ho
  refine va_Run.w (va_runS ⟨hx, hb, hml, hown, hts⟩ (hM r1 M1 e1 D cA H.size) (cwS a1 hts hG1 hw hrc hrs hd hR2) ⟨ct_blind, fun U hU hWm => ⟨rfl, by rw [hU], by rw [hU]; exact hW, mm_K.warm hWm hK⟩⟩ rfl hlen hl.1 hst (lv_room hcat) d hf) hW hG hS hA ?_
  intro H1 locs1 hW1 hG1 hS1
  exact h r1 M1 r M' ho H1 locs1 ls hW1 hG1 hS1 hl
theorem vj_cI (C : Fj x l0 cc nL0 Ts own mn rm rt q0) {y : MethodName} {bytes : ByteArray} {maxL idx a1 : Nat} {ret : Option FieldType} {ws ws' : List Cond} {rm1 : Room} {mc1 ms1 : Nat} {vo1 : Int32 → Option Value} {o1 : Rr} {K : Int32 → Mm → Rr} {As st0 : List Value} {b : Nat} (d : decode cc pc = .ok (.invokespecial idx, 3)) (hM : ct l0 y ws rm1 mc1 ms1 vo1 (.ref b :: As) M o1) (hG1 : GoodIn Ts ws) (hlk : Cond.methodLink own idx y ∈ Ts) (hin : Cond.instanceMethod y ∈ Ts) (hini : Cond.initialized y.cls ∈ Ts) (hyn : y.name = "<init>") (hw : ws = Cond.code y bytes maxL none :: ws') (hrc : rm1.cells = mc1) (hrs : rm1.slots = ms1)
    (hd : y.cls ≠ "java/lang/invoke/MethodHandle" ∧ y.cls ≠ "java/lang/invoke/VarHandle" ∧ (parseMethodDescriptor y.desc).map (fun d => d.parameters.length) = some a1) (hR2 : rm1.frames + 1 ≤ rm.frames ∧ 8 + (maxL + 11) + rm1.locals ≤ rm.locals) (hlen : As.length = a1) (hst : st0 = As.reverse ++ .ref b :: st) (hcat : (st.map fun v => v.category).sum ≤ 8) (hf : n + mc1 ≤ rm.cells ∧ k + ms1 ≤ rm.slots) (h : ∀ r1 M1, Vj x (n + mc1) (k + ms1) (pc + 3) lv ((vo1 r1).toList ++ st) M1 (K r1 M1)) : Vj x n k pc lv st0 M (fo_cl o1 K) := by
  obtain ⟨p, l, e, R, s, m, args, below, meth, c, D, cA, A, QQ, nL⟩ := x
  obtain ⟨⟨hx, hb, hml, hown, hts⟩, hK, hR, hlo, hrt, hmn, hA, hl0, hnL, hQQ⟩ := C
  subst hl0; subst hnL; subst hR
  intro r M' ho H locs ls hW hG hS hl
  obtain ⟨r1, M1, e1, ho⟩ := fo_cl_some ho
  refine va_Run.w (va_runI ⟨hx, hb, hml, hown, hts⟩ (hM r1 M1 e1 D cA H.size) ⟨callB_of a1 hts hG1 hw hrc hrs (hts _ hini) (hts _ hlk) hd hR2, hyn, hts _ hin⟩ ⟨ct_blind, fun U hU hWm => ⟨rfl, by rw [hU], by rw [hU]; exact hW, mm_K.warm hWm hK⟩⟩ rfl hlen hl.1 hst (lv_room hcat) d hf) hW hG hS hA ?_
  intro H1 locs1 hW1 hG1 hS1
  exact h r1 M1 r M' ho H1 locs1 ls hW1 hG1 hS1 hl
theorem vj_cIN (C : Fj x l0 cc nL0 Ts own mn rm rt q0) {y : MethodName} {bytes : ByteArray} {maxL idx a1 : Nat} {ret : Option FieldType} {ws ws' : List Cond} {rm1 : Room} {mc1 ms1 : Nat} {vo1 : Int32 → Option Value} {o1 : Rr} {K : Int32 → Mm → Rr} {As st0 : List Value} {b : Nat} {host : String} (d : decode cc pc = .ok (.invokespecial idx, 3)) (hM : ct l0 y ws rm1 mc1 ms1 vo1 (.ref b :: As) M o1) (hG1 : GoodIn Ts ws) (hlk : (own, idx, y, host) ∈ nwT) (hin : Cond.instanceMethod y ∈ Ts) (hini : Cond.initialized y.cls ∈ Ts) (hyn : y.name = "<init>") (hw : ws = Cond.code y bytes maxL none :: ws') (hrc : rm1.cells = mc1) (hrs : rm1.slots = ms1)
    (hd : y.cls ≠ "java/lang/invoke/MethodHandle" ∧ y.cls ≠ "java/lang/invoke/VarHandle" ∧ (parseMethodDescriptor y.desc).map (fun d => d.parameters.length) = some a1) (hR2 : rm1.frames + 1 ≤ rm.frames ∧ 8 + (maxL + 11) + rm1.locals ≤ rm.locals) (hlen : As.length = a1) (hst : st0 = As.reverse ++ .ref b :: st) (hcat : (st.map fun v => v.category).sum ≤ 8) (hf : n + mc1 ≤ rm.cells ∧ k + ms1 ≤ rm.slots) (h : ∀ r1 M1, Vj x (n + mc1) (k + ms1) (pc + 3) lv ((vo1 r1).toList ++ st) M1 (K r1 M1)) : Vj x n k pc lv st0 M (fo_cl o1 K) := by
  obtain ⟨p, l, e, R, s, m, args, below, meth, c, D, cA, A, QQ, nL⟩ := x
  obtain ⟨⟨hx, hb, hml, hown, hts⟩, hK, hR, hlo, hrt, hmn, hA, hl0, hnL, hQQ⟩ := C
  subst hl0; subst hnL; subst hR
  intro r M' ho H locs ls hW hG hS hl
  obtain ⟨r1, M1, e1, ho⟩ := fo_cl_some ho
  refine va_Run.w (va_runIN ⟨hx, hb, hml, hown, hts⟩ (hM r1 M1 e1 D cA H.size) ⟨va_cnB a1 hts hG1 hw hrc hrs (hK.2.2.1 _ hlk) (hts _ hini) hd hR2, hyn, hts _ hin⟩ ⟨ct_blind, fun U hU hWm => ⟨rfl, by rw [hU], by rw [hU]; exact hW, mm_K.warm hWm hK⟩⟩ rfl hlen hl.1 hst (lv_room hcat) d hf) hW hG hS hA ?_
  intro H1 locs1 hW1 hG1 hS1
  exact h r1 M1 r M' ho H1 locs1 ls hW1 hG1 hS1 hl
theorem vj_cSN (C : Fj x l0 cc nL0 Ts own mn rm rt q0) {y : MethodName} {bytes : ByteArray} {maxL idx a1 : Nat} {ret : Option FieldType} {ws ws' : List Cond} {rm1 : Room} {mc1 ms1 : Nat} {vo1 : Int32 → Option Value} {o1 : Rr} {K : Int32 → Mm → Rr} {As st0 : List Value} {host : String} (d : decode cc pc = .ok (.invokestatic idx, 3)) (hM : ct l0 y ws rm1 mc1 ms1 vo1 As M o1) (hG1 : GoodIn Ts ws) (hlk : (own, idx, y, host) ∈ nwT) (hin : Cond.static y ∈ Ts) (hini : Cond.initialized y.cls ∈ Ts) (hw : ws = Cond.code y bytes maxL ret :: ws') (hrc : rm1.cells = mc1) (hrs : rm1.slots = ms1)
    (hd : y.cls ≠ "java/lang/invoke/MethodHandle" ∧ y.cls ≠ "java/lang/invoke/VarHandle" ∧ (parseMethodDescriptor y.desc).map (fun d => d.parameters.length) = some a1) (hR2 : rm1.frames + 1 ≤ rm.frames ∧ 8 + (maxL + 11) + rm1.locals ≤ rm.locals) (hlen : As.length = a1) (hst : st0 = As.reverse ++ st) (hcat : (st.map fun v => v.category).sum ≤ 8) (hf : n + mc1 ≤ rm.cells ∧ k + ms1 ≤ rm.slots) (h : ∀ r1 M1, Vj x (n + mc1) (k + ms1) (pc + 3) lv ((vo1 r1).toList ++ st) M1 (K r1 M1)) : Vj x n k pc lv st0 M (fo_cl o1 K) := by
  obtain ⟨p, l, e, R, s, m, args, below, meth, c, D, cA, A, QQ, nL⟩ := x
  obtain ⟨⟨hx, hb, hml, hown, hts⟩, hK, hR, hlo, hrt, hmn, hA, hl0, hnL, hQQ⟩ := C
  subst hl0; subst hnL; subst hR
  intro r M' ho H locs ls hW hG hS hl
  obtain ⟨r1, M1, e1, ho⟩ := fo_cl_some ho
  refine va_Run.w (va_runSN ⟨hx, hb, hml, hown, hts⟩ (hM r1 M1 e1 D cA H.size) ⟨va_cnB a1 hts hG1 hw hrc hrs (hK.2.2.1 _ hlk) (hts _ hini) hd hR2, hts _ hin, trivial⟩ ⟨ct_blind, fun U hU hWm => ⟨rfl, by rw [hU], by rw [hU]; exact hW, mm_K.warm hWm hK⟩⟩ rfl hlen hl.1 hst (lv_room hcat) d hf) hW hG hS hA ?_
  intro H1 locs1 hW1 hG1 hS1
  exact h r1 M1 r M' ho H1 locs1 ls hW1 hG1 hS1 hl
end VC
end
section
theorem zin0 : ∀ w ∈ u_ws zR0 zT0 2, w ∈ gw := by decide +kernel
theorem zin1 : ∀ w ∈ u_ws zR1 zT1 13, w ∈ gw := by decide +kernel
theorem zin2 : ∀ w ∈ u_ws zR2 zT2 3, w ∈ gw := by decide +kernel
theorem zin3 : ∀ w ∈ u_ws zR3 zT3 3, w ∈ gw := by decide +kernel
theorem zin4 : ∀ w ∈ u_ws zR4 zT4 4, w ∈ gw := by decide +kernel
theorem zin5 : ∀ w ∈ u_ws zR5 zT5 6, w ∈ gw := by decide +kernel
theorem zin6 : ∀ w ∈ u_ws zR6 zT6 2, w ∈ gw := by decide +kernel
theorem zin7 : ∀ w ∈ u_ws zR7 zT7 6, w ∈ gw := by decide +kernel
theorem zin8 : ∀ w ∈ u_ws zR8 zT8 10, w ∈ gw := by decide +kernel
theorem zin9 : ∀ w ∈ u_ws zR9 zT9 26, w ∈ gw := by decide +kernel
abbrev ws_Pm_init : List Cond := Cond.code zyPm_init zbPm_init 1 none :: gw
abbrev ws_Pm_type : List Cond := Cond.code zyPm_type zbPm_type 3 (some .boolean) :: gw
abbrev ws_Pm_erase : List Cond := Cond.code zyPm_erase zbPm_erase 2 (some .int) :: gw
abbrev ws_Pm_free : List Cond := Cond.code zyPm_free zbPm_free 2 (some .boolean) :: gw
abbrev ws_Pm_begin : List Cond := Cond.code zyPm_begin zbPm_begin 2 (some .int) :: gw
abbrev ws_Pm_stop : List Cond := Cond.code zyPm_stop zbPm_stop 2 (some .boolean) :: gw
abbrev ws_Pm_fault : List Cond := Cond.code zyPm_fault zbPm_fault 1 (some .int) :: gw
abbrev ws_Pm_event : List Cond := Cond.code zyPm_event zbPm_event 4 (some .int) :: gw
abbrev ws_Pm_nextDay : List Cond := Cond.code zyPm_nextDay zbPm_nextDay 2 (some .int) :: gw
abbrev ws_Pm_undo : List Cond := Cond.code zyPm_undo zbPm_undo 1 (some .boolean) :: gw
abbrev ws_Pm_today : List Cond := Cond.code zyPm_today zbPm_today 1 (some .int) :: gw
abbrev ws_Pm_duty : List Cond := Cond.code zyPm_duty zbPm_duty 2 (some .int) :: gw
abbrev ws_Pm_count : List Cond := Cond.code zyPm_count zbPm_count 2 (some .int) :: gw
abbrev ws_Pm_breaches : List Cond := Cond.code zyPm_breaches zbPm_breaches 2 (some .int) :: gw
abbrev ws_Pm_may : List Cond := Cond.code zyPm_may zbPm_may 3 (some .int) :: gw
abbrev ws_Pm_owed : List Cond := Cond.code zyPm_owed zbPm_owed 3 (some .int) :: gw
abbrev ws_Pm_course : List Cond := Cond.code zyPm_course zbPm_course 3 (some .int) :: gw
abbrev ws_Pm_threat : List Cond := Cond.code zyPm_threat zbPm_threat 5 (some .int) :: gw
abbrev ws_Pm_isParty : List Cond := Cond.code zyPm_isParty zbPm_isParty 1 (some .boolean) :: gw
abbrev ws_Pm_isKind : List Cond := Cond.code zyPm_isKind zbPm_isKind 1 (some .boolean) :: gw
abbrev ws_Pm_canSearch : List Cond := Cond.code zyPm_canSearch zbPm_canSearch 3 (some .boolean) :: gw
abbrev ws_Pm_moveToTrial : List Cond := Cond.code zyPm_moveToTrial zbPm_moveToTrial 1 none :: gw
abbrev ws_Mo_init : List Cond := Cond.code zyMo_init zbMo_init 1 none :: gw
abbrev ws_Mo_thrown : List Cond := Cond.code zyMo_thrown zbMo_thrown 1 (some .int) :: gw
abbrev ws_Mo_type : List Cond := Cond.code zyMo_type zbMo_type 6 (some .boolean) :: gw
abbrev ws_Mo_erase : List Cond := Cond.code zyMo_erase zbMo_erase 2 (some .int) :: gw
abbrev ws_Mo_free : List Cond := Cond.code zyMo_free zbMo_free 2 (some .boolean) :: gw
abbrev ws_Mo_charAt : List Cond := Cond.code zyMo_charAt zbMo_charAt 2 (some .int) :: gw
abbrev ws_Mo_party : List Cond := Cond.code zyMo_party zbMo_party 3 (some .int) :: gw
abbrev ws_Mo_kind : List Cond := Cond.code zyMo_kind zbMo_kind 3 (some .int) :: gw
abbrev ws_Mo_digit : List Cond := Cond.code zyMo_digit zbMo_digit 3 (some .int) :: gw
abbrev ws_Mo_readTrigger : List Cond := Cond.code zyMo_readTrigger zbMo_readTrigger 5 (some .int) :: gw
abbrev ws_Mo_overPair : List Cond := Cond.code zyMo_overPair zbMo_overPair 2 (some .int) :: gw
abbrev ws_Mo_readBound : List Cond := Cond.code zyMo_readBound zbMo_readBound 4 (some .int) :: gw
abbrev ws_Mo_readAction : List Cond := Cond.code zyMo_readAction zbMo_readAction 4 (some .int) :: gw
abbrev ws_Mo_readClause : List Cond := Cond.code zyMo_readClause zbMo_readClause 4 (some .int) :: gw
abbrev ws_Mo_readAll : List Cond := Cond.code zyMo_readAll zbMo_readAll 5 (some .int) :: gw
abbrev ws_Mo_refersWell : List Cond := Cond.code zyMo_refersWell zbMo_refersWell 7 (some .boolean) :: gw
abbrev ws_Mo_goesRound : List Cond := Cond.code zyMo_goesRound zbMo_goesRound 6 (some .boolean) :: gw
abbrev ws_Mo_faultOf : List Cond := Cond.code zyMo_faultOf zbMo_faultOf 4 (some .int) :: gw
abbrev ws_Mo_copy : List Cond := Cond.code zyMo_copy zbMo_copy 4 none :: gw
abbrev ws_Mo_dayAfter : List Cond := Cond.code zyMo_dayAfter zbMo_dayAfter 5 (some .int) :: gw
abbrev ws_Mo_put : List Cond := Cond.code zyMo_put zbMo_put 6 none :: gw
abbrev ws_Mo_takeOut : List Cond := Cond.code zyMo_takeOut zbMo_takeOut 6 none :: gw
abbrev ws_Mo_clauseAt : List Cond := Cond.code zyMo_clauseAt zbMo_clauseAt 4 (some .int) :: gw
abbrev ws_Mo_dayAt : List Cond := Cond.code zyMo_dayAt zbMo_dayAt 4 (some .int) :: gw
abbrev ws_Mo_isOf : List Cond := Cond.code zyMo_isOf zbMo_isOf 4 (some .boolean) :: gw
abbrev ws_Mo_first : List Cond := Cond.code zyMo_first zbMo_first 9 (some .int) :: gw
abbrev ws_Mo_await : List Cond := Cond.code zyMo_await zbMo_await 7 none :: gw
abbrev ws_Mo_breach : List Cond := Cond.code zyMo_breach zbMo_breach 4 none :: gw
abbrev ws_Mo_act : List Cond := Cond.code zyMo_act zbMo_act 7 none :: gw
abbrev ws_Mo_run : List Cond := Cond.code zyMo_run zbMo_run 5 none :: gw
abbrev ws_Mo_start : List Cond := Cond.code zyMo_start zbMo_start 1 none :: gw
abbrev ws_Mo_eventIn : List Cond := Cond.code zyMo_eventIn zbMo_eventIn 7 none :: gw
abbrev ws_Mo_passOver : List Cond := Cond.code zyMo_passOver zbMo_passOver 4 none :: gw
abbrev ws_Mo_endIn : List Cond := Cond.code zyMo_endIn zbMo_endIn 4 none :: gw
abbrev ws_Mo_begin : List Cond := Cond.code zyMo_begin zbMo_begin 5 (some .int) :: gw
abbrev ws_Mo_stop : List Cond := Cond.code zyMo_stop zbMo_stop 2 (some .boolean) :: gw
abbrev ws_Mo_fault : List Cond := Cond.code zyMo_fault zbMo_fault 1 (some .int) :: gw
abbrev ws_Mo_settle : List Cond := Cond.code zyMo_settle zbMo_settle 2 (some .int) :: gw
abbrev ws_Mo_isParty : List Cond := Cond.code zyMo_isParty zbMo_isParty 1 (some .boolean) :: gw
abbrev ws_Mo_isKind : List Cond := Cond.code zyMo_isKind zbMo_isKind 1 (some .boolean) :: gw
abbrev ws_Mo_event : List Cond := Cond.code zyMo_event zbMo_event 3 (some .int) :: gw
abbrev ws_Mo_nextDay : List Cond := Cond.code zyMo_nextDay zbMo_nextDay 2 (some .int) :: gw
abbrev ws_Mo_undo : List Cond := Cond.code zyMo_undo zbMo_undo 2 (some .boolean) :: gw
abbrev ws_Mo_today : List Cond := Cond.code zyMo_today zbMo_today 1 (some .int) :: gw
abbrev ws_Mo_duty : List Cond := Cond.code zyMo_duty zbMo_duty 8 (some .int) :: gw
abbrev ws_Mo_count : List Cond := Cond.code zyMo_count zbMo_count 2 (some .int) :: gw
abbrev ws_Mo_breaches : List Cond := Cond.code zyMo_breaches zbMo_breaches 2 (some .int) :: gw
abbrev ws_Mo_may : List Cond := Cond.code zyMo_may zbMo_may 3 (some .int) :: gw
abbrev ws_Mo_owed : List Cond := Cond.code zyMo_owed zbMo_owed 3 (some .int) :: gw
abbrev ws_Mo_goes : List Cond := Cond.code zyMo_goes zbMo_goes 8 (some .boolean) :: gw
abbrev ws_Mo_hasOne : List Cond := Cond.code zyMo_hasOne zbMo_hasOne 6 (some .boolean) :: gw
abbrev ws_Mo_firstCourse : List Cond := Cond.code zyMo_firstCourse zbMo_firstCourse 5 (some .int) :: gw
abbrev ws_Mo_askCode : List Cond := Cond.code zyMo_askCode zbMo_askCode 3 (some .int) :: gw
abbrev ws_Mo_course : List Cond := Cond.code zyMo_course zbMo_course 4 (some .int) :: gw
abbrev ws_Mo_threat : List Cond := Cond.code zyMo_threat zbMo_threat 5 (some .int) :: gw
abbrev ws_Ag_init : List Cond := Cond.code zyAg_init zbAg_init 2 none :: gw
abbrev ws_Ag_find : List Cond := Cond.code zyAg_find zbAg_find 5 (some .int) :: gw
abbrev ws_Ag_isTouchedBy : List Cond := Cond.code zyAg_isTouchedBy zbAg_isTouchedBy 5 (some .boolean) :: gw
abbrev ws_Ag_hasDutyDue : List Cond := Cond.code zyAg_hasDutyDue zbAg_hasDutyDue 4 (some .boolean) :: gw
abbrev ws_Ag_faultOfReferences : List Cond := Cond.code zyAg_faultOfReferences zbAg_faultOfReferences 2 (some .int) :: gw
abbrev ws_Ag_refersRightly : List Cond := Cond.code zyAg_refersRightly zbAg_refersRightly 3 (some .boolean) :: gw
abbrev ws_Ag_liesOnRound : List Cond := Cond.code zyAg_liesOnRound zbAg_liesOnRound 4 (some .boolean) :: gw
abbrev ws_Cl_init : List Cond := Cond.code zyCl_init zbCl_init 1 none :: gw
abbrev ws_Cl_isOnEvent : List Cond := Cond.code zyCl_isOnEvent zbCl_isOnEvent 3 (some .boolean) :: gw
abbrev ws_Cl_isOn : List Cond := Cond.code zyCl_isOn zbCl_isOn 3 (some .boolean) :: gw
abbrev ws_Cl_isFor : List Cond := Cond.code zyCl_isFor zbCl_isFor 3 (some .boolean) :: gw
abbrev ws_Cl_holds : List Cond := Cond.code zyCl_holds zbCl_holds 2 (some .boolean) :: gw
abbrev ws_Hi_init : List Cond := Cond.code zyHi_init zbHi_init 2 none :: gw
abbrev ws_Hi_keep : List Cond := Cond.code zyHi_keep zbHi_keep 2 none :: gw
abbrev ws_Hi_giveBack : List Cond := Cond.code zyHi_giveBack zbHi_giveBack 2 (some .boolean) :: gw
abbrev ws_Hi_forget : List Cond := Cond.code zyHi_forget zbHi_forget 1 none :: gw
abbrev ws_Ru_init : List Cond := Cond.code zyRu_init zbRu_init 1 none :: gw
abbrev ws_Ru_start : List Cond := Cond.code zyRu_start zbRu_start 4 (some .boolean) :: gw
abbrev ws_Ru_happen : List Cond := Cond.code zyRu_happen zbRu_happen 7 (some .int) :: gw
abbrev ws_Ru_endDay : List Cond := Cond.code zyRu_endDay zbRu_endDay 6 (some .int) :: gw
abbrev ws_Ru_breachBans : List Cond := Cond.code zyRu_breachBans zbRu_breachBans 8 (some .int) :: gw
abbrev ws_Ru_fulfilDuty : List Cond := Cond.code zyRu_fulfilDuty zbRu_fulfilDuty 6 none :: gw
abbrev ws_Ru_awaitAllOn : List Cond := Cond.code zyRu_awaitAllOn zbRu_awaitAllOn 7 none :: gw
abbrev ws_Ru_await : List Cond := Cond.code zyRu_await zbRu_await 2 none :: gw
abbrev ws_Ru_runWaiting : List Cond := Cond.code zyRu_runWaiting zbRu_runWaiting 5 (some .boolean) :: gw
abbrev ws_Ru_act : List Cond := Cond.code zyRu_act zbRu_act 4 (some .boolean) :: gw
abbrev ws_Ru_businessDay : List Cond := Cond.code zyRu_businessDay zbRu_businessDay 5 (some .int) :: gw
abbrev ws_Se_init : List Cond := Cond.code zySe_init zbSe_init 2 none :: gw
abbrev ws_Se_firstCourse : List Cond := Cond.code zySe_firstCourse zbSe_firstCourse 9 (some .int) :: gw
abbrev ws_Se_isKeptByEndOfDay : List Cond := Cond.code zySe_isKeptByEndOfDay zbSe_isKeptByEndOfDay 6 (some .boolean) :: gw
abbrev ws_Se_changes : List Cond := Cond.code zySe_changes zbSe_changes 6 (some .boolean) :: gw
abbrev ws_St_init : List Cond := Cond.code zySt_init zbSt_init 1 none :: gw
abbrev ws_St_debtOf : List Cond := Cond.code zySt_debtOf zbSt_debtOf 3 (some .int) :: gw
abbrev ws_St_addDebt : List Cond := Cond.code zySt_addDebt zbSt_addDebt 5 (some .boolean) :: gw
abbrev ws_St_clear : List Cond := Cond.code zySt_clear zbSt_clear 2 none :: gw
abbrev ws_St_copyFrom : List Cond := Cond.code zySt_copyFrom zbSt_copyFrom 2 none :: gw
abbrev ws_Te_init : List Cond := Cond.code zyTe_init zbTe_init 1 none :: gw
abbrev ws_Te_clauseAt : List Cond := Cond.code zyTe_clauseAt zbTe_clauseAt 2 (some .int) :: gw
abbrev ws_Te_dayAt : List Cond := Cond.code zyTe_dayAt zbTe_dayAt 2 (some .int) :: gw
abbrev ws_Te_add : List Cond := Cond.code zyTe_add zbTe_add 5 (some .boolean) :: gw
abbrev ws_Te_remove : List Cond := Cond.code zyTe_remove zbTe_remove 4 none :: gw
abbrev ws_Te_dropBefore : List Cond := Cond.code zyTe_dropBefore zbTe_dropBefore 3 none :: gw
abbrev ws_Te_countUntil : List Cond := Cond.code zyTe_countUntil zbTe_countUntil 5 (some .int) :: gw
abbrev ws_Te_copyFrom : List Cond := Cond.code zyTe_copyFrom zbTe_copyFrom 2 none :: gw
abbrev ws_Tx_init : List Cond := Cond.code zyTx_init zbTx_init 1 none :: gw
abbrev ws_Tx_put : List Cond := Cond.code zyTx_put zbTx_put 5 (some .boolean) :: gw
abbrev ws_Tx_characterOf : List Cond := Cond.code zyTx_characterOf zbTx_characterOf 3 (some .int) :: gw
abbrev ws_Tx_readInto : List Cond := Cond.code zyTx_readInto zbTx_readInto 3 (some .int) :: gw
abbrev ws_Tx_readClause : List Cond := Cond.code zyTx_readClause zbTx_readClause 2 (some .boolean) :: gw
abbrev ws_Tx_readTrigger : List Cond := Cond.code zyTx_readTrigger zbTx_readTrigger 2 (some .boolean) :: gw
abbrev ws_Tx_readTriggerNumber : List Cond := Cond.code zyTx_readTriggerNumber zbTx_readTriggerNumber 2 (some .boolean) :: gw
abbrev ws_Tx_readCondition : List Cond := Cond.code zyTx_readCondition zbTx_readCondition 2 (some .boolean) :: gw
abbrev ws_Tx_readAction : List Cond := Cond.code zyTx_readAction zbTx_readAction 2 (some .boolean) :: gw
abbrev ws_Tx_readTermSign : List Cond := Cond.code zyTx_readTermSign zbTx_readTermSign 2 (some .boolean) :: gw
abbrev ws_Tx_readTwoParties : List Cond := Cond.code zyTx_readTwoParties zbTx_readTwoParties 1 (some .boolean) :: gw
abbrev ws_Tx_readPartyAndKind : List Cond := Cond.code zyTx_readPartyAndKind zbTx_readPartyAndKind 1 (some .boolean) :: gw
abbrev ws_Tx_readDigit : List Cond := Cond.code zyTx_readDigit zbTx_readDigit 1 (some .boolean) :: gw
abbrev ws_Tx_isNext : List Cond := Cond.code zyTx_isNext zbTx_isNext 2 (some .boolean) :: gw
abbrev ws_Tx_takes : List Cond := Cond.code zyTx_takes zbTx_takes 2 (some .boolean) :: gw
abbrev ws_Tx_takeParty : List Cond := Cond.code zyTx_takeParty zbTx_takeParty 1 (some .int) :: gw
abbrev ws_Tx_takeKind : List Cond := Cond.code zyTx_takeKind zbTx_takeKind 1 (some .int) :: gw
abbrev ws_Tx_takeDigit : List Cond := Cond.code zyTx_takeDigit zbTx_takeDigit 1 (some .int) :: gw
abbrev ws_Tx_takeFrom : List Cond := Cond.code zyTx_takeFrom zbTx_takeFrom 4 (some .int) :: gw
theorem k_0 : (Jvm.Cond.methodLink "PledgeMonitor$Text" (3 : Nat) ({ cls := "java/lang/Object", name := "<init>", desc := "()V" } : Jvm.MethodName)) ∈ gw := gw_at 96 (by decide +kernel) (by decide +kernel)
theorem k_1 : (Jvm.Cond.instanceMethod ({ cls := "java/lang/Object", name := "<init>", desc := "()V" } : Jvm.MethodName)) ∈ gw := gw_at 89 (by decide +kernel) (by decide +kernel)
theorem k_2 : (Jvm.Cond.code ({ cls := "java/lang/Object", name := "<init>", desc := "()V" } : Jvm.MethodName) object_method_1_code (1 : Nat) (Option.none : Option Jvm.ClassFile.FieldType)) ∈ gw := gw_at 90 (by decide +kernel) (by decide +kernel)
theorem k_3 : (Jvm.Cond.arrayClass Jvm.ClassFile.FieldType.char) ∈ gw := gw_at 117 (by decide +kernel) (by decide +kernel)
theorem k_4 : (Jvm.Cond.fieldLink "PledgeMonitor$Text" (9 : Nat) "PledgeMonitor$Text" "characters" "[C") ∈ gw := gw_at 97 (by decide +kernel) (by decide +kernel)
theorem k_5 : (Jvm.Cond.fieldLink "PledgeMonitor$Text" (15 : Nat) "PledgeMonitor$Text" "length" "I") ∈ gw := gw_at 98 (by decide +kernel) (by decide +kernel)
theorem k_6 : (Jvm.Cond.fieldLink "PledgeMonitor$Text" (19 : Nat) "PledgeMonitor$Text" "place" "I") ∈ gw := gw_at 100 (by decide +kernel) (by decide +kernel)
theorem k_7 : (Jvm.Cond.fieldLink "PledgeMonitor$Text" (22 : Nat) "PledgeMonitor$Text" "first" "I") ∈ gw := gw_at 101 (by decide +kernel) (by decide +kernel)
theorem k_8 : (Jvm.Cond.fieldLink "PledgeMonitor$Text" (25 : Nat) "PledgeMonitor$Text" "second" "I") ∈ gw := gw_at 102 (by decide +kernel) (by decide +kernel)
theorem k_9 : (Jvm.Cond.fieldLink "PledgeMonitor$Text" (28 : Nat) "PledgeMonitor$Text" "digit" "I") ∈ gw := gw_at 103 (by decide +kernel) (by decide +kernel)
theorem k_10 : (Jvm.Cond.methodLink "PledgeMonitor$Clause" (3 : Nat) ({ cls := "java/lang/Object", name := "<init>", desc := "()V" } : Jvm.MethodName)) ∈ gw := gw_at 130 (by decide +kernel) (by decide +kernel)
theorem k_11 : (Jvm.Cond.fieldLink "PledgeMonitor$Clause" (9 : Nat) "PledgeMonitor$Clause" "trigger" "I") ∈ gw := gw_at 131 (by decide +kernel) (by decide +kernel)
theorem k_12 : (Jvm.Cond.fieldLink "PledgeMonitor$Clause" (15 : Nat) "PledgeMonitor$Clause" "triggerParty" "I") ∈ gw := gw_at 135 (by decide +kernel) (by decide +kernel)
theorem k_13 : (Jvm.Cond.fieldLink "PledgeMonitor$Clause" (18 : Nat) "PledgeMonitor$Clause" "triggerKind" "I") ∈ gw := gw_at 137 (by decide +kernel) (by decide +kernel)
theorem k_14 : (Jvm.Cond.fieldLink "PledgeMonitor$Clause" (21 : Nat) "PledgeMonitor$Clause" "triggerNumber" "I") ∈ gw := gw_at 139 (by decide +kernel) (by decide +kernel)
theorem k_15 : (Jvm.Cond.fieldLink "PledgeMonitor$Clause" (24 : Nat) "PledgeMonitor$Clause" "conditional" "Z") ∈ gw := gw_at 142 (by decide +kernel) (by decide +kernel)
theorem k_16 : (Jvm.Cond.fieldLink "PledgeMonitor$Clause" (28 : Nat) "PledgeMonitor$Clause" "debtor" "I") ∈ gw := gw_at 144 (by decide +kernel) (by decide +kernel)
theorem k_17 : (Jvm.Cond.fieldLink "PledgeMonitor$Clause" (31 : Nat) "PledgeMonitor$Clause" "creditor" "I") ∈ gw := gw_at 146 (by decide +kernel) (by decide +kernel)
theorem k_18 : (Jvm.Cond.fieldLink "PledgeMonitor$Clause" (34 : Nat) "PledgeMonitor$Clause" "limit" "I") ∈ gw := gw_at 148 (by decide +kernel) (by decide +kernel)
theorem k_19 : (Jvm.Cond.fieldLink "PledgeMonitor$Clause" (37 : Nat) "PledgeMonitor$Clause" "action" "I") ∈ gw := gw_at 150 (by decide +kernel) (by decide +kernel)
theorem k_20 : (Jvm.Cond.fieldLink "PledgeMonitor$Clause" (40 : Nat) "PledgeMonitor$Clause" "party" "I") ∈ gw := gw_at 154 (by decide +kernel) (by decide +kernel)
theorem k_21 : (Jvm.Cond.fieldLink "PledgeMonitor$Clause" (43 : Nat) "PledgeMonitor$Clause" "kind" "I") ∈ gw := gw_at 158 (by decide +kernel) (by decide +kernel)
theorem k_22 : (Jvm.Cond.fieldLink "PledgeMonitor$Clause" (46 : Nat) "PledgeMonitor$Clause" "otherParty" "I") ∈ gw := gw_at 160 (by decide +kernel) (by decide +kernel)
theorem k_23 : (Jvm.Cond.fieldLink "PledgeMonitor$Clause" (49 : Nat) "PledgeMonitor$Clause" "digit" "I") ∈ gw := gw_at 163 (by decide +kernel) (by decide +kernel)
theorem k_24 : (Jvm.Cond.methodLink "PledgeMonitor$Agreement" (3 : Nat) ({ cls := "java/lang/Object", name := "<init>", desc := "()V" } : Jvm.MethodName)) ∈ gw := gw_at 123 (by decide +kernel) (by decide +kernel)
theorem k_25 : (Jvm.Cond.classLink "PledgeMonitor$Agreement" (9 : Nat) "PledgeMonitor$Clause") ∈ gw := gw_at 124 (by decide +kernel) (by decide +kernel)
theorem k_26 : (Jvm.Cond.fieldLink "PledgeMonitor$Agreement" (11 : Nat) "PledgeMonitor$Agreement" "clauses" "[LPledgeMonitor$Clause;") ∈ gw := gw_at 194 (by decide +kernel) (by decide +kernel)
theorem k_27 : (Jvm.Cond.fieldLink "PledgeMonitor$Agreement" (17 : Nat) "PledgeMonitor$Agreement" "size" "I") ∈ gw := gw_at 197 (by decide +kernel) (by decide +kernel)
theorem k_28 : (Jvm.Cond.instantiable "PledgeMonitor$Clause" (13 : Nat)) ∈ gw := gw_at 126 (by decide +kernel) (by decide +kernel)
theorem k_29 : (Jvm.Cond.initialized "PledgeMonitor$Clause") ∈ gw := gw_at 68 (by decide +kernel) (by decide +kernel)
theorem k_30 : (Jvm.Cond.instanceMethod ({ cls := "PledgeMonitor$Clause", name := "<init>", desc := "()V" } : Jvm.MethodName)) ∈ gw := gw_at 128 (by decide +kernel) (by decide +kernel)
theorem k_31 : (Jvm.Cond.code ({ cls := "PledgeMonitor$Clause", name := "<init>", desc := "()V" } : Jvm.MethodName) prog_3_method_1_code (1 : Nat) (Option.none : Option Jvm.ClassFile.FieldType)) ∈ gw := gw_at 129 (by decide +kernel) (by decide +kernel)
theorem k_32 : (Jvm.Cond.methodLink "PledgeMonitor$Terms" (3 : Nat) ({ cls := "java/lang/Object", name := "<init>", desc := "()V" } : Jvm.MethodName)) ∈ gw := gw_at 217 (by decide +kernel) (by decide +kernel)
theorem k_33 : (Jvm.Cond.arrayClass Jvm.ClassFile.FieldType.int) ∈ gw := gw_at 229 (by decide +kernel) (by decide +kernel)
theorem k_34 : (Jvm.Cond.fieldLink "PledgeMonitor$Terms" (9 : Nat) "PledgeMonitor$Terms" "rows" "[I") ∈ gw := gw_at 218 (by decide +kernel) (by decide +kernel)
theorem k_35 : (Jvm.Cond.fieldLink "PledgeMonitor$Terms" (15 : Nat) "PledgeMonitor$Terms" "size" "I") ∈ gw := gw_at 220 (by decide +kernel) (by decide +kernel)
theorem k_36 : (Jvm.Cond.methodLink "PledgeMonitor$State" (3 : Nat) ({ cls := "java/lang/Object", name := "<init>", desc := "()V" } : Jvm.MethodName)) ∈ gw := gw_at 211 (by decide +kernel) (by decide +kernel)
theorem k_37 : (Jvm.Cond.fieldLink "PledgeMonitor$State" (9 : Nat) "PledgeMonitor$State" "day" "I") ∈ gw := gw_at 230 (by decide +kernel) (by decide +kernel)
theorem k_38 : (Jvm.Cond.classLink "PledgeMonitor$State" (15 : Nat) "PledgeMonitor$Terms") ∈ gw := gw_at 212 (by decide +kernel) (by decide +kernel)
theorem k_39 : (Jvm.Cond.instantiable "PledgeMonitor$Terms" (2 : Nat)) ∈ gw := gw_at 213 (by decide +kernel) (by decide +kernel)
theorem k_40 : (Jvm.Cond.initialized "PledgeMonitor$Terms") ∈ gw := gw_at 70 (by decide +kernel) (by decide +kernel)
theorem k_41 : (Jvm.Cond.instanceMethod ({ cls := "PledgeMonitor$Terms", name := "<init>", desc := "()V" } : Jvm.MethodName)) ∈ gw := gw_at 215 (by decide +kernel) (by decide +kernel)
theorem k_42 : (Jvm.Cond.code ({ cls := "PledgeMonitor$Terms", name := "<init>", desc := "()V" } : Jvm.MethodName) prog_8_method_1_code (1 : Nat) (Option.none : Option Jvm.ClassFile.FieldType)) ∈ gw := gw_at 216 (by decide +kernel) (by decide +kernel)
theorem k_43 : (Jvm.Cond.fieldLink "PledgeMonitor$State" (18 : Nat) "PledgeMonitor$State" "duties" "LPledgeMonitor$Terms;") ∈ gw := gw_at 234 (by decide +kernel) (by decide +kernel)
theorem k_44 : (Jvm.Cond.fieldLink "PledgeMonitor$State" (22 : Nat) "PledgeMonitor$State" "bans" "LPledgeMonitor$Terms;") ∈ gw := gw_at 238 (by decide +kernel) (by decide +kernel)
theorem k_45 : (Jvm.Cond.fieldLink "PledgeMonitor$State" (25 : Nat) "PledgeMonitor$State" "powers" "LPledgeMonitor$Terms;") ∈ gw := gw_at 242 (by decide +kernel) (by decide +kernel)
theorem k_46 : (Jvm.Cond.fieldLink "PledgeMonitor$State" (28 : Nat) "PledgeMonitor$State" "debts" "[I") ∈ gw := gw_at 245 (by decide +kernel) (by decide +kernel)
theorem k_47 : (Jvm.Cond.fieldLink "PledgeMonitor$State" (32 : Nat) "PledgeMonitor$State" "breachCounts" "[I") ∈ gw := gw_at 246 (by decide +kernel) (by decide +kernel)
theorem k_48 : (Jvm.Cond.methodLink "PledgeMonitor$History" (3 : Nat) ({ cls := "java/lang/Object", name := "<init>", desc := "()V" } : Jvm.MethodName)) ∈ gw := gw_at 267 (by decide +kernel) (by decide +kernel)
theorem k_49 : (Jvm.Cond.classLink "PledgeMonitor$History" (9 : Nat) "PledgeMonitor$State") ∈ gw := gw_at 268 (by decide +kernel) (by decide +kernel)
theorem k_50 : (Jvm.Cond.fieldLink "PledgeMonitor$History" (11 : Nat) "PledgeMonitor$History" "kept" "[LPledgeMonitor$State;") ∈ gw := gw_at 271 (by decide +kernel) (by decide +kernel)
theorem k_51 : (Jvm.Cond.fieldLink "PledgeMonitor$History" (17 : Nat) "PledgeMonitor$History" "size" "I") ∈ gw := gw_at 272 (by decide +kernel) (by decide +kernel)
theorem k_52 : (Jvm.Cond.fieldLink "PledgeMonitor$History" (21 : Nat) "PledgeMonitor$History" "next" "I") ∈ gw := gw_at 273 (by decide +kernel) (by decide +kernel)
theorem k_53 : (Jvm.Cond.instantiable "PledgeMonitor$State" (6 : Nat)) ∈ gw := gw_at 207 (by decide +kernel) (by decide +kernel)
theorem k_54 : (Jvm.Cond.initialized "PledgeMonitor$State") ∈ gw := gw_at 69 (by decide +kernel) (by decide +kernel)
theorem k_55 : (Jvm.Cond.instanceMethod ({ cls := "PledgeMonitor$State", name := "<init>", desc := "()V" } : Jvm.MethodName)) ∈ gw := gw_at 209 (by decide +kernel) (by decide +kernel)
theorem k_56 : (Jvm.Cond.code ({ cls := "PledgeMonitor$State", name := "<init>", desc := "()V" } : Jvm.MethodName) prog_7_method_1_code (1 : Nat) (Option.none : Option Jvm.ClassFile.FieldType)) ∈ gw := gw_at 210 (by decide +kernel) (by decide +kernel)
theorem k_57 : (Jvm.Cond.methodLink "PledgeMonitor$Runner" (3 : Nat) ({ cls := "java/lang/Object", name := "<init>", desc := "()V" } : Jvm.MethodName)) ∈ gw := gw_at 292 (by decide +kernel) (by decide +kernel)
theorem k_58 : (Jvm.Cond.arrayClass Jvm.ClassFile.FieldType.boolean) ∈ gw := gw_at 304 (by decide +kernel) (by decide +kernel)
theorem k_59 : (Jvm.Cond.fieldLink "PledgeMonitor$Runner" (9 : Nat) "PledgeMonitor$Runner" "freeDays" "[Z") ∈ gw := gw_at 293 (by decide +kernel) (by decide +kernel)
theorem k_60 : (Jvm.Cond.fieldLink "PledgeMonitor$Runner" (15 : Nat) "PledgeMonitor$Runner" "waiting" "[I") ∈ gw := gw_at 295 (by decide +kernel) (by decide +kernel)
theorem k_61 : (Jvm.Cond.fieldLink "PledgeMonitor$Runner" (19 : Nat) "PledgeMonitor$Runner" "waitingSize" "I") ∈ gw := gw_at 296 (by decide +kernel) (by decide +kernel)
theorem k_62 : (Jvm.Cond.methodLink "PledgeMonitor$Search" (3 : Nat) ({ cls := "java/lang/Object", name := "<init>", desc := "()V" } : Jvm.MethodName)) ∈ gw := gw_at 286 (by decide +kernel) (by decide +kernel)
theorem k_63 : (Jvm.Cond.classLink "PledgeMonitor$Search" (9 : Nat) "PledgeMonitor$Runner") ∈ gw := gw_at 287 (by decide +kernel) (by decide +kernel)
theorem k_64 : (Jvm.Cond.instantiable "PledgeMonitor$Runner" (3 : Nat)) ∈ gw := gw_at 288 (by decide +kernel) (by decide +kernel)
theorem k_65 : (Jvm.Cond.initialized "PledgeMonitor$Runner") ∈ gw := gw_at 73 (by decide +kernel) (by decide +kernel)
theorem k_66 : (Jvm.Cond.instanceMethod ({ cls := "PledgeMonitor$Runner", name := "<init>", desc := "()V" } : Jvm.MethodName)) ∈ gw := gw_at 290 (by decide +kernel) (by decide +kernel)
theorem k_67 : (Jvm.Cond.code ({ cls := "PledgeMonitor$Runner", name := "<init>", desc := "()V" } : Jvm.MethodName) prog_5_method_1_code (1 : Nat) (Option.none : Option Jvm.ClassFile.FieldType)) ∈ gw := gw_at 291 (by decide +kernel) (by decide +kernel)
theorem k_68 : (Jvm.Cond.fieldLink "PledgeMonitor$Search" (12 : Nat) "PledgeMonitor$Search" "runner" "LPledgeMonitor$Runner;") ∈ gw := gw_at 307 (by decide +kernel) (by decide +kernel)
theorem k_69 : (Jvm.Cond.classLink "PledgeMonitor$Search" (18 : Nat) "PledgeMonitor$State") ∈ gw := gw_at 305 (by decide +kernel) (by decide +kernel)
theorem k_70 : (Jvm.Cond.fieldLink "PledgeMonitor$Search" (20 : Nat) "PledgeMonitor$Search" "afterOne" "[LPledgeMonitor$State;") ∈ gw := gw_at 309 (by decide +kernel) (by decide +kernel)
theorem k_71 : (Jvm.Cond.fieldLink "PledgeMonitor$Search" (24 : Nat) "PledgeMonitor$Search" "afterTwo" "[LPledgeMonitor$State;") ∈ gw := gw_at 310 (by decide +kernel) (by decide +kernel)
theorem k_72 : (Jvm.Cond.fieldLink "PledgeMonitor$Search" (27 : Nat) "PledgeMonitor$Search" "afterDay" "[LPledgeMonitor$State;") ∈ gw := gw_at 311 (by decide +kernel) (by decide +kernel)
theorem k_73 : (Jvm.Cond.methodLink "PledgeMonitor" (1 : Nat) ({ cls := "java/lang/Object", name := "<init>", desc := "()V" } : Jvm.MethodName)) ∈ gw := gw_at 88 (by decide +kernel) (by decide +kernel)
theorem k_74 : (Jvm.Cond.classLink "PledgeMonitor" (7 : Nat) "PledgeMonitor$Text") ∈ gw := gw_at 91 (by decide +kernel) (by decide +kernel)
theorem k_75 : (Jvm.Cond.instantiable "PledgeMonitor$Text" (6 : Nat)) ∈ gw := gw_at 92 (by decide +kernel) (by decide +kernel)
theorem k_76 : (Jvm.Cond.initialized "PledgeMonitor$Text") ∈ gw := gw_at 66 (by decide +kernel) (by decide +kernel)
theorem k_77 : (Jvm.Cond.instanceMethod ({ cls := "PledgeMonitor$Text", name := "<init>", desc := "()V" } : Jvm.MethodName)) ∈ gw := gw_at 94 (by decide +kernel) (by decide +kernel)
theorem k_78 : (Jvm.Cond.code ({ cls := "PledgeMonitor$Text", name := "<init>", desc := "()V" } : Jvm.MethodName) prog_9_method_1_code (1 : Nat) (Option.none : Option Jvm.ClassFile.FieldType)) ∈ gw := gw_at 95 (by decide +kernel) (by decide +kernel)
theorem k_79 : (Jvm.Cond.fieldLink "PledgeMonitor" (10 : Nat) "PledgeMonitor" "text" "LPledgeMonitor$Text;") ∈ gw := gw_at 321 (by decide +kernel) (by decide +kernel)
theorem k_80 : (Jvm.Cond.fieldLink "PledgeMonitor" (16 : Nat) "PledgeMonitor" "foundFault" "I") ∈ gw := gw_at 322 (by decide +kernel) (by decide +kernel)
theorem k_81 : (Jvm.Cond.fieldLink "PledgeMonitor" (20 : Nat) "PledgeMonitor" "running" "Z") ∈ gw := gw_at 323 (by decide +kernel) (by decide +kernel)
theorem k_82 : (Jvm.Cond.classLink "PledgeMonitor" (24 : Nat) "PledgeMonitor$Agreement") ∈ gw := gw_at 118 (by decide +kernel) (by decide +kernel)
theorem k_83 : (Jvm.Cond.instantiable "PledgeMonitor$Agreement" (2 : Nat)) ∈ gw := gw_at 119 (by decide +kernel) (by decide +kernel)
theorem k_84 : (Jvm.Cond.initialized "PledgeMonitor$Agreement") ∈ gw := gw_at 67 (by decide +kernel) (by decide +kernel)
theorem k_85 : (Jvm.Cond.instanceMethod ({ cls := "PledgeMonitor$Agreement", name := "<init>", desc := "()V" } : Jvm.MethodName)) ∈ gw := gw_at 121 (by decide +kernel) (by decide +kernel)
theorem k_86 : (Jvm.Cond.methodLink "PledgeMonitor" (26 : Nat) ({ cls := "PledgeMonitor$Agreement", name := "<init>", desc := "()V" } : Jvm.MethodName)) ∈ gw := gw_at 120 (by decide +kernel) (by decide +kernel)
theorem k_87 : (Jvm.Cond.code ({ cls := "PledgeMonitor$Agreement", name := "<init>", desc := "()V" } : Jvm.MethodName) prog_2_method_1_code (2 : Nat) (Option.none : Option Jvm.ClassFile.FieldType)) ∈ gw := gw_at 122 (by decide +kernel) (by decide +kernel)
theorem k_88 : (Jvm.Cond.fieldLink "PledgeMonitor" (27 : Nat) "PledgeMonitor" "agreement" "LPledgeMonitor$Agreement;") ∈ gw := gw_at 324 (by decide +kernel) (by decide +kernel)
theorem k_89 : (Jvm.Cond.fieldLink "PledgeMonitor" (31 : Nat) "PledgeMonitor" "draft" "LPledgeMonitor$Agreement;") ∈ gw := gw_at 325 (by decide +kernel) (by decide +kernel)
theorem k_90 : (Jvm.Cond.classLink "PledgeMonitor" (34 : Nat) "PledgeMonitor$State") ∈ gw := gw_at 206 (by decide +kernel) (by decide +kernel)
theorem k_91 : (Jvm.Cond.fieldLink "PledgeMonitor" (37 : Nat) "PledgeMonitor" "state" "LPledgeMonitor$State;") ∈ gw := gw_at 326 (by decide +kernel) (by decide +kernel)
theorem k_92 : (Jvm.Cond.fieldLink "PledgeMonitor" (41 : Nat) "PledgeMonitor" "trial" "LPledgeMonitor$State;") ∈ gw := gw_at 327 (by decide +kernel) (by decide +kernel)
theorem k_93 : (Jvm.Cond.classLink "PledgeMonitor" (44 : Nat) "PledgeMonitor$History") ∈ gw := gw_at 262 (by decide +kernel) (by decide +kernel)
theorem k_94 : (Jvm.Cond.instantiable "PledgeMonitor$History" (3 : Nat)) ∈ gw := gw_at 263 (by decide +kernel) (by decide +kernel)
theorem k_95 : (Jvm.Cond.initialized "PledgeMonitor$History") ∈ gw := gw_at 71 (by decide +kernel) (by decide +kernel)
theorem k_96 : (Jvm.Cond.instanceMethod ({ cls := "PledgeMonitor$History", name := "<init>", desc := "()V" } : Jvm.MethodName)) ∈ gw := gw_at 265 (by decide +kernel) (by decide +kernel)
theorem k_97 : (Jvm.Cond.methodLink "PledgeMonitor" (46 : Nat) ({ cls := "PledgeMonitor$History", name := "<init>", desc := "()V" } : Jvm.MethodName)) ∈ gw := gw_at 264 (by decide +kernel) (by decide +kernel)
theorem k_98 : (Jvm.Cond.code ({ cls := "PledgeMonitor$History", name := "<init>", desc := "()V" } : Jvm.MethodName) prog_4_method_1_code (2 : Nat) (Option.none : Option Jvm.ClassFile.FieldType)) ∈ gw := gw_at 266 (by decide +kernel) (by decide +kernel)
theorem k_99 : (Jvm.Cond.fieldLink "PledgeMonitor" (47 : Nat) "PledgeMonitor" "history" "LPledgeMonitor$History;") ∈ gw := gw_at 328 (by decide +kernel) (by decide +kernel)
theorem k_100 : (Jvm.Cond.classLink "PledgeMonitor" (51 : Nat) "PledgeMonitor$Search") ∈ gw := gw_at 281 (by decide +kernel) (by decide +kernel)
theorem k_101 : (Jvm.Cond.instantiable "PledgeMonitor$Search" (4 : Nat)) ∈ gw := gw_at 282 (by decide +kernel) (by decide +kernel)
theorem k_102 : (Jvm.Cond.initialized "PledgeMonitor$Search") ∈ gw := gw_at 72 (by decide +kernel) (by decide +kernel)
theorem k_103 : (Jvm.Cond.instanceMethod ({ cls := "PledgeMonitor$Search", name := "<init>", desc := "()V" } : Jvm.MethodName)) ∈ gw := gw_at 284 (by decide +kernel) (by decide +kernel)
theorem k_104 : (Jvm.Cond.methodLink "PledgeMonitor" (53 : Nat) ({ cls := "PledgeMonitor$Search", name := "<init>", desc := "()V" } : Jvm.MethodName)) ∈ gw := gw_at 283 (by decide +kernel) (by decide +kernel)
theorem k_105 : (Jvm.Cond.code ({ cls := "PledgeMonitor$Search", name := "<init>", desc := "()V" } : Jvm.MethodName) prog_6_method_1_code (2 : Nat) (Option.none : Option Jvm.ClassFile.FieldType)) ∈ gw := gw_at 285 (by decide +kernel) (by decide +kernel)
theorem k_106 : (Jvm.Cond.fieldLink "PledgeMonitor" (54 : Nat) "PledgeMonitor" "search" "LPledgeMonitor$Search;") ∈ gw := gw_at 329 (by decide +kernel) (by decide +kernel)
theorem k_107 : (Jvm.Cond.fieldLink "PledgeMonitor" (58 : Nat) "PledgeMonitor$Search" "runner" "LPledgeMonitor$Runner;") ∈ gw := gw_at 308 (by decide +kernel) (by decide +kernel)
theorem k_108 : (Jvm.Cond.fieldLink "PledgeMonitor" (62 : Nat) "PledgeMonitor" "runner" "LPledgeMonitor$Runner;") ∈ gw := gw_at 330 (by decide +kernel) (by decide +kernel)
theorem k_109 : (Jvm.Cond.methodLink "PledgeMonitor$Text" (31 : Nat) ({ cls := "PledgeMonitor$Text", name := "characterOf", desc := "(JI)I" } : Jvm.MethodName)) ∈ gw := gw_at 360 (by decide +kernel) (by decide +kernel)
theorem k_110 : (Jvm.Cond.static ({ cls := "PledgeMonitor$Text", name := "characterOf", desc := "(JI)I" } : Jvm.MethodName)) ∈ gw := gw_at 361 (by decide +kernel) (by decide +kernel)
theorem k_111 : (Jvm.Cond.code ({ cls := "PledgeMonitor$Text", name := "characterOf", desc := "(JI)I" } : Jvm.MethodName) prog_9_method_3_code (3 : Nat) (Option.some Jvm.ClassFile.FieldType.int)) ∈ gw := gw_at 362 (by decide +kernel) (by decide +kernel)
theorem k_112 : (Jvm.Cond.methodLink "PledgeMonitor" (63 : Nat) ({ cls := "PledgeMonitor$Text", name := "put", desc := "(J)Z" } : Jvm.MethodName)) ∈ gw := gw_at 356 (by decide +kernel) (by decide +kernel)
theorem k_113 : (Jvm.Cond.instanceMethod ({ cls := "PledgeMonitor$Text", name := "put", desc := "(J)Z" } : Jvm.MethodName)) ∈ gw := gw_at 357 (by decide +kernel) (by decide +kernel)
theorem k_114 : (Jvm.Cond.selects "PledgeMonitor$Text" ({ cls := "PledgeMonitor$Text", name := "put", desc := "(J)Z" } : Jvm.MethodName) ({ cls := "PledgeMonitor$Text", name := "put", desc := "(J)Z" } : Jvm.MethodName)) ∈ gw := gw_at 358 (by decide +kernel) (by decide +kernel)
theorem k_115 : (Jvm.Cond.code ({ cls := "PledgeMonitor$Text", name := "put", desc := "(J)Z" } : Jvm.MethodName) prog_9_method_2_code (5 : Nat) (Option.some Jvm.ClassFile.FieldType.boolean)) ∈ gw := gw_at 359 (by decide +kernel) (by decide +kernel)
theorem k_116 : (Jvm.Cond.fieldLink "PledgeMonitor" (67 : Nat) "PledgeMonitor$Text" "length" "I") ∈ gw := gw_at 99 (by decide +kernel) (by decide +kernel)
theorem k_117 : (Jvm.Cond.fieldLink "PledgeMonitor" (70 : Nat) "PledgeMonitor$Runner" "freeDays" "[Z") ∈ gw := gw_at 294 (by decide +kernel) (by decide +kernel)
theorem k_118 : (Jvm.Cond.methodLink "PledgeMonitor$Text" (130 : Nat) ({ cls := "PledgeMonitor$Text", name := "isNext", desc := "(C)Z" } : Jvm.MethodName)) ∈ gw := gw_at 474 (by decide +kernel) (by decide +kernel)
theorem k_119 : (Jvm.Cond.instanceMethod ({ cls := "PledgeMonitor$Text", name := "isNext", desc := "(C)Z" } : Jvm.MethodName)) ∈ gw := gw_at 476 (by decide +kernel) (by decide +kernel)
theorem k_120 : (Jvm.Cond.selects "PledgeMonitor$Text" ({ cls := "PledgeMonitor$Text", name := "isNext", desc := "(C)Z" } : Jvm.MethodName) ({ cls := "PledgeMonitor$Text", name := "isNext", desc := "(C)Z" } : Jvm.MethodName)) ∈ gw := gw_at 3 (by decide +kernel) (by decide +kernel)
theorem k_121 : (Jvm.Cond.code ({ cls := "PledgeMonitor$Text", name := "isNext", desc := "(C)Z" } : Jvm.MethodName) prog_9_method_14_code (2 : Nat) (Option.some Jvm.ClassFile.FieldType.boolean)) ∈ gw := gw_at 477 (by decide +kernel) (by decide +kernel)
theorem k_122 : (Jvm.Cond.methodLink "PledgeMonitor$Text" (133 : Nat) ({ cls := "PledgeMonitor$Text", name := "takeFrom", desc := "(CI)I" } : Jvm.MethodName)) ∈ gw := gw_at 486 (by decide +kernel) (by decide +kernel)
theorem k_123 : (Jvm.Cond.instanceMethod ({ cls := "PledgeMonitor$Text", name := "takeFrom", desc := "(CI)I" } : Jvm.MethodName)) ∈ gw := gw_at 488 (by decide +kernel) (by decide +kernel)
theorem k_124 : (Jvm.Cond.selects "PledgeMonitor$Text" ({ cls := "PledgeMonitor$Text", name := "takeFrom", desc := "(CI)I" } : Jvm.MethodName) ({ cls := "PledgeMonitor$Text", name := "takeFrom", desc := "(CI)I" } : Jvm.MethodName)) ∈ gw := gw_at 6 (by decide +kernel) (by decide +kernel)
theorem k_125 : (Jvm.Cond.code ({ cls := "PledgeMonitor$Text", name := "takeFrom", desc := "(CI)I" } : Jvm.MethodName) prog_9_method_19_code (4 : Nat) (Option.some Jvm.ClassFile.FieldType.int)) ∈ gw := gw_at 489 (by decide +kernel) (by decide +kernel)
theorem k_126 : (Jvm.Cond.methodLink "PledgeMonitor$Text" (85 : Nat) ({ cls := "PledgeMonitor$Text", name := "takeDigit", desc := "()I" } : Jvm.MethodName)) ∈ gw := gw_at 482 (by decide +kernel) (by decide +kernel)
theorem k_127 : (Jvm.Cond.instanceMethod ({ cls := "PledgeMonitor$Text", name := "takeDigit", desc := "()I" } : Jvm.MethodName)) ∈ gw := gw_at 484 (by decide +kernel) (by decide +kernel)
theorem k_128 : (Jvm.Cond.selects "PledgeMonitor$Text" ({ cls := "PledgeMonitor$Text", name := "takeDigit", desc := "()I" } : Jvm.MethodName) ({ cls := "PledgeMonitor$Text", name := "takeDigit", desc := "()I" } : Jvm.MethodName)) ∈ gw := gw_at 5 (by decide +kernel) (by decide +kernel)
theorem k_129 : (Jvm.Cond.code ({ cls := "PledgeMonitor$Text", name := "takeDigit", desc := "()I" } : Jvm.MethodName) prog_9_method_18_code (1 : Nat) (Option.some Jvm.ClassFile.FieldType.int)) ∈ gw := gw_at 485 (by decide +kernel) (by decide +kernel)
theorem k_130 : (Jvm.Cond.fieldLink "PledgeMonitor$Text" (88 : Nat) "PledgeMonitor$Clause" "triggerNumber" "I") ∈ gw := gw_at 141 (by decide +kernel) (by decide +kernel)
theorem k_131 : (Jvm.Cond.methodLink "PledgeMonitor$Text" (52 : Nat) ({ cls := "PledgeMonitor$Text", name := "takes", desc := "(C)Z" } : Jvm.MethodName)) ∈ gw := gw_at 470 (by decide +kernel) (by decide +kernel)
theorem k_132 : (Jvm.Cond.instanceMethod ({ cls := "PledgeMonitor$Text", name := "takes", desc := "(C)Z" } : Jvm.MethodName)) ∈ gw := gw_at 472 (by decide +kernel) (by decide +kernel)
theorem k_133 : (Jvm.Cond.selects "PledgeMonitor$Text" ({ cls := "PledgeMonitor$Text", name := "takes", desc := "(C)Z" } : Jvm.MethodName) ({ cls := "PledgeMonitor$Text", name := "takes", desc := "(C)Z" } : Jvm.MethodName)) ∈ gw := gw_at 2 (by decide +kernel) (by decide +kernel)
theorem k_134 : (Jvm.Cond.code ({ cls := "PledgeMonitor$Text", name := "takes", desc := "(C)Z" } : Jvm.MethodName) prog_9_method_15_code (2 : Nat) (Option.some Jvm.ClassFile.FieldType.boolean)) ∈ gw := gw_at 473 (by decide +kernel) (by decide +kernel)
theorem k_135 : (Jvm.Cond.fieldLink "PledgeMonitor$Text" (65 : Nat) "PledgeMonitor$Clause" "trigger" "I") ∈ gw := gw_at 133 (by decide +kernel) (by decide +kernel)
theorem k_136 : (Jvm.Cond.methodLink "PledgeMonitor$Text" (73 : Nat) ({ cls := "PledgeMonitor$Text", name := "takeParty", desc := "()I" } : Jvm.MethodName)) ∈ gw := gw_at 490 (by decide +kernel) (by decide +kernel)
theorem k_137 : (Jvm.Cond.instanceMethod ({ cls := "PledgeMonitor$Text", name := "takeParty", desc := "()I" } : Jvm.MethodName)) ∈ gw := gw_at 492 (by decide +kernel) (by decide +kernel)
theorem k_138 : (Jvm.Cond.selects "PledgeMonitor$Text" ({ cls := "PledgeMonitor$Text", name := "takeParty", desc := "()I" } : Jvm.MethodName) ({ cls := "PledgeMonitor$Text", name := "takeParty", desc := "()I" } : Jvm.MethodName)) ∈ gw := gw_at 7 (by decide +kernel) (by decide +kernel)
theorem k_139 : (Jvm.Cond.code ({ cls := "PledgeMonitor$Text", name := "takeParty", desc := "()I" } : Jvm.MethodName) prog_9_method_16_code (1 : Nat) (Option.some Jvm.ClassFile.FieldType.int)) ∈ gw := gw_at 493 (by decide +kernel) (by decide +kernel)
theorem k_140 : (Jvm.Cond.fieldLink "PledgeMonitor$Text" (76 : Nat) "PledgeMonitor$Clause" "triggerParty" "I") ∈ gw := gw_at 136 (by decide +kernel) (by decide +kernel)
theorem k_141 : (Jvm.Cond.methodLink "PledgeMonitor$Text" (79 : Nat) ({ cls := "PledgeMonitor$Text", name := "takeKind", desc := "()I" } : Jvm.MethodName)) ∈ gw := gw_at 494 (by decide +kernel) (by decide +kernel)
theorem k_142 : (Jvm.Cond.instanceMethod ({ cls := "PledgeMonitor$Text", name := "takeKind", desc := "()I" } : Jvm.MethodName)) ∈ gw := gw_at 496 (by decide +kernel) (by decide +kernel)
theorem k_143 : (Jvm.Cond.selects "PledgeMonitor$Text" ({ cls := "PledgeMonitor$Text", name := "takeKind", desc := "()I" } : Jvm.MethodName) ({ cls := "PledgeMonitor$Text", name := "takeKind", desc := "()I" } : Jvm.MethodName)) ∈ gw := gw_at 8 (by decide +kernel) (by decide +kernel)
theorem k_144 : (Jvm.Cond.code ({ cls := "PledgeMonitor$Text", name := "takeKind", desc := "()I" } : Jvm.MethodName) prog_9_method_17_code (1 : Nat) (Option.some Jvm.ClassFile.FieldType.int)) ∈ gw := gw_at 497 (by decide +kernel) (by decide +kernel)
theorem k_145 : (Jvm.Cond.fieldLink "PledgeMonitor$Text" (82 : Nat) "PledgeMonitor$Clause" "triggerKind" "I") ∈ gw := gw_at 138 (by decide +kernel) (by decide +kernel)
theorem k_146 : (Jvm.Cond.methodLink "PledgeMonitor$Text" (70 : Nat) ({ cls := "PledgeMonitor$Text", name := "readTriggerNumber", desc := "(LPledgeMonitor$Clause;)Z" } : Jvm.MethodName)) ∈ gw := gw_at 478 (by decide +kernel) (by decide +kernel)
theorem k_147 : (Jvm.Cond.instanceMethod ({ cls := "PledgeMonitor$Text", name := "readTriggerNumber", desc := "(LPledgeMonitor$Clause;)Z" } : Jvm.MethodName)) ∈ gw := gw_at 480 (by decide +kernel) (by decide +kernel)
theorem k_148 : (Jvm.Cond.selects "PledgeMonitor$Text" ({ cls := "PledgeMonitor$Text", name := "readTriggerNumber", desc := "(LPledgeMonitor$Clause;)Z" } : Jvm.MethodName) ({ cls := "PledgeMonitor$Text", name := "readTriggerNumber", desc := "(LPledgeMonitor$Clause;)Z" } : Jvm.MethodName)) ∈ gw := gw_at 4 (by decide +kernel) (by decide +kernel)
theorem k_149 : (Jvm.Cond.code ({ cls := "PledgeMonitor$Text", name := "readTriggerNumber", desc := "(LPledgeMonitor$Clause;)Z" } : Jvm.MethodName) prog_9_method_7_code (2 : Nat) (Option.some Jvm.ClassFile.FieldType.boolean)) ∈ gw := gw_at 481 (by decide +kernel) (by decide +kernel)
theorem k_150 : (Jvm.Cond.fieldLink "PledgeMonitor$Text" (91 : Nat) "PledgeMonitor$Clause" "conditional" "Z") ∈ gw := gw_at 143 (by decide +kernel) (by decide +kernel)
theorem k_151 : (Jvm.Cond.methodLink "PledgeMonitor$Text" (95 : Nat) ({ cls := "PledgeMonitor$Text", name := "readTwoParties", desc := "()Z" } : Jvm.MethodName)) ∈ gw := gw_at 502 (by decide +kernel) (by decide +kernel)
theorem k_152 : (Jvm.Cond.instanceMethod ({ cls := "PledgeMonitor$Text", name := "readTwoParties", desc := "()Z" } : Jvm.MethodName)) ∈ gw := gw_at 504 (by decide +kernel) (by decide +kernel)
theorem k_153 : (Jvm.Cond.selects "PledgeMonitor$Text" ({ cls := "PledgeMonitor$Text", name := "readTwoParties", desc := "()Z" } : Jvm.MethodName) ({ cls := "PledgeMonitor$Text", name := "readTwoParties", desc := "()Z" } : Jvm.MethodName)) ∈ gw := gw_at 10 (by decide +kernel) (by decide +kernel)
theorem k_154 : (Jvm.Cond.code ({ cls := "PledgeMonitor$Text", name := "readTwoParties", desc := "()Z" } : Jvm.MethodName) prog_9_method_11_code (1 : Nat) (Option.some Jvm.ClassFile.FieldType.boolean)) ∈ gw := gw_at 505 (by decide +kernel) (by decide +kernel)
theorem k_155 : (Jvm.Cond.methodLink "PledgeMonitor$Text" (99 : Nat) ({ cls := "PledgeMonitor$Text", name := "readDigit", desc := "()Z" } : Jvm.MethodName)) ∈ gw := gw_at 506 (by decide +kernel) (by decide +kernel)
theorem k_156 : (Jvm.Cond.instanceMethod ({ cls := "PledgeMonitor$Text", name := "readDigit", desc := "()Z" } : Jvm.MethodName)) ∈ gw := gw_at 508 (by decide +kernel) (by decide +kernel)
theorem k_157 : (Jvm.Cond.selects "PledgeMonitor$Text" ({ cls := "PledgeMonitor$Text", name := "readDigit", desc := "()Z" } : Jvm.MethodName) ({ cls := "PledgeMonitor$Text", name := "readDigit", desc := "()Z" } : Jvm.MethodName)) ∈ gw := gw_at 11 (by decide +kernel) (by decide +kernel)
theorem k_158 : (Jvm.Cond.code ({ cls := "PledgeMonitor$Text", name := "readDigit", desc := "()Z" } : Jvm.MethodName) prog_9_method_13_code (1 : Nat) (Option.some Jvm.ClassFile.FieldType.boolean)) ∈ gw := gw_at 509 (by decide +kernel) (by decide +kernel)
theorem k_159 : (Jvm.Cond.fieldLink "PledgeMonitor$Text" (102 : Nat) "PledgeMonitor$Clause" "debtor" "I") ∈ gw := gw_at 145 (by decide +kernel) (by decide +kernel)
theorem k_160 : (Jvm.Cond.fieldLink "PledgeMonitor$Text" (105 : Nat) "PledgeMonitor$Clause" "creditor" "I") ∈ gw := gw_at 147 (by decide +kernel) (by decide +kernel)
theorem k_161 : (Jvm.Cond.fieldLink "PledgeMonitor$Text" (108 : Nat) "PledgeMonitor$Clause" "limit" "I") ∈ gw := gw_at 149 (by decide +kernel) (by decide +kernel)
theorem k_162 : (Jvm.Cond.fieldLink "PledgeMonitor$Text" (120 : Nat) "PledgeMonitor$Clause" "action" "I") ∈ gw := gw_at 152 (by decide +kernel) (by decide +kernel)
theorem k_163 : (Jvm.Cond.fieldLink "PledgeMonitor$Text" (111 : Nat) "PledgeMonitor$Clause" "party" "I") ∈ gw := gw_at 156 (by decide +kernel) (by decide +kernel)
theorem k_164 : (Jvm.Cond.fieldLink "PledgeMonitor$Text" (114 : Nat) "PledgeMonitor$Clause" "kind" "I") ∈ gw := gw_at 159 (by decide +kernel) (by decide +kernel)
theorem k_165 : (Jvm.Cond.fieldLink "PledgeMonitor$Text" (117 : Nat) "PledgeMonitor$Clause" "otherParty" "I") ∈ gw := gw_at 161 (by decide +kernel) (by decide +kernel)
theorem k_166 : (Jvm.Cond.fieldLink "PledgeMonitor$Text" (129 : Nat) "PledgeMonitor$Clause" "digit" "I") ∈ gw := gw_at 165 (by decide +kernel) (by decide +kernel)
theorem k_167 : (Jvm.Cond.methodLink "PledgeMonitor$Text" (123 : Nat) ({ cls := "PledgeMonitor$Text", name := "readTermSign", desc := "(LPledgeMonitor$Clause;)Z" } : Jvm.MethodName)) ∈ gw := gw_at 514 (by decide +kernel) (by decide +kernel)
theorem k_168 : (Jvm.Cond.instanceMethod ({ cls := "PledgeMonitor$Text", name := "readTermSign", desc := "(LPledgeMonitor$Clause;)Z" } : Jvm.MethodName)) ∈ gw := gw_at 516 (by decide +kernel) (by decide +kernel)
theorem k_169 : (Jvm.Cond.selects "PledgeMonitor$Text" ({ cls := "PledgeMonitor$Text", name := "readTermSign", desc := "(LPledgeMonitor$Clause;)Z" } : Jvm.MethodName) ({ cls := "PledgeMonitor$Text", name := "readTermSign", desc := "(LPledgeMonitor$Clause;)Z" } : Jvm.MethodName)) ∈ gw := gw_at 13 (by decide +kernel) (by decide +kernel)
theorem k_170 : (Jvm.Cond.code ({ cls := "PledgeMonitor$Text", name := "readTermSign", desc := "(LPledgeMonitor$Clause;)Z" } : Jvm.MethodName) prog_9_method_10_code (2 : Nat) (Option.some Jvm.ClassFile.FieldType.boolean)) ∈ gw := gw_at 517 (by decide +kernel) (by decide +kernel)
theorem k_171 : (Jvm.Cond.methodLink "PledgeMonitor$Text" (126 : Nat) ({ cls := "PledgeMonitor$Text", name := "readPartyAndKind", desc := "()Z" } : Jvm.MethodName)) ∈ gw := gw_at 518 (by decide +kernel) (by decide +kernel)
theorem k_172 : (Jvm.Cond.instanceMethod ({ cls := "PledgeMonitor$Text", name := "readPartyAndKind", desc := "()Z" } : Jvm.MethodName)) ∈ gw := gw_at 520 (by decide +kernel) (by decide +kernel)
theorem k_173 : (Jvm.Cond.selects "PledgeMonitor$Text" ({ cls := "PledgeMonitor$Text", name := "readPartyAndKind", desc := "()Z" } : Jvm.MethodName) ({ cls := "PledgeMonitor$Text", name := "readPartyAndKind", desc := "()Z" } : Jvm.MethodName)) ∈ gw := gw_at 14 (by decide +kernel) (by decide +kernel)
theorem k_174 : (Jvm.Cond.code ({ cls := "PledgeMonitor$Text", name := "readPartyAndKind", desc := "()Z" } : Jvm.MethodName) prog_9_method_12_code (1 : Nat) (Option.some Jvm.ClassFile.FieldType.boolean)) ∈ gw := gw_at 521 (by decide +kernel) (by decide +kernel)
theorem k_175 : (Jvm.Cond.methodLink "PledgeMonitor$Text" (56 : Nat) ({ cls := "PledgeMonitor$Text", name := "readTrigger", desc := "(LPledgeMonitor$Clause;)Z" } : Jvm.MethodName)) ∈ gw := gw_at 466 (by decide +kernel) (by decide +kernel)
theorem k_176 : (Jvm.Cond.instanceMethod ({ cls := "PledgeMonitor$Text", name := "readTrigger", desc := "(LPledgeMonitor$Clause;)Z" } : Jvm.MethodName)) ∈ gw := gw_at 468 (by decide +kernel) (by decide +kernel)
theorem k_177 : (Jvm.Cond.selects "PledgeMonitor$Text" ({ cls := "PledgeMonitor$Text", name := "readTrigger", desc := "(LPledgeMonitor$Clause;)Z" } : Jvm.MethodName) ({ cls := "PledgeMonitor$Text", name := "readTrigger", desc := "(LPledgeMonitor$Clause;)Z" } : Jvm.MethodName)) ∈ gw := gw_at 1 (by decide +kernel) (by decide +kernel)
theorem k_178 : (Jvm.Cond.code ({ cls := "PledgeMonitor$Text", name := "readTrigger", desc := "(LPledgeMonitor$Clause;)Z" } : Jvm.MethodName) prog_9_method_6_code (2 : Nat) (Option.some Jvm.ClassFile.FieldType.boolean)) ∈ gw := gw_at 469 (by decide +kernel) (by decide +kernel)
theorem k_179 : (Jvm.Cond.methodLink "PledgeMonitor$Text" (59 : Nat) ({ cls := "PledgeMonitor$Text", name := "readCondition", desc := "(LPledgeMonitor$Clause;)Z" } : Jvm.MethodName)) ∈ gw := gw_at 498 (by decide +kernel) (by decide +kernel)
theorem k_180 : (Jvm.Cond.instanceMethod ({ cls := "PledgeMonitor$Text", name := "readCondition", desc := "(LPledgeMonitor$Clause;)Z" } : Jvm.MethodName)) ∈ gw := gw_at 500 (by decide +kernel) (by decide +kernel)
theorem k_181 : (Jvm.Cond.selects "PledgeMonitor$Text" ({ cls := "PledgeMonitor$Text", name := "readCondition", desc := "(LPledgeMonitor$Clause;)Z" } : Jvm.MethodName) ({ cls := "PledgeMonitor$Text", name := "readCondition", desc := "(LPledgeMonitor$Clause;)Z" } : Jvm.MethodName)) ∈ gw := gw_at 9 (by decide +kernel) (by decide +kernel)
theorem k_182 : (Jvm.Cond.code ({ cls := "PledgeMonitor$Text", name := "readCondition", desc := "(LPledgeMonitor$Clause;)Z" } : Jvm.MethodName) prog_9_method_8_code (2 : Nat) (Option.some Jvm.ClassFile.FieldType.boolean)) ∈ gw := gw_at 501 (by decide +kernel) (by decide +kernel)
theorem k_183 : (Jvm.Cond.methodLink "PledgeMonitor$Text" (62 : Nat) ({ cls := "PledgeMonitor$Text", name := "readAction", desc := "(LPledgeMonitor$Clause;)Z" } : Jvm.MethodName)) ∈ gw := gw_at 510 (by decide +kernel) (by decide +kernel)
theorem k_184 : (Jvm.Cond.instanceMethod ({ cls := "PledgeMonitor$Text", name := "readAction", desc := "(LPledgeMonitor$Clause;)Z" } : Jvm.MethodName)) ∈ gw := gw_at 512 (by decide +kernel) (by decide +kernel)
theorem k_185 : (Jvm.Cond.selects "PledgeMonitor$Text" ({ cls := "PledgeMonitor$Text", name := "readAction", desc := "(LPledgeMonitor$Clause;)Z" } : Jvm.MethodName) ({ cls := "PledgeMonitor$Text", name := "readAction", desc := "(LPledgeMonitor$Clause;)Z" } : Jvm.MethodName)) ∈ gw := gw_at 12 (by decide +kernel) (by decide +kernel)
theorem k_186 : (Jvm.Cond.code ({ cls := "PledgeMonitor$Text", name := "readAction", desc := "(LPledgeMonitor$Clause;)Z" } : Jvm.MethodName) prog_9_method_9_code (2 : Nat) (Option.some Jvm.ClassFile.FieldType.boolean)) ∈ gw := gw_at 513 (by decide +kernel) (by decide +kernel)
theorem k_187 : (Jvm.Cond.fieldLink "PledgeMonitor$Agreement" (66 : Nat) "PledgeMonitor$Clause" "action" "I") ∈ gw := gw_at 151 (by decide +kernel) (by decide +kernel)
theorem k_188 : (Jvm.Cond.fieldLink "PledgeMonitor$Agreement" (72 : Nat) "PledgeMonitor$Clause" "trigger" "I") ∈ gw := gw_at 134 (by decide +kernel) (by decide +kernel)
theorem k_189 : (Jvm.Cond.fieldLink "PledgeMonitor$Agreement" (75 : Nat) "PledgeMonitor$Clause" "triggerNumber" "I") ∈ gw := gw_at 140 (by decide +kernel) (by decide +kernel)
theorem k_190 : (Jvm.Cond.fieldLink "PledgeMonitor$Agreement" (69 : Nat) "PledgeMonitor$Clause" "digit" "I") ∈ gw := gw_at 164 (by decide +kernel) (by decide +kernel)
theorem k_191 : (Jvm.Cond.methodLink "PledgeMonitor$Agreement" (62 : Nat) ({ cls := "PledgeMonitor$Agreement", name := "liesOnRound", desc := "(I)Z" } : Jvm.MethodName)) ∈ gw := gw_at 530 (by decide +kernel) (by decide +kernel)
theorem k_192 : (Jvm.Cond.instanceMethod ({ cls := "PledgeMonitor$Agreement", name := "liesOnRound", desc := "(I)Z" } : Jvm.MethodName)) ∈ gw := gw_at 532 (by decide +kernel) (by decide +kernel)
theorem k_193 : (Jvm.Cond.selects "PledgeMonitor$Agreement" ({ cls := "PledgeMonitor$Agreement", name := "liesOnRound", desc := "(I)Z" } : Jvm.MethodName) ({ cls := "PledgeMonitor$Agreement", name := "liesOnRound", desc := "(I)Z" } : Jvm.MethodName)) ∈ gw := gw_at 16 (by decide +kernel) (by decide +kernel)
theorem k_194 : (Jvm.Cond.code ({ cls := "PledgeMonitor$Agreement", name := "liesOnRound", desc := "(I)Z" } : Jvm.MethodName) prog_2_method_7_code (4 : Nat) (Option.some Jvm.ClassFile.FieldType.boolean)) ∈ gw := gw_at 533 (by decide +kernel) (by decide +kernel)
theorem k_195 : (Jvm.Cond.methodLink "PledgeMonitor$Agreement" (58 : Nat) ({ cls := "PledgeMonitor$Agreement", name := "refersRightly", desc := "(LPledgeMonitor$Clause;)Z" } : Jvm.MethodName)) ∈ gw := gw_at 526 (by decide +kernel) (by decide +kernel)
theorem k_196 : (Jvm.Cond.instanceMethod ({ cls := "PledgeMonitor$Agreement", name := "refersRightly", desc := "(LPledgeMonitor$Clause;)Z" } : Jvm.MethodName)) ∈ gw := gw_at 528 (by decide +kernel) (by decide +kernel)
theorem k_197 : (Jvm.Cond.selects "PledgeMonitor$Agreement" ({ cls := "PledgeMonitor$Agreement", name := "refersRightly", desc := "(LPledgeMonitor$Clause;)Z" } : Jvm.MethodName) ({ cls := "PledgeMonitor$Agreement", name := "refersRightly", desc := "(LPledgeMonitor$Clause;)Z" } : Jvm.MethodName)) ∈ gw := gw_at 15 (by decide +kernel) (by decide +kernel)
theorem k_198 : (Jvm.Cond.code ({ cls := "PledgeMonitor$Agreement", name := "refersRightly", desc := "(LPledgeMonitor$Clause;)Z" } : Jvm.MethodName) prog_2_method_6_code (3 : Nat) (Option.some Jvm.ClassFile.FieldType.boolean)) ∈ gw := gw_at 529 (by decide +kernel) (by decide +kernel)
theorem k_199 : (Jvm.Cond.fieldLink "PledgeMonitor$Text" (35 : Nat) "PledgeMonitor$Agreement" "clauses" "[LPledgeMonitor$Clause;") ∈ gw := gw_at 196 (by decide +kernel) (by decide +kernel)
theorem k_200 : (Jvm.Cond.methodLink "PledgeMonitor$Text" (41 : Nat) ({ cls := "PledgeMonitor$Text", name := "readClause", desc := "(LPledgeMonitor$Clause;)Z" } : Jvm.MethodName)) ∈ gw := gw_at 462 (by decide +kernel) (by decide +kernel)
theorem k_201 : (Jvm.Cond.instanceMethod ({ cls := "PledgeMonitor$Text", name := "readClause", desc := "(LPledgeMonitor$Clause;)Z" } : Jvm.MethodName)) ∈ gw := gw_at 464 (by decide +kernel) (by decide +kernel)
theorem k_202 : (Jvm.Cond.selects "PledgeMonitor$Text" ({ cls := "PledgeMonitor$Text", name := "readClause", desc := "(LPledgeMonitor$Clause;)Z" } : Jvm.MethodName) ({ cls := "PledgeMonitor$Text", name := "readClause", desc := "(LPledgeMonitor$Clause;)Z" } : Jvm.MethodName)) ∈ gw := gw_at 0 (by decide +kernel) (by decide +kernel)
theorem k_203 : (Jvm.Cond.code ({ cls := "PledgeMonitor$Text", name := "readClause", desc := "(LPledgeMonitor$Clause;)Z" } : Jvm.MethodName) prog_9_method_5_code (2 : Nat) (Option.some Jvm.ClassFile.FieldType.boolean)) ∈ gw := gw_at 465 (by decide +kernel) (by decide +kernel)
theorem k_204 : (Jvm.Cond.fieldLink "PledgeMonitor$Text" (45 : Nat) "PledgeMonitor$Agreement" "size" "I") ∈ gw := gw_at 199 (by decide +kernel) (by decide +kernel)
theorem k_205 : (Jvm.Cond.methodLink "PledgeMonitor$Text" (48 : Nat) ({ cls := "PledgeMonitor$Agreement", name := "faultOfReferences", desc := "()I" } : Jvm.MethodName)) ∈ gw := gw_at 522 (by decide +kernel) (by decide +kernel)
theorem k_206 : (Jvm.Cond.instanceMethod ({ cls := "PledgeMonitor$Agreement", name := "faultOfReferences", desc := "()I" } : Jvm.MethodName)) ∈ gw := gw_at 523 (by decide +kernel) (by decide +kernel)
theorem k_207 : (Jvm.Cond.selects "PledgeMonitor$Agreement" ({ cls := "PledgeMonitor$Agreement", name := "faultOfReferences", desc := "()I" } : Jvm.MethodName) ({ cls := "PledgeMonitor$Agreement", name := "faultOfReferences", desc := "()I" } : Jvm.MethodName)) ∈ gw := gw_at 524 (by decide +kernel) (by decide +kernel)
theorem k_208 : (Jvm.Cond.code ({ cls := "PledgeMonitor$Agreement", name := "faultOfReferences", desc := "()I" } : Jvm.MethodName) prog_2_method_5_code (2 : Nat) (Option.some Jvm.ClassFile.FieldType.int)) ∈ gw := gw_at 525 (by decide +kernel) (by decide +kernel)
theorem k_209 : (Jvm.Cond.fieldLink "PledgeMonitor$State" (35 : Nat) "PledgeMonitor$Terms" "size" "I") ∈ gw := gw_at 222 (by decide +kernel) (by decide +kernel)
theorem k_210 : (Jvm.Cond.methodLink "PledgeMonitor$Clause" (52 : Nat) ({ cls := "PledgeMonitor$State", name := "debtOf", desc := "(II)I" } : Jvm.MethodName)) ∈ gw := gw_at 617 (by decide +kernel) (by decide +kernel)
theorem k_211 : (Jvm.Cond.instanceMethod ({ cls := "PledgeMonitor$State", name := "debtOf", desc := "(II)I" } : Jvm.MethodName)) ∈ gw := gw_at 446 (by decide +kernel) (by decide +kernel)
theorem k_212 : (Jvm.Cond.selects "PledgeMonitor$State" ({ cls := "PledgeMonitor$State", name := "debtOf", desc := "(II)I" } : Jvm.MethodName) ({ cls := "PledgeMonitor$State", name := "debtOf", desc := "(II)I" } : Jvm.MethodName)) ∈ gw := gw_at 447 (by decide +kernel) (by decide +kernel)
theorem k_213 : (Jvm.Cond.code ({ cls := "PledgeMonitor$State", name := "debtOf", desc := "(II)I" } : Jvm.MethodName) prog_7_method_2_code (3 : Nat) (Option.some Jvm.ClassFile.FieldType.int)) ∈ gw := gw_at 448 (by decide +kernel) (by decide +kernel)
theorem k_214 : (Jvm.Cond.fieldLink "PledgeMonitor$Runner" (114 : Nat) "PledgeMonitor$Clause" "action" "I") ∈ gw := gw_at 153 (by decide +kernel) (by decide +kernel)
theorem k_215 : (Jvm.Cond.fieldLink "PledgeMonitor$Runner" (76 : Nat) "PledgeMonitor$State" "duties" "LPledgeMonitor$Terms;") ∈ gw := gw_at 236 (by decide +kernel) (by decide +kernel)
theorem k_216 : (Jvm.Cond.fieldLink "PledgeMonitor$Runner" (79 : Nat) "PledgeMonitor$State" "day" "I") ∈ gw := gw_at 232 (by decide +kernel) (by decide +kernel)
theorem k_217 : (Jvm.Cond.fieldLink "PledgeMonitor$Runner" (117 : Nat) "PledgeMonitor$Clause" "digit" "I") ∈ gw := gw_at 166 (by decide +kernel) (by decide +kernel)
theorem k_218 : (Jvm.Cond.methodLink "PledgeMonitor$Runner" (120 : Nat) ({ cls := "PledgeMonitor$Runner", name := "businessDay", desc := "(II)I" } : Jvm.MethodName)) ∈ gw := gw_at 622 (by decide +kernel) (by decide +kernel)
theorem k_219 : (Jvm.Cond.instanceMethod ({ cls := "PledgeMonitor$Runner", name := "businessDay", desc := "(II)I" } : Jvm.MethodName)) ∈ gw := gw_at 624 (by decide +kernel) (by decide +kernel)
theorem k_220 : (Jvm.Cond.selects "PledgeMonitor$Runner" ({ cls := "PledgeMonitor$Runner", name := "businessDay", desc := "(II)I" } : Jvm.MethodName) ({ cls := "PledgeMonitor$Runner", name := "businessDay", desc := "(II)I" } : Jvm.MethodName)) ∈ gw := gw_at 21 (by decide +kernel) (by decide +kernel)
theorem k_221 : (Jvm.Cond.code ({ cls := "PledgeMonitor$Runner", name := "businessDay", desc := "(II)I" } : Jvm.MethodName) prog_5_method_11_code (5 : Nat) (Option.some Jvm.ClassFile.FieldType.int)) ∈ gw := gw_at 625 (by decide +kernel) (by decide +kernel)
theorem k_222 : (Jvm.Cond.methodLink "PledgeMonitor$Runner" (123 : Nat) ({ cls := "PledgeMonitor$Terms", name := "add", desc := "(II)Z" } : Jvm.MethodName)) ∈ gw := gw_at 626 (by decide +kernel) (by decide +kernel)
theorem k_223 : (Jvm.Cond.instanceMethod ({ cls := "PledgeMonitor$Terms", name := "add", desc := "(II)Z" } : Jvm.MethodName)) ∈ gw := gw_at 627 (by decide +kernel) (by decide +kernel)
theorem k_224 : (Jvm.Cond.selects "PledgeMonitor$Terms" ({ cls := "PledgeMonitor$Terms", name := "add", desc := "(II)Z" } : Jvm.MethodName) ({ cls := "PledgeMonitor$Terms", name := "add", desc := "(II)Z" } : Jvm.MethodName)) ∈ gw := gw_at 628 (by decide +kernel) (by decide +kernel)
theorem k_225 : (Jvm.Cond.code ({ cls := "PledgeMonitor$Terms", name := "add", desc := "(II)Z" } : Jvm.MethodName) prog_8_method_4_code (5 : Nat) (Option.some Jvm.ClassFile.FieldType.boolean)) ∈ gw := gw_at 629 (by decide +kernel) (by decide +kernel)
theorem k_226 : (Jvm.Cond.fieldLink "PledgeMonitor$Runner" (126 : Nat) "PledgeMonitor$Clause" "party" "I") ∈ gw := gw_at 157 (by decide +kernel) (by decide +kernel)
theorem k_227 : (Jvm.Cond.fieldLink "PledgeMonitor$Runner" (129 : Nat) "PledgeMonitor$Clause" "otherParty" "I") ∈ gw := gw_at 162 (by decide +kernel) (by decide +kernel)
theorem k_228 : (Jvm.Cond.methodLink "PledgeMonitor$Runner" (132 : Nat) ({ cls := "PledgeMonitor$State", name := "addDebt", desc := "(III)Z" } : Jvm.MethodName)) ∈ gw := gw_at 630 (by decide +kernel) (by decide +kernel)
theorem k_229 : (Jvm.Cond.instanceMethod ({ cls := "PledgeMonitor$State", name := "addDebt", desc := "(III)Z" } : Jvm.MethodName)) ∈ gw := gw_at 631 (by decide +kernel) (by decide +kernel)
theorem k_230 : (Jvm.Cond.selects "PledgeMonitor$State" ({ cls := "PledgeMonitor$State", name := "addDebt", desc := "(III)Z" } : Jvm.MethodName) ({ cls := "PledgeMonitor$State", name := "addDebt", desc := "(III)Z" } : Jvm.MethodName)) ∈ gw := gw_at 632 (by decide +kernel) (by decide +kernel)
theorem k_231 : (Jvm.Cond.code ({ cls := "PledgeMonitor$State", name := "addDebt", desc := "(III)Z" } : Jvm.MethodName) prog_7_method_3_code (5 : Nat) (Option.some Jvm.ClassFile.FieldType.boolean)) ∈ gw := gw_at 633 (by decide +kernel) (by decide +kernel)
theorem k_232 : (Jvm.Cond.fieldLink "PledgeMonitor$Runner" (59 : Nat) "PledgeMonitor$State" "powers" "LPledgeMonitor$Terms;") ∈ gw := gw_at 243 (by decide +kernel) (by decide +kernel)
theorem k_233 : (Jvm.Cond.fieldLink "PledgeMonitor$Runner" (49 : Nat) "PledgeMonitor$State" "bans" "LPledgeMonitor$Terms;") ∈ gw := gw_at 240 (by decide +kernel) (by decide +kernel)
theorem k_234 : (Jvm.Cond.methodLink "PledgeMonitor$Runner" (37 : Nat) ({ cls := "PledgeMonitor$Runner", name := "await", desc := "(I)V" } : Jvm.MethodName)) ∈ gw := gw_at 605 (by decide +kernel) (by decide +kernel)
theorem k_235 : (Jvm.Cond.instanceMethod ({ cls := "PledgeMonitor$Runner", name := "await", desc := "(I)V" } : Jvm.MethodName)) ∈ gw := gw_at 607 (by decide +kernel) (by decide +kernel)
theorem k_236 : (Jvm.Cond.selects "PledgeMonitor$Runner" ({ cls := "PledgeMonitor$Runner", name := "await", desc := "(I)V" } : Jvm.MethodName) ({ cls := "PledgeMonitor$Runner", name := "await", desc := "(I)V" } : Jvm.MethodName)) ∈ gw := gw_at 18 (by decide +kernel) (by decide +kernel)
theorem k_237 : (Jvm.Cond.code ({ cls := "PledgeMonitor$Runner", name := "await", desc := "(I)V" } : Jvm.MethodName) prog_5_method_8_code (2 : Nat) (Option.none : Option Jvm.ClassFile.FieldType)) ∈ gw := gw_at 608 (by decide +kernel) (by decide +kernel)
theorem k_238 : (Jvm.Cond.fieldLink "PledgeMonitor$Runner" (28 : Nat) "PledgeMonitor$Agreement" "clauses" "[LPledgeMonitor$Clause;") ∈ gw := gw_at 195 (by decide +kernel) (by decide +kernel)
theorem k_239 : (Jvm.Cond.methodLink "PledgeMonitor$Runner" (106 : Nat) ({ cls := "PledgeMonitor$Clause", name := "holds", desc := "(LPledgeMonitor$State;)Z" } : Jvm.MethodName)) ∈ gw := gw_at 613 (by decide +kernel) (by decide +kernel)
theorem k_240 : (Jvm.Cond.instanceMethod ({ cls := "PledgeMonitor$Clause", name := "holds", desc := "(LPledgeMonitor$State;)Z" } : Jvm.MethodName)) ∈ gw := gw_at 614 (by decide +kernel) (by decide +kernel)
theorem k_241 : (Jvm.Cond.selects "PledgeMonitor$Clause" ({ cls := "PledgeMonitor$Clause", name := "holds", desc := "(LPledgeMonitor$State;)Z" } : Jvm.MethodName) ({ cls := "PledgeMonitor$Clause", name := "holds", desc := "(LPledgeMonitor$State;)Z" } : Jvm.MethodName)) ∈ gw := gw_at 615 (by decide +kernel) (by decide +kernel)
theorem k_242 : (Jvm.Cond.code ({ cls := "PledgeMonitor$Clause", name := "holds", desc := "(LPledgeMonitor$State;)Z" } : Jvm.MethodName) prog_3_method_5_code (2 : Nat) (Option.some Jvm.ClassFile.FieldType.boolean)) ∈ gw := gw_at 616 (by decide +kernel) (by decide +kernel)
theorem k_243 : (Jvm.Cond.methodLink "PledgeMonitor$Runner" (110 : Nat) ({ cls := "PledgeMonitor$Runner", name := "act", desc := "(LPledgeMonitor$Clause;ILPledgeMonitor$State;)Z" } : Jvm.MethodName)) ∈ gw := gw_at 618 (by decide +kernel) (by decide +kernel)
theorem k_244 : (Jvm.Cond.instanceMethod ({ cls := "PledgeMonitor$Runner", name := "act", desc := "(LPledgeMonitor$Clause;ILPledgeMonitor$State;)Z" } : Jvm.MethodName)) ∈ gw := gw_at 620 (by decide +kernel) (by decide +kernel)
theorem k_245 : (Jvm.Cond.selects "PledgeMonitor$Runner" ({ cls := "PledgeMonitor$Runner", name := "act", desc := "(LPledgeMonitor$Clause;ILPledgeMonitor$State;)Z" } : Jvm.MethodName) ({ cls := "PledgeMonitor$Runner", name := "act", desc := "(LPledgeMonitor$Clause;ILPledgeMonitor$State;)Z" } : Jvm.MethodName)) ∈ gw := gw_at 20 (by decide +kernel) (by decide +kernel)
theorem k_246 : (Jvm.Cond.code ({ cls := "PledgeMonitor$Runner", name := "act", desc := "(LPledgeMonitor$Clause;ILPledgeMonitor$State;)Z" } : Jvm.MethodName) prog_5_method_10_code (4 : Nat) (Option.some Jvm.ClassFile.FieldType.boolean)) ∈ gw := gw_at 621 (by decide +kernel) (by decide +kernel)
theorem k_247 : (Jvm.Cond.fieldLink "PledgeMonitor$Runner" (23 : Nat) "PledgeMonitor$Agreement" "size" "I") ∈ gw := gw_at 198 (by decide +kernel) (by decide +kernel)
theorem k_248 : (Jvm.Cond.methodLink "PledgeMonitor$Runner" (41 : Nat) ({ cls := "PledgeMonitor$Runner", name := "runWaiting", desc := "(LPledgeMonitor$Agreement;LPledgeMonitor$State;)Z" } : Jvm.MethodName)) ∈ gw := gw_at 609 (by decide +kernel) (by decide +kernel)
theorem k_249 : (Jvm.Cond.instanceMethod ({ cls := "PledgeMonitor$Runner", name := "runWaiting", desc := "(LPledgeMonitor$Agreement;LPledgeMonitor$State;)Z" } : Jvm.MethodName)) ∈ gw := gw_at 611 (by decide +kernel) (by decide +kernel)
theorem k_250 : (Jvm.Cond.selects "PledgeMonitor$Runner" ({ cls := "PledgeMonitor$Runner", name := "runWaiting", desc := "(LPledgeMonitor$Agreement;LPledgeMonitor$State;)Z" } : Jvm.MethodName) ({ cls := "PledgeMonitor$Runner", name := "runWaiting", desc := "(LPledgeMonitor$Agreement;LPledgeMonitor$State;)Z" } : Jvm.MethodName)) ∈ gw := gw_at 19 (by decide +kernel) (by decide +kernel)
theorem k_251 : (Jvm.Cond.code ({ cls := "PledgeMonitor$Runner", name := "runWaiting", desc := "(LPledgeMonitor$Agreement;LPledgeMonitor$State;)Z" } : Jvm.MethodName) prog_5_method_9_code (5 : Nat) (Option.some Jvm.ClassFile.FieldType.boolean)) ∈ gw := gw_at 612 (by decide +kernel) (by decide +kernel)
theorem k_252 : (Jvm.Cond.fieldLink "PledgeMonitor$Runner" (32 : Nat) "PledgeMonitor$Clause" "trigger" "I") ∈ gw := gw_at 132 (by decide +kernel) (by decide +kernel)
theorem k_253 : (Jvm.Cond.methodLink "PledgeMonitor$Terms" (30 : Nat) ({ cls := "java/lang/System", name := "arraycopy", desc := "(Ljava/lang/Object;ILjava/lang/Object;II)V" } : Jvm.MethodName)) ∈ gw := gw_at 399 (by decide +kernel) (by decide +kernel)
theorem k_254 : (Jvm.Cond.native ({ cls := "java/lang/System", name := "arraycopy", desc := "(Ljava/lang/Object;ILjava/lang/Object;II)V" } : Jvm.MethodName)) ∈ gw := gw_at 401 (by decide +kernel) (by decide +kernel)
theorem k_255 : (Jvm.Cond.static ({ cls := "java/lang/System", name := "arraycopy", desc := "(Ljava/lang/Object;ILjava/lang/Object;II)V" } : Jvm.MethodName)) ∈ gw := gw_at 400 (by decide +kernel) (by decide +kernel)
theorem k_256 : (Jvm.Cond.initialized "java/lang/System") ∈ gw := gw_at 80 (by decide +kernel) (by decide +kernel)
theorem k_257 : (Jvm.Cond.methodLink "PledgeMonitor$State" (38 : Nat) ({ cls := "PledgeMonitor$Terms", name := "copyFrom", desc := "(LPledgeMonitor$Terms;)V" } : Jvm.MethodName)) ∈ gw := gw_at 395 (by decide +kernel) (by decide +kernel)
theorem k_258 : (Jvm.Cond.instanceMethod ({ cls := "PledgeMonitor$Terms", name := "copyFrom", desc := "(LPledgeMonitor$Terms;)V" } : Jvm.MethodName)) ∈ gw := gw_at 396 (by decide +kernel) (by decide +kernel)
theorem k_259 : (Jvm.Cond.selects "PledgeMonitor$Terms" ({ cls := "PledgeMonitor$Terms", name := "copyFrom", desc := "(LPledgeMonitor$Terms;)V" } : Jvm.MethodName) ({ cls := "PledgeMonitor$Terms", name := "copyFrom", desc := "(LPledgeMonitor$Terms;)V" } : Jvm.MethodName)) ∈ gw := gw_at 397 (by decide +kernel) (by decide +kernel)
theorem k_260 : (Jvm.Cond.code ({ cls := "PledgeMonitor$Terms", name := "copyFrom", desc := "(LPledgeMonitor$Terms;)V" } : Jvm.MethodName) prog_8_method_8_code (2 : Nat) (Option.none : Option Jvm.ClassFile.FieldType)) ∈ gw := gw_at 398 (by decide +kernel) (by decide +kernel)
theorem k_261 : (Jvm.Cond.methodLink "PledgeMonitor$State" (42 : Nat) ({ cls := "java/lang/System", name := "arraycopy", desc := "(Ljava/lang/Object;ILjava/lang/Object;II)V" } : Jvm.MethodName)) ∈ gw := gw_at 402 (by decide +kernel) (by decide +kernel)
theorem k_262 : (Jvm.Cond.methodLink "PledgeMonitor" (97 : Nat) ({ cls := "PledgeMonitor$History", name := "forget", desc := "()V" } : Jvm.MethodName)) ∈ gw := gw_at 375 (by decide +kernel) (by decide +kernel)
theorem k_263 : (Jvm.Cond.instanceMethod ({ cls := "PledgeMonitor$History", name := "forget", desc := "()V" } : Jvm.MethodName)) ∈ gw := gw_at 376 (by decide +kernel) (by decide +kernel)
theorem k_264 : (Jvm.Cond.selects "PledgeMonitor$History" ({ cls := "PledgeMonitor$History", name := "forget", desc := "()V" } : Jvm.MethodName) ({ cls := "PledgeMonitor$History", name := "forget", desc := "()V" } : Jvm.MethodName)) ∈ gw := gw_at 377 (by decide +kernel) (by decide +kernel)
theorem k_265 : (Jvm.Cond.code ({ cls := "PledgeMonitor$History", name := "forget", desc := "()V" } : Jvm.MethodName) prog_4_method_4_code (1 : Nat) (Option.none : Option Jvm.ClassFile.FieldType)) ∈ gw := gw_at 378 (by decide +kernel) (by decide +kernel)
theorem k_266 : (Jvm.Cond.fieldLink "PledgeMonitor$Agreement" (22 : Nat) "PledgeMonitor$Terms" "size" "I") ∈ gw := gw_at 221 (by decide +kernel) (by decide +kernel)
theorem k_267 : (Jvm.Cond.methodLink "PledgeMonitor$Agreement" (25 : Nat) ({ cls := "PledgeMonitor$Terms", name := "clauseAt", desc := "(I)I" } : Jvm.MethodName)) ∈ gw := gw_at 433 (by decide +kernel) (by decide +kernel)
theorem k_268 : (Jvm.Cond.instanceMethod ({ cls := "PledgeMonitor$Terms", name := "clauseAt", desc := "(I)I" } : Jvm.MethodName)) ∈ gw := gw_at 434 (by decide +kernel) (by decide +kernel)
theorem k_269 : (Jvm.Cond.selects "PledgeMonitor$Terms" ({ cls := "PledgeMonitor$Terms", name := "clauseAt", desc := "(I)I" } : Jvm.MethodName) ({ cls := "PledgeMonitor$Terms", name := "clauseAt", desc := "(I)I" } : Jvm.MethodName)) ∈ gw := gw_at 435 (by decide +kernel) (by decide +kernel)
theorem k_270 : (Jvm.Cond.code ({ cls := "PledgeMonitor$Terms", name := "clauseAt", desc := "(I)I" } : Jvm.MethodName) prog_8_method_2_code (2 : Nat) (Option.some Jvm.ClassFile.FieldType.int)) ∈ gw := gw_at 436 (by decide +kernel) (by decide +kernel)
theorem k_271 : (Jvm.Cond.methodLink "PledgeMonitor$Agreement" (29 : Nat) ({ cls := "PledgeMonitor$Clause", name := "isFor", desc := "(II)Z" } : Jvm.MethodName)) ∈ gw := gw_at 437 (by decide +kernel) (by decide +kernel)
theorem k_272 : (Jvm.Cond.instanceMethod ({ cls := "PledgeMonitor$Clause", name := "isFor", desc := "(II)Z" } : Jvm.MethodName)) ∈ gw := gw_at 438 (by decide +kernel) (by decide +kernel)
theorem k_273 : (Jvm.Cond.selects "PledgeMonitor$Clause" ({ cls := "PledgeMonitor$Clause", name := "isFor", desc := "(II)Z" } : Jvm.MethodName) ({ cls := "PledgeMonitor$Clause", name := "isFor", desc := "(II)Z" } : Jvm.MethodName)) ∈ gw := gw_at 439 (by decide +kernel) (by decide +kernel)
theorem k_274 : (Jvm.Cond.code ({ cls := "PledgeMonitor$Clause", name := "isFor", desc := "(II)Z" } : Jvm.MethodName) prog_3_method_4_code (3 : Nat) (Option.some Jvm.ClassFile.FieldType.boolean)) ∈ gw := gw_at 440 (by decide +kernel) (by decide +kernel)
theorem k_275 : (Jvm.Cond.methodLink "PledgeMonitor$Terms" (27 : Nat) ({ cls := "PledgeMonitor$Terms", name := "clauseAt", desc := "(I)I" } : Jvm.MethodName)) ∈ gw := gw_at 691 (by decide +kernel) (by decide +kernel)
theorem k_276 : (Jvm.Cond.methodLink "PledgeMonitor$Terms" (19 : Nat) ({ cls := "PledgeMonitor$Terms", name := "dayAt", desc := "(I)I" } : Jvm.MethodName)) ∈ gw := gw_at 692 (by decide +kernel) (by decide +kernel)
theorem k_277 : (Jvm.Cond.instanceMethod ({ cls := "PledgeMonitor$Terms", name := "dayAt", desc := "(I)I" } : Jvm.MethodName)) ∈ gw := gw_at 693 (by decide +kernel) (by decide +kernel)
theorem k_278 : (Jvm.Cond.selects "PledgeMonitor$Terms" ({ cls := "PledgeMonitor$Terms", name := "dayAt", desc := "(I)I" } : Jvm.MethodName) ({ cls := "PledgeMonitor$Terms", name := "dayAt", desc := "(I)I" } : Jvm.MethodName)) ∈ gw := gw_at 694 (by decide +kernel) (by decide +kernel)
theorem k_279 : (Jvm.Cond.code ({ cls := "PledgeMonitor$Terms", name := "dayAt", desc := "(I)I" } : Jvm.MethodName) prog_8_method_3_code (2 : Nat) (Option.some Jvm.ClassFile.FieldType.int)) ∈ gw := gw_at 695 (by decide +kernel) (by decide +kernel)
theorem k_280 : (Jvm.Cond.methodLink "PledgeMonitor$Runner" (103 : Nat) ({ cls := "PledgeMonitor$Clause", name := "isOn", desc := "(II)Z" } : Jvm.MethodName)) ∈ gw := gw_at 700 (by decide +kernel) (by decide +kernel)
theorem k_281 : (Jvm.Cond.instanceMethod ({ cls := "PledgeMonitor$Clause", name := "isOn", desc := "(II)Z" } : Jvm.MethodName)) ∈ gw := gw_at 701 (by decide +kernel) (by decide +kernel)
theorem k_282 : (Jvm.Cond.selects "PledgeMonitor$Clause" ({ cls := "PledgeMonitor$Clause", name := "isOn", desc := "(II)Z" } : Jvm.MethodName) ({ cls := "PledgeMonitor$Clause", name := "isOn", desc := "(II)Z" } : Jvm.MethodName)) ∈ gw := gw_at 702 (by decide +kernel) (by decide +kernel)
theorem k_283 : (Jvm.Cond.code ({ cls := "PledgeMonitor$Clause", name := "isOn", desc := "(II)Z" } : Jvm.MethodName) prog_3_method_3_code (3 : Nat) (Option.some Jvm.ClassFile.FieldType.boolean)) ∈ gw := gw_at 703 (by decide +kernel) (by decide +kernel)
theorem k_284 : (Jvm.Cond.methodLink "PledgeMonitor$Runner" (96 : Nat) ({ cls := "PledgeMonitor$Clause", name := "isFor", desc := "(II)Z" } : Jvm.MethodName)) ∈ gw := gw_at 686 (by decide +kernel) (by decide +kernel)
theorem k_285 : (Jvm.Cond.methodLink "PledgeMonitor$Runner" (82 : Nat) ({ cls := "PledgeMonitor$Terms", name := "countUntil", desc := "(II)I" } : Jvm.MethodName)) ∈ gw := gw_at 687 (by decide +kernel) (by decide +kernel)
theorem k_286 : (Jvm.Cond.instanceMethod ({ cls := "PledgeMonitor$Terms", name := "countUntil", desc := "(II)I" } : Jvm.MethodName)) ∈ gw := gw_at 688 (by decide +kernel) (by decide +kernel)
theorem k_287 : (Jvm.Cond.selects "PledgeMonitor$Terms" ({ cls := "PledgeMonitor$Terms", name := "countUntil", desc := "(II)I" } : Jvm.MethodName) ({ cls := "PledgeMonitor$Terms", name := "countUntil", desc := "(II)I" } : Jvm.MethodName)) ∈ gw := gw_at 689 (by decide +kernel) (by decide +kernel)
theorem k_288 : (Jvm.Cond.code ({ cls := "PledgeMonitor$Terms", name := "countUntil", desc := "(II)I" } : Jvm.MethodName) prog_8_method_7_code (5 : Nat) (Option.some Jvm.ClassFile.FieldType.int)) ∈ gw := gw_at 690 (by decide +kernel) (by decide +kernel)
theorem k_289 : (Jvm.Cond.fieldLink "PledgeMonitor$Runner" (86 : Nat) "PledgeMonitor$State" "breachCounts" "[I") ∈ gw := gw_at 247 (by decide +kernel) (by decide +kernel)
theorem k_290 : (Jvm.Cond.methodLink "PledgeMonitor$Runner" (89 : Nat) ({ cls := "PledgeMonitor$Runner", name := "awaitAllOn", desc := "(LPledgeMonitor$Agreement;III)V" } : Jvm.MethodName)) ∈ gw := gw_at 696 (by decide +kernel) (by decide +kernel)
theorem k_291 : (Jvm.Cond.instanceMethod ({ cls := "PledgeMonitor$Runner", name := "awaitAllOn", desc := "(LPledgeMonitor$Agreement;III)V" } : Jvm.MethodName)) ∈ gw := gw_at 698 (by decide +kernel) (by decide +kernel)
theorem k_292 : (Jvm.Cond.selects "PledgeMonitor$Runner" ({ cls := "PledgeMonitor$Runner", name := "awaitAllOn", desc := "(LPledgeMonitor$Agreement;III)V" } : Jvm.MethodName) ({ cls := "PledgeMonitor$Runner", name := "awaitAllOn", desc := "(LPledgeMonitor$Agreement;III)V" } : Jvm.MethodName)) ∈ gw := gw_at 23 (by decide +kernel) (by decide +kernel)
theorem k_293 : (Jvm.Cond.code ({ cls := "PledgeMonitor$Runner", name := "awaitAllOn", desc := "(LPledgeMonitor$Agreement;III)V" } : Jvm.MethodName) prog_5_method_7_code (7 : Nat) (Option.none : Option Jvm.ClassFile.FieldType)) ∈ gw := gw_at 699 (by decide +kernel) (by decide +kernel)
theorem k_294 : (Jvm.Cond.methodLink "PledgeMonitor$Runner" (55 : Nat) ({ cls := "PledgeMonitor$Agreement", name := "find", desc := "(LPledgeMonitor$Terms;II)I" } : Jvm.MethodName)) ∈ gw := gw_at 681 (by decide +kernel) (by decide +kernel)
theorem k_295 : (Jvm.Cond.instanceMethod ({ cls := "PledgeMonitor$Agreement", name := "find", desc := "(LPledgeMonitor$Terms;II)I" } : Jvm.MethodName)) ∈ gw := gw_at 430 (by decide +kernel) (by decide +kernel)
theorem k_296 : (Jvm.Cond.selects "PledgeMonitor$Agreement" ({ cls := "PledgeMonitor$Agreement", name := "find", desc := "(LPledgeMonitor$Terms;II)I" } : Jvm.MethodName) ({ cls := "PledgeMonitor$Agreement", name := "find", desc := "(LPledgeMonitor$Terms;II)I" } : Jvm.MethodName)) ∈ gw := gw_at 431 (by decide +kernel) (by decide +kernel)
theorem k_297 : (Jvm.Cond.code ({ cls := "PledgeMonitor$Agreement", name := "find", desc := "(LPledgeMonitor$Terms;II)I" } : Jvm.MethodName) prog_2_method_2_code (5 : Nat) (Option.some Jvm.ClassFile.FieldType.int)) ∈ gw := gw_at 432 (by decide +kernel) (by decide +kernel)
theorem k_298 : (Jvm.Cond.methodLink "PledgeMonitor$Runner" (99 : Nat) ({ cls := "PledgeMonitor$Terms", name := "clauseAt", desc := "(I)I" } : Jvm.MethodName)) ∈ gw := gw_at 712 (by decide +kernel) (by decide +kernel)
theorem k_299 : (Jvm.Cond.methodLink "PledgeMonitor$Runner" (66 : Nat) ({ cls := "PledgeMonitor$Terms", name := "remove", desc := "(II)V" } : Jvm.MethodName)) ∈ gw := gw_at 704 (by decide +kernel) (by decide +kernel)
theorem k_300 : (Jvm.Cond.instanceMethod ({ cls := "PledgeMonitor$Terms", name := "remove", desc := "(II)V" } : Jvm.MethodName)) ∈ gw := gw_at 705 (by decide +kernel) (by decide +kernel)
theorem k_301 : (Jvm.Cond.selects "PledgeMonitor$Terms" ({ cls := "PledgeMonitor$Terms", name := "remove", desc := "(II)V" } : Jvm.MethodName) ({ cls := "PledgeMonitor$Terms", name := "remove", desc := "(II)V" } : Jvm.MethodName)) ∈ gw := gw_at 706 (by decide +kernel) (by decide +kernel)
theorem k_302 : (Jvm.Cond.code ({ cls := "PledgeMonitor$Terms", name := "remove", desc := "(II)V" } : Jvm.MethodName) prog_8_method_5_code (4 : Nat) (Option.none : Option Jvm.ClassFile.FieldType)) ∈ gw := gw_at 707 (by decide +kernel) (by decide +kernel)
theorem k_303 : (Jvm.Cond.methodLink "PledgeMonitor$Runner" (72 : Nat) ({ cls := "PledgeMonitor$Runner", name := "fulfilDuty", desc := "(LPledgeMonitor$Agreement;LPledgeMonitor$State;II)V" } : Jvm.MethodName)) ∈ gw := gw_at 708 (by decide +kernel) (by decide +kernel)
theorem k_304 : (Jvm.Cond.instanceMethod ({ cls := "PledgeMonitor$Runner", name := "fulfilDuty", desc := "(LPledgeMonitor$Agreement;LPledgeMonitor$State;II)V" } : Jvm.MethodName)) ∈ gw := gw_at 710 (by decide +kernel) (by decide +kernel)
theorem k_305 : (Jvm.Cond.selects "PledgeMonitor$Runner" ({ cls := "PledgeMonitor$Runner", name := "fulfilDuty", desc := "(LPledgeMonitor$Agreement;LPledgeMonitor$State;II)V" } : Jvm.MethodName) ({ cls := "PledgeMonitor$Runner", name := "fulfilDuty", desc := "(LPledgeMonitor$Agreement;LPledgeMonitor$State;II)V" } : Jvm.MethodName)) ∈ gw := gw_at 24 (by decide +kernel) (by decide +kernel)
theorem k_306 : (Jvm.Cond.code ({ cls := "PledgeMonitor$Runner", name := "fulfilDuty", desc := "(LPledgeMonitor$Agreement;LPledgeMonitor$State;II)V" } : Jvm.MethodName) prog_5_method_6_code (6 : Nat) (Option.none : Option Jvm.ClassFile.FieldType)) ∈ gw := gw_at 711 (by decide +kernel) (by decide +kernel)
theorem k_307 : (Jvm.Cond.methodLink "PledgeMonitor$Runner" (62 : Nat) ({ cls := "PledgeMonitor$Runner", name := "breachBans", desc := "(LPledgeMonitor$Agreement;LPledgeMonitor$State;II)I" } : Jvm.MethodName)) ∈ gw := gw_at 682 (by decide +kernel) (by decide +kernel)
theorem k_308 : (Jvm.Cond.instanceMethod ({ cls := "PledgeMonitor$Runner", name := "breachBans", desc := "(LPledgeMonitor$Agreement;LPledgeMonitor$State;II)I" } : Jvm.MethodName)) ∈ gw := gw_at 684 (by decide +kernel) (by decide +kernel)
theorem k_309 : (Jvm.Cond.selects "PledgeMonitor$Runner" ({ cls := "PledgeMonitor$Runner", name := "breachBans", desc := "(LPledgeMonitor$Agreement;LPledgeMonitor$State;II)I" } : Jvm.MethodName) ({ cls := "PledgeMonitor$Runner", name := "breachBans", desc := "(LPledgeMonitor$Agreement;LPledgeMonitor$State;II)I" } : Jvm.MethodName)) ∈ gw := gw_at 22 (by decide +kernel) (by decide +kernel)
theorem k_310 : (Jvm.Cond.code ({ cls := "PledgeMonitor$Runner", name := "breachBans", desc := "(LPledgeMonitor$Agreement;LPledgeMonitor$State;II)I" } : Jvm.MethodName) prog_5_method_5_code (8 : Nat) (Option.some Jvm.ClassFile.FieldType.int)) ∈ gw := gw_at 685 (by decide +kernel) (by decide +kernel)
theorem k_311 : (Jvm.Cond.methodLink "PledgeMonitor$Runner" (45 : Nat) ({ cls := "PledgeMonitor$Clause", name := "isOnEvent", desc := "(II)Z" } : Jvm.MethodName)) ∈ gw := gw_at 677 (by decide +kernel) (by decide +kernel)
theorem k_312 : (Jvm.Cond.instanceMethod ({ cls := "PledgeMonitor$Clause", name := "isOnEvent", desc := "(II)Z" } : Jvm.MethodName)) ∈ gw := gw_at 678 (by decide +kernel) (by decide +kernel)
theorem k_313 : (Jvm.Cond.selects "PledgeMonitor$Clause" ({ cls := "PledgeMonitor$Clause", name := "isOnEvent", desc := "(II)Z" } : Jvm.MethodName) ({ cls := "PledgeMonitor$Clause", name := "isOnEvent", desc := "(II)Z" } : Jvm.MethodName)) ∈ gw := gw_at 679 (by decide +kernel) (by decide +kernel)
theorem k_314 : (Jvm.Cond.code ({ cls := "PledgeMonitor$Clause", name := "isOnEvent", desc := "(II)Z" } : Jvm.MethodName) prog_3_method_2_code (3 : Nat) (Option.some Jvm.ClassFile.FieldType.boolean)) ∈ gw := gw_at 680 (by decide +kernel) (by decide +kernel)
theorem k_315 : (Jvm.Cond.methodLink "PledgeMonitor$History" (25 : Nat) ({ cls := "PledgeMonitor$State", name := "copyFrom", desc := "(LPledgeMonitor$State;)V" } : Jvm.MethodName)) ∈ gw := gw_at 391 (by decide +kernel) (by decide +kernel)
theorem k_316 : (Jvm.Cond.instanceMethod ({ cls := "PledgeMonitor$State", name := "copyFrom", desc := "(LPledgeMonitor$State;)V" } : Jvm.MethodName)) ∈ gw := gw_at 392 (by decide +kernel) (by decide +kernel)
theorem k_317 : (Jvm.Cond.selects "PledgeMonitor$State" ({ cls := "PledgeMonitor$State", name := "copyFrom", desc := "(LPledgeMonitor$State;)V" } : Jvm.MethodName) ({ cls := "PledgeMonitor$State", name := "copyFrom", desc := "(LPledgeMonitor$State;)V" } : Jvm.MethodName)) ∈ gw := gw_at 393 (by decide +kernel) (by decide +kernel)
theorem k_318 : (Jvm.Cond.code ({ cls := "PledgeMonitor$State", name := "copyFrom", desc := "(LPledgeMonitor$State;)V" } : Jvm.MethodName) prog_7_method_5_code (2 : Nat) (Option.none : Option Jvm.ClassFile.FieldType)) ∈ gw := gw_at 394 (by decide +kernel) (by decide +kernel)
theorem k_319 : (Jvm.Cond.methodLink "PledgeMonitor$History" (29 : Nat) ({ cls := "java/lang/Math", name := "min", desc := "(II)I" } : Jvm.MethodName)) ∈ gw := gw_at 721 (by decide +kernel) (by decide +kernel)
theorem k_320 : (Jvm.Cond.static ({ cls := "java/lang/Math", name := "min", desc := "(II)I" } : Jvm.MethodName)) ∈ gw := gw_at 722 (by decide +kernel) (by decide +kernel)
theorem k_321 : (Jvm.Cond.initialized "java/lang/Math") ∈ gw := gw_at 82 (by decide +kernel) (by decide +kernel)
theorem k_322 : (Jvm.Cond.code ({ cls := "java/lang/Math", name := "min", desc := "(II)I" } : Jvm.MethodName) prog_15_method_69_code (2 : Nat) (Option.some Jvm.ClassFile.FieldType.int)) ∈ gw := gw_at 723 (by decide +kernel) (by decide +kernel)
theorem k_323 : (Jvm.Cond.methodLink "PledgeMonitor" (170 : Nat) ({ cls := "PledgeMonitor$History", name := "keep", desc := "(LPledgeMonitor$State;)V" } : Jvm.MethodName)) ∈ gw := gw_at 717 (by decide +kernel) (by decide +kernel)
theorem k_324 : (Jvm.Cond.instanceMethod ({ cls := "PledgeMonitor$History", name := "keep", desc := "(LPledgeMonitor$State;)V" } : Jvm.MethodName)) ∈ gw := gw_at 718 (by decide +kernel) (by decide +kernel)
theorem k_325 : (Jvm.Cond.selects "PledgeMonitor$History" ({ cls := "PledgeMonitor$History", name := "keep", desc := "(LPledgeMonitor$State;)V" } : Jvm.MethodName) ({ cls := "PledgeMonitor$History", name := "keep", desc := "(LPledgeMonitor$State;)V" } : Jvm.MethodName)) ∈ gw := gw_at 719 (by decide +kernel) (by decide +kernel)
theorem k_326 : (Jvm.Cond.code ({ cls := "PledgeMonitor$History", name := "keep", desc := "(LPledgeMonitor$State;)V" } : Jvm.MethodName) prog_4_method_2_code (2 : Nat) (Option.none : Option Jvm.ClassFile.FieldType)) ∈ gw := gw_at 720 (by decide +kernel) (by decide +kernel)
theorem k_327 : (Jvm.Cond.methodLink "PledgeMonitor" (93 : Nat) ({ cls := "PledgeMonitor$State", name := "copyFrom", desc := "(LPledgeMonitor$State;)V" } : Jvm.MethodName)) ∈ gw := gw_at 649 (by decide +kernel) (by decide +kernel)
theorem k_328 : (Jvm.Cond.methodLink "PledgeMonitor$Terms" (23 : Nat) ({ cls := "PledgeMonitor$Terms", name := "remove", desc := "(II)V" } : Jvm.MethodName)) ∈ gw := gw_at 739 (by decide +kernel) (by decide +kernel)
theorem k_329 : (Jvm.Cond.methodLink "PledgeMonitor$Runner" (93 : Nat) ({ cls := "PledgeMonitor$Terms", name := "dropBefore", desc := "(I)V" } : Jvm.MethodName)) ∈ gw := gw_at 735 (by decide +kernel) (by decide +kernel)
theorem k_330 : (Jvm.Cond.instanceMethod ({ cls := "PledgeMonitor$Terms", name := "dropBefore", desc := "(I)V" } : Jvm.MethodName)) ∈ gw := gw_at 736 (by decide +kernel) (by decide +kernel)
theorem k_331 : (Jvm.Cond.selects "PledgeMonitor$Terms" ({ cls := "PledgeMonitor$Terms", name := "dropBefore", desc := "(I)V" } : Jvm.MethodName) ({ cls := "PledgeMonitor$Terms", name := "dropBefore", desc := "(I)V" } : Jvm.MethodName)) ∈ gw := gw_at 737 (by decide +kernel) (by decide +kernel)
theorem k_332 : (Jvm.Cond.code ({ cls := "PledgeMonitor$Terms", name := "dropBefore", desc := "(I)V" } : Jvm.MethodName) prog_8_method_6_code (3 : Nat) (Option.none : Option Jvm.ClassFile.FieldType)) ∈ gw := gw_at 738 (by decide +kernel) (by decide +kernel)
theorem k_333 : (Jvm.Cond.methodLink "PledgeMonitor" (127 : Nat) ({ cls := "PledgeMonitor$History", name := "giveBack", desc := "(LPledgeMonitor$State;)Z" } : Jvm.MethodName)) ∈ gw := gw_at 387 (by decide +kernel) (by decide +kernel)
theorem k_334 : (Jvm.Cond.instanceMethod ({ cls := "PledgeMonitor$History", name := "giveBack", desc := "(LPledgeMonitor$State;)Z" } : Jvm.MethodName)) ∈ gw := gw_at 388 (by decide +kernel) (by decide +kernel)
theorem k_335 : (Jvm.Cond.selects "PledgeMonitor$History" ({ cls := "PledgeMonitor$History", name := "giveBack", desc := "(LPledgeMonitor$State;)Z" } : Jvm.MethodName) ({ cls := "PledgeMonitor$History", name := "giveBack", desc := "(LPledgeMonitor$State;)Z" } : Jvm.MethodName)) ∈ gw := gw_at 389 (by decide +kernel) (by decide +kernel)
theorem k_336 : (Jvm.Cond.code ({ cls := "PledgeMonitor$History", name := "giveBack", desc := "(LPledgeMonitor$State;)Z" } : Jvm.MethodName) prog_4_method_3_code (2 : Nat) (Option.some Jvm.ClassFile.FieldType.boolean)) ∈ gw := gw_at 390 (by decide +kernel) (by decide +kernel)
theorem k_337 : (Jvm.Cond.fieldLink "PledgeMonitor" (120 : Nat) "PledgeMonitor$State" "day" "I") ∈ gw := gw_at 233 (by decide +kernel) (by decide +kernel)
theorem k_338 : (Jvm.Cond.fieldLink "PledgeMonitor" (131 : Nat) "PledgeMonitor$State" "duties" "LPledgeMonitor$Terms;") ∈ gw := gw_at 237 (by decide +kernel) (by decide +kernel)
theorem k_339 : (Jvm.Cond.fieldLink "PledgeMonitor" (135 : Nat) "PledgeMonitor$Terms" "size" "I") ∈ gw := gw_at 223 (by decide +kernel) (by decide +kernel)
theorem k_340 : (Jvm.Cond.fieldLink "PledgeMonitor" (138 : Nat) "PledgeMonitor$Terms" "rows" "[I") ∈ gw := gw_at 219 (by decide +kernel) (by decide +kernel)
theorem k_341 : (Jvm.Cond.fieldLink "PledgeMonitor" (142 : Nat) "PledgeMonitor$State" "bans" "LPledgeMonitor$Terms;") ∈ gw := gw_at 241 (by decide +kernel) (by decide +kernel)
theorem k_342 : (Jvm.Cond.fieldLink "PledgeMonitor" (145 : Nat) "PledgeMonitor$State" "powers" "LPledgeMonitor$Terms;") ∈ gw := gw_at 244 (by decide +kernel) (by decide +kernel)
theorem k_343 : (Jvm.Cond.fieldLink "PledgeMonitor" (100 : Nat) "PledgeMonitor$Agreement" "size" "I") ∈ gw := gw_at 200 (by decide +kernel) (by decide +kernel)
theorem k_344 : (Jvm.Cond.fieldLink "PledgeMonitor" (148 : Nat) "PledgeMonitor$State" "breachCounts" "[I") ∈ gw := gw_at 248 (by decide +kernel) (by decide +kernel)
theorem k_345 : (Jvm.Cond.methodLink "PledgeMonitor" (106 : Nat) ({ cls := "PledgeMonitor", name := "isParty", desc := "(I)Z" } : Jvm.MethodName)) ∈ gw := gw_at 423 (by decide +kernel) (by decide +kernel)
theorem k_346 : (Jvm.Cond.static ({ cls := "PledgeMonitor", name := "isParty", desc := "(I)Z" } : Jvm.MethodName)) ∈ gw := gw_at 424 (by decide +kernel) (by decide +kernel)
theorem k_347 : (Jvm.Cond.initialized "PledgeMonitor") ∈ gw := gw_at 65 (by decide +kernel) (by decide +kernel)
theorem k_348 : (Jvm.Cond.code ({ cls := "PledgeMonitor", name := "isParty", desc := "(I)Z" } : Jvm.MethodName) prog_1_method_19_code (1 : Nat) (Option.some Jvm.ClassFile.FieldType.boolean)) ∈ gw := gw_at 425 (by decide +kernel) (by decide +kernel)
theorem k_349 : (Jvm.Cond.methodLink "PledgeMonitor" (110 : Nat) ({ cls := "PledgeMonitor", name := "isKind", desc := "(I)Z" } : Jvm.MethodName)) ∈ gw := gw_at 426 (by decide +kernel) (by decide +kernel)
theorem k_350 : (Jvm.Cond.static ({ cls := "PledgeMonitor", name := "isKind", desc := "(I)Z" } : Jvm.MethodName)) ∈ gw := gw_at 427 (by decide +kernel) (by decide +kernel)
theorem k_351 : (Jvm.Cond.code ({ cls := "PledgeMonitor", name := "isKind", desc := "(I)Z" } : Jvm.MethodName) prog_1_method_20_code (1 : Nat) (Option.some Jvm.ClassFile.FieldType.boolean)) ∈ gw := gw_at 428 (by decide +kernel) (by decide +kernel)
theorem k_352 : (Jvm.Cond.methodLink "PledgeMonitor" (151 : Nat) ({ cls := "PledgeMonitor$Agreement", name := "find", desc := "(LPledgeMonitor$Terms;II)I" } : Jvm.MethodName)) ∈ gw := gw_at 429 (by decide +kernel) (by decide +kernel)
theorem k_353 : (Jvm.Cond.methodLink "PledgeMonitor" (155 : Nat) ({ cls := "PledgeMonitor$State", name := "debtOf", desc := "(II)I" } : Jvm.MethodName)) ∈ gw := gw_at 445 (by decide +kernel) (by decide +kernel)
theorem k_354 : (Jvm.Cond.fieldLink "PledgeMonitor$Agreement" (46 : Nat) "PledgeMonitor$State" "duties" "LPledgeMonitor$Terms;") ∈ gw := gw_at 235 (by decide +kernel) (by decide +kernel)
theorem k_355 : (Jvm.Cond.methodLink "PledgeMonitor$Agreement" (49 : Nat) ({ cls := "PledgeMonitor$Terms", name := "dayAt", desc := "(I)I" } : Jvm.MethodName)) ∈ gw := gw_at 763 (by decide +kernel) (by decide +kernel)
theorem k_356 : (Jvm.Cond.fieldLink "PledgeMonitor$Agreement" (52 : Nat) "PledgeMonitor$State" "day" "I") ∈ gw := gw_at 231 (by decide +kernel) (by decide +kernel)
theorem k_357 : (Jvm.Cond.fieldLink "PledgeMonitor$Agreement" (55 : Nat) "PledgeMonitor$Clause" "party" "I") ∈ gw := gw_at 155 (by decide +kernel) (by decide +kernel)
theorem k_358 : (Jvm.Cond.fieldLink "PledgeMonitor$Agreement" (36 : Nat) "PledgeMonitor$State" "bans" "LPledgeMonitor$Terms;") ∈ gw := gw_at 239 (by decide +kernel) (by decide +kernel)
theorem k_359 : (Jvm.Cond.methodLink "PledgeMonitor$Agreement" (42 : Nat) ({ cls := "PledgeMonitor$Agreement", name := "find", desc := "(LPledgeMonitor$Terms;II)I" } : Jvm.MethodName)) ∈ gw := gw_at 776 (by decide +kernel) (by decide +kernel)
theorem k_360 : (Jvm.Cond.methodLink "PledgeMonitor$Agreement" (33 : Nat) ({ cls := "PledgeMonitor$Clause", name := "isOnEvent", desc := "(II)Z" } : Jvm.MethodName)) ∈ gw := gw_at 775 (by decide +kernel) (by decide +kernel)
theorem k_361 : (Jvm.Cond.methodLink "PledgeMonitor$Search" (57 : Nat) ({ cls := "PledgeMonitor$Agreement", name := "isTouchedBy", desc := "(LPledgeMonitor$State;II)Z" } : Jvm.MethodName)) ∈ gw := gw_at 771 (by decide +kernel) (by decide +kernel)
theorem k_362 : (Jvm.Cond.instanceMethod ({ cls := "PledgeMonitor$Agreement", name := "isTouchedBy", desc := "(LPledgeMonitor$State;II)Z" } : Jvm.MethodName)) ∈ gw := gw_at 772 (by decide +kernel) (by decide +kernel)
theorem k_363 : (Jvm.Cond.selects "PledgeMonitor$Agreement" ({ cls := "PledgeMonitor$Agreement", name := "isTouchedBy", desc := "(LPledgeMonitor$State;II)Z" } : Jvm.MethodName) ({ cls := "PledgeMonitor$Agreement", name := "isTouchedBy", desc := "(LPledgeMonitor$State;II)Z" } : Jvm.MethodName)) ∈ gw := gw_at 773 (by decide +kernel) (by decide +kernel)
theorem k_364 : (Jvm.Cond.code ({ cls := "PledgeMonitor$Agreement", name := "isTouchedBy", desc := "(LPledgeMonitor$State;II)Z" } : Jvm.MethodName) prog_2_method_3_code (5 : Nat) (Option.some Jvm.ClassFile.FieldType.boolean)) ∈ gw := gw_at 774 (by decide +kernel) (by decide +kernel)
theorem k_365 : (Jvm.Cond.methodLink "PledgeMonitor$Search" (45 : Nat) ({ cls := "PledgeMonitor$State", name := "copyFrom", desc := "(LPledgeMonitor$State;)V" } : Jvm.MethodName)) ∈ gw := gw_at 764 (by decide +kernel) (by decide +kernel)
theorem k_366 : (Jvm.Cond.methodLink "PledgeMonitor$Search" (61 : Nat) ({ cls := "PledgeMonitor$Runner", name := "happen", desc := "(LPledgeMonitor$Agreement;LPledgeMonitor$State;II)I" } : Jvm.MethodName)) ∈ gw := gw_at 777 (by decide +kernel) (by decide +kernel)
theorem k_367 : (Jvm.Cond.instanceMethod ({ cls := "PledgeMonitor$Runner", name := "happen", desc := "(LPledgeMonitor$Agreement;LPledgeMonitor$State;II)I" } : Jvm.MethodName)) ∈ gw := gw_at 674 (by decide +kernel) (by decide +kernel)
theorem k_368 : (Jvm.Cond.selects "PledgeMonitor$Runner" ({ cls := "PledgeMonitor$Runner", name := "happen", desc := "(LPledgeMonitor$Agreement;LPledgeMonitor$State;II)I" } : Jvm.MethodName) ({ cls := "PledgeMonitor$Runner", name := "happen", desc := "(LPledgeMonitor$Agreement;LPledgeMonitor$State;II)I" } : Jvm.MethodName)) ∈ gw := gw_at 675 (by decide +kernel) (by decide +kernel)
theorem k_369 : (Jvm.Cond.code ({ cls := "PledgeMonitor$Runner", name := "happen", desc := "(LPledgeMonitor$Agreement;LPledgeMonitor$State;II)I" } : Jvm.MethodName) prog_5_method_3_code (7 : Nat) (Option.some Jvm.ClassFile.FieldType.int)) ∈ gw := gw_at 676 (by decide +kernel) (by decide +kernel)
theorem k_370 : (Jvm.Cond.methodLink "PledgeMonitorModel" (1 : Nat) ({ cls := "java/lang/Object", name := "<init>", desc := "()V" } : Jvm.MethodName)) ∈ gw := gw_at 791 (by decide +kernel) (by decide +kernel)
theorem k_371 : (Jvm.Cond.fieldLink "PledgeMonitorModel" (7 : Nat) "PledgeMonitorModel" "text" "[I") ∈ gw := gw_at 794 (by decide +kernel) (by decide +kernel)
theorem k_372 : (Jvm.Cond.fieldLink "PledgeMonitorModel" (13 : Nat) "PledgeMonitorModel" "told" "I") ∈ gw := gw_at 795 (by decide +kernel) (by decide +kernel)
theorem k_373 : (Jvm.Cond.fieldLink "PledgeMonitorModel" (17 : Nat) "PledgeMonitorModel" "free" "[Z") ∈ gw := gw_at 796 (by decide +kernel) (by decide +kernel)
theorem k_374 : (Jvm.Cond.fieldLink "PledgeMonitorModel" (21 : Nat) "PledgeMonitorModel" "triggers" "[I") ∈ gw := gw_at 800 (by decide +kernel) (by decide +kernel)
theorem k_375 : (Jvm.Cond.fieldLink "PledgeMonitorModel" (24 : Nat) "PledgeMonitorModel" "triggerOne" "[I") ∈ gw := gw_at 801 (by decide +kernel) (by decide +kernel)
theorem k_376 : (Jvm.Cond.fieldLink "PledgeMonitorModel" (27 : Nat) "PledgeMonitorModel" "triggerTwo" "[I") ∈ gw := gw_at 802 (by decide +kernel) (by decide +kernel)
theorem k_377 : (Jvm.Cond.fieldLink "PledgeMonitorModel" (30 : Nat) "PledgeMonitorModel" "bound" "[Z") ∈ gw := gw_at 803 (by decide +kernel) (by decide +kernel)
theorem k_378 : (Jvm.Cond.fieldLink "PledgeMonitorModel" (33 : Nat) "PledgeMonitorModel" "boundOne" "[I") ∈ gw := gw_at 804 (by decide +kernel) (by decide +kernel)
theorem k_379 : (Jvm.Cond.fieldLink "PledgeMonitorModel" (36 : Nat) "PledgeMonitorModel" "boundTwo" "[I") ∈ gw := gw_at 805 (by decide +kernel) (by decide +kernel)
theorem k_380 : (Jvm.Cond.fieldLink "PledgeMonitorModel" (39 : Nat) "PledgeMonitorModel" "boundMore" "[I") ∈ gw := gw_at 806 (by decide +kernel) (by decide +kernel)
theorem k_381 : (Jvm.Cond.fieldLink "PledgeMonitorModel" (42 : Nat) "PledgeMonitorModel" "actions" "[I") ∈ gw := gw_at 807 (by decide +kernel) (by decide +kernel)
theorem k_382 : (Jvm.Cond.fieldLink "PledgeMonitorModel" (45 : Nat) "PledgeMonitorModel" "actionOne" "[I") ∈ gw := gw_at 808 (by decide +kernel) (by decide +kernel)
theorem k_383 : (Jvm.Cond.fieldLink "PledgeMonitorModel" (48 : Nat) "PledgeMonitorModel" "actionTwo" "[I") ∈ gw := gw_at 809 (by decide +kernel) (by decide +kernel)
theorem k_384 : (Jvm.Cond.fieldLink "PledgeMonitorModel" (51 : Nat) "PledgeMonitorModel" "actionMore" "[I") ∈ gw := gw_at 810 (by decide +kernel) (by decide +kernel)
theorem k_385 : (Jvm.Cond.fieldLink "PledgeMonitorModel" (54 : Nat) "PledgeMonitorModel" "states" "[I") ∈ gw := gw_at 811 (by decide +kernel) (by decide +kernel)
theorem k_386 : (Jvm.Cond.fieldLink "PledgeMonitorModel" (57 : Nat) "PledgeMonitorModel" "row" "[I") ∈ gw := gw_at 814 (by decide +kernel) (by decide +kernel)
theorem k_387 : (Jvm.Cond.fieldLink "PledgeMonitorModel" (60 : Nat) "PledgeMonitorModel" "code" "I") ∈ gw := gw_at 792 (by decide +kernel) (by decide +kernel)
theorem k_388 : (Jvm.Cond.fieldLink "PledgeMonitorModel" (65 : Nat) "PledgeMonitorModel" "typed" "I") ∈ gw := gw_at 793 (by decide +kernel) (by decide +kernel)
theorem k_389 : (Jvm.Cond.constantLong "PledgeMonitorModel" (63 : Nat) (255 : Int64)) ∈ gw := gw_at 879 (by decide +kernel) (by decide +kernel)
theorem k_390 : (Jvm.Cond.fieldLink "PledgeMonitorModel" (68 : Nat) "PledgeMonitorModel" "there" "Z") ∈ gw := gw_at 798 (by decide +kernel) (by decide +kernel)
theorem k_391 : (Jvm.Cond.methodLink "PledgeMonitorModel" (72 : Nat) ({ cls := "PledgeMonitorModel", name := "charAt", desc := "(I)I" } : Jvm.MethodName)) ∈ gw := gw_at 904 (by decide +kernel) (by decide +kernel)
theorem k_392 : (Jvm.Cond.instanceMethod ({ cls := "PledgeMonitorModel", name := "charAt", desc := "(I)I" } : Jvm.MethodName)) ∈ gw := gw_at 906 (by decide +kernel) (by decide +kernel)
theorem k_393 : (Jvm.Cond.selects "PledgeMonitorModel" ({ cls := "PledgeMonitorModel", name := "charAt", desc := "(I)I" } : Jvm.MethodName) ({ cls := "PledgeMonitorModel", name := "charAt", desc := "(I)I" } : Jvm.MethodName)) ∈ gw := gw_at 33 (by decide +kernel) (by decide +kernel)
theorem k_394 : (Jvm.Cond.initialized "PledgeMonitorModel") ∈ gw := gw_at 74 (by decide +kernel) (by decide +kernel)
theorem k_395 : (Jvm.Cond.code ({ cls := "PledgeMonitorModel", name := "charAt", desc := "(I)I" } : Jvm.MethodName) prog_11_method_6_code (2 : Nat) (Option.some Jvm.ClassFile.FieldType.int)) ∈ gw := gw_at 907 (by decide +kernel) (by decide +kernel)
theorem k_396 : (Jvm.Cond.methodLink "PledgeMonitorModel" (76 : Nat) ({ cls := "PledgeMonitorModel", name := "party", desc := "(I)I" } : Jvm.MethodName)) ∈ gw := gw_at 908 (by decide +kernel) (by decide +kernel)
theorem k_397 : (Jvm.Cond.instanceMethod ({ cls := "PledgeMonitorModel", name := "party", desc := "(I)I" } : Jvm.MethodName)) ∈ gw := gw_at 910 (by decide +kernel) (by decide +kernel)
theorem k_398 : (Jvm.Cond.selects "PledgeMonitorModel" ({ cls := "PledgeMonitorModel", name := "party", desc := "(I)I" } : Jvm.MethodName) ({ cls := "PledgeMonitorModel", name := "party", desc := "(I)I" } : Jvm.MethodName)) ∈ gw := gw_at 34 (by decide +kernel) (by decide +kernel)
theorem k_399 : (Jvm.Cond.code ({ cls := "PledgeMonitorModel", name := "party", desc := "(I)I" } : Jvm.MethodName) prog_11_method_7_code (3 : Nat) (Option.some Jvm.ClassFile.FieldType.int)) ∈ gw := gw_at 911 (by decide +kernel) (by decide +kernel)
theorem k_400 : (Jvm.Cond.methodLink "PledgeMonitorModel" (82 : Nat) ({ cls := "PledgeMonitorModel", name := "kind", desc := "(I)I" } : Jvm.MethodName)) ∈ gw := gw_at 916 (by decide +kernel) (by decide +kernel)
theorem k_401 : (Jvm.Cond.instanceMethod ({ cls := "PledgeMonitorModel", name := "kind", desc := "(I)I" } : Jvm.MethodName)) ∈ gw := gw_at 918 (by decide +kernel) (by decide +kernel)
theorem k_402 : (Jvm.Cond.selects "PledgeMonitorModel" ({ cls := "PledgeMonitorModel", name := "kind", desc := "(I)I" } : Jvm.MethodName) ({ cls := "PledgeMonitorModel", name := "kind", desc := "(I)I" } : Jvm.MethodName)) ∈ gw := gw_at 36 (by decide +kernel) (by decide +kernel)
theorem k_403 : (Jvm.Cond.code ({ cls := "PledgeMonitorModel", name := "kind", desc := "(I)I" } : Jvm.MethodName) prog_11_method_8_code (3 : Nat) (Option.some Jvm.ClassFile.FieldType.int)) ∈ gw := gw_at 919 (by decide +kernel) (by decide +kernel)
theorem k_404 : (Jvm.Cond.methodLink "PledgeMonitorModel" (79 : Nat) ({ cls := "PledgeMonitorModel", name := "digit", desc := "(I)I" } : Jvm.MethodName)) ∈ gw := gw_at 912 (by decide +kernel) (by decide +kernel)
theorem k_405 : (Jvm.Cond.instanceMethod ({ cls := "PledgeMonitorModel", name := "digit", desc := "(I)I" } : Jvm.MethodName)) ∈ gw := gw_at 914 (by decide +kernel) (by decide +kernel)
theorem k_406 : (Jvm.Cond.selects "PledgeMonitorModel" ({ cls := "PledgeMonitorModel", name := "digit", desc := "(I)I" } : Jvm.MethodName) ({ cls := "PledgeMonitorModel", name := "digit", desc := "(I)I" } : Jvm.MethodName)) ∈ gw := gw_at 35 (by decide +kernel) (by decide +kernel)
theorem k_407 : (Jvm.Cond.code ({ cls := "PledgeMonitorModel", name := "digit", desc := "(I)I" } : Jvm.MethodName) prog_11_method_9_code (3 : Nat) (Option.some Jvm.ClassFile.FieldType.int)) ∈ gw := gw_at 915 (by decide +kernel) (by decide +kernel)
theorem k_408 : (Jvm.Cond.methodLink "PledgeMonitorModel" (85 : Nat) ({ cls := "PledgeMonitorModel", name := "overPair", desc := "(I)I" } : Jvm.MethodName)) ∈ gw := gw_at 924 (by decide +kernel) (by decide +kernel)
theorem k_409 : (Jvm.Cond.instanceMethod ({ cls := "PledgeMonitorModel", name := "overPair", desc := "(I)I" } : Jvm.MethodName)) ∈ gw := gw_at 926 (by decide +kernel) (by decide +kernel)
theorem k_410 : (Jvm.Cond.selects "PledgeMonitorModel" ({ cls := "PledgeMonitorModel", name := "overPair", desc := "(I)I" } : Jvm.MethodName) ({ cls := "PledgeMonitorModel", name := "overPair", desc := "(I)I" } : Jvm.MethodName)) ∈ gw := gw_at 38 (by decide +kernel) (by decide +kernel)
theorem k_411 : (Jvm.Cond.code ({ cls := "PledgeMonitorModel", name := "overPair", desc := "(I)I" } : Jvm.MethodName) prog_11_method_11_code (2 : Nat) (Option.some Jvm.ClassFile.FieldType.int)) ∈ gw := gw_at 927 (by decide +kernel) (by decide +kernel)
theorem k_412 : (Jvm.Cond.methodLink "PledgeMonitorModel" (88 : Nat) ({ cls := "PledgeMonitorModel", name := "readTrigger", desc := "(II)I" } : Jvm.MethodName)) ∈ gw := gw_at 900 (by decide +kernel) (by decide +kernel)
theorem k_413 : (Jvm.Cond.instanceMethod ({ cls := "PledgeMonitorModel", name := "readTrigger", desc := "(II)I" } : Jvm.MethodName)) ∈ gw := gw_at 902 (by decide +kernel) (by decide +kernel)
theorem k_414 : (Jvm.Cond.selects "PledgeMonitorModel" ({ cls := "PledgeMonitorModel", name := "readTrigger", desc := "(II)I" } : Jvm.MethodName) ({ cls := "PledgeMonitorModel", name := "readTrigger", desc := "(II)I" } : Jvm.MethodName)) ∈ gw := gw_at 32 (by decide +kernel) (by decide +kernel)
theorem k_415 : (Jvm.Cond.code ({ cls := "PledgeMonitorModel", name := "readTrigger", desc := "(II)I" } : Jvm.MethodName) prog_11_method_10_code (5 : Nat) (Option.some Jvm.ClassFile.FieldType.int)) ∈ gw := gw_at 903 (by decide +kernel) (by decide +kernel)
theorem k_416 : (Jvm.Cond.methodLink "PledgeMonitorModel" (95 : Nat) ({ cls := "PledgeMonitorModel", name := "readAction", desc := "(II)I" } : Jvm.MethodName)) ∈ gw := gw_at 928 (by decide +kernel) (by decide +kernel)
theorem k_417 : (Jvm.Cond.instanceMethod ({ cls := "PledgeMonitorModel", name := "readAction", desc := "(II)I" } : Jvm.MethodName)) ∈ gw := gw_at 930 (by decide +kernel) (by decide +kernel)
theorem k_418 : (Jvm.Cond.selects "PledgeMonitorModel" ({ cls := "PledgeMonitorModel", name := "readAction", desc := "(II)I" } : Jvm.MethodName) ({ cls := "PledgeMonitorModel", name := "readAction", desc := "(II)I" } : Jvm.MethodName)) ∈ gw := gw_at 39 (by decide +kernel) (by decide +kernel)
theorem k_419 : (Jvm.Cond.code ({ cls := "PledgeMonitorModel", name := "readAction", desc := "(II)I" } : Jvm.MethodName) prog_11_method_13_code (4 : Nat) (Option.some Jvm.ClassFile.FieldType.int)) ∈ gw := gw_at 931 (by decide +kernel) (by decide +kernel)
theorem k_420 : (Jvm.Cond.methodLink "PledgeMonitorModel" (92 : Nat) ({ cls := "PledgeMonitorModel", name := "readBound", desc := "(II)I" } : Jvm.MethodName)) ∈ gw := gw_at 920 (by decide +kernel) (by decide +kernel)
theorem k_421 : (Jvm.Cond.instanceMethod ({ cls := "PledgeMonitorModel", name := "readBound", desc := "(II)I" } : Jvm.MethodName)) ∈ gw := gw_at 922 (by decide +kernel) (by decide +kernel)
theorem k_422 : (Jvm.Cond.selects "PledgeMonitorModel" ({ cls := "PledgeMonitorModel", name := "readBound", desc := "(II)I" } : Jvm.MethodName) ({ cls := "PledgeMonitorModel", name := "readBound", desc := "(II)I" } : Jvm.MethodName)) ∈ gw := gw_at 37 (by decide +kernel) (by decide +kernel)
theorem k_423 : (Jvm.Cond.code ({ cls := "PledgeMonitorModel", name := "readBound", desc := "(II)I" } : Jvm.MethodName) prog_11_method_12_code (4 : Nat) (Option.some Jvm.ClassFile.FieldType.int)) ∈ gw := gw_at 923 (by decide +kernel) (by decide +kernel)
theorem k_424 : (Jvm.Cond.methodLink "PledgeMonitorModel" (98 : Nat) ({ cls := "PledgeMonitorModel", name := "readClause", desc := "(II)I" } : Jvm.MethodName)) ∈ gw := gw_at 896 (by decide +kernel) (by decide +kernel)
theorem k_425 : (Jvm.Cond.instanceMethod ({ cls := "PledgeMonitorModel", name := "readClause", desc := "(II)I" } : Jvm.MethodName)) ∈ gw := gw_at 898 (by decide +kernel) (by decide +kernel)
theorem k_426 : (Jvm.Cond.selects "PledgeMonitorModel" ({ cls := "PledgeMonitorModel", name := "readClause", desc := "(II)I" } : Jvm.MethodName) ({ cls := "PledgeMonitorModel", name := "readClause", desc := "(II)I" } : Jvm.MethodName)) ∈ gw := gw_at 31 (by decide +kernel) (by decide +kernel)
theorem k_427 : (Jvm.Cond.code ({ cls := "PledgeMonitorModel", name := "readClause", desc := "(II)I" } : Jvm.MethodName) prog_11_method_14_code (4 : Nat) (Option.some Jvm.ClassFile.FieldType.int)) ∈ gw := gw_at 899 (by decide +kernel) (by decide +kernel)
theorem k_428 : (Jvm.Cond.methodLink "PledgeMonitorModel" (105 : Nat) ({ cls := "PledgeMonitorModel", name := "goesRound", desc := "(II)Z" } : Jvm.MethodName)) ∈ gw := gw_at 940 (by decide +kernel) (by decide +kernel)
theorem k_429 : (Jvm.Cond.instanceMethod ({ cls := "PledgeMonitorModel", name := "goesRound", desc := "(II)Z" } : Jvm.MethodName)) ∈ gw := gw_at 942 (by decide +kernel) (by decide +kernel)
theorem k_430 : (Jvm.Cond.selects "PledgeMonitorModel" ({ cls := "PledgeMonitorModel", name := "goesRound", desc := "(II)Z" } : Jvm.MethodName) ({ cls := "PledgeMonitorModel", name := "goesRound", desc := "(II)Z" } : Jvm.MethodName)) ∈ gw := gw_at 42 (by decide +kernel) (by decide +kernel)
theorem k_431 : (Jvm.Cond.code ({ cls := "PledgeMonitorModel", name := "goesRound", desc := "(II)Z" } : Jvm.MethodName) prog_11_method_17_code (6 : Nat) (Option.some Jvm.ClassFile.FieldType.boolean)) ∈ gw := gw_at 943 (by decide +kernel) (by decide +kernel)
theorem k_432 : (Jvm.Cond.methodLink "PledgeMonitorModel" (101 : Nat) ({ cls := "PledgeMonitorModel", name := "refersWell", desc := "(III)Z" } : Jvm.MethodName)) ∈ gw := gw_at 936 (by decide +kernel) (by decide +kernel)
theorem k_433 : (Jvm.Cond.instanceMethod ({ cls := "PledgeMonitorModel", name := "refersWell", desc := "(III)Z" } : Jvm.MethodName)) ∈ gw := gw_at 938 (by decide +kernel) (by decide +kernel)
theorem k_434 : (Jvm.Cond.selects "PledgeMonitorModel" ({ cls := "PledgeMonitorModel", name := "refersWell", desc := "(III)Z" } : Jvm.MethodName) ({ cls := "PledgeMonitorModel", name := "refersWell", desc := "(III)Z" } : Jvm.MethodName)) ∈ gw := gw_at 41 (by decide +kernel) (by decide +kernel)
theorem k_435 : (Jvm.Cond.code ({ cls := "PledgeMonitorModel", name := "refersWell", desc := "(III)Z" } : Jvm.MethodName) prog_11_method_16_code (7 : Nat) (Option.some Jvm.ClassFile.FieldType.boolean)) ∈ gw := gw_at 939 (by decide +kernel) (by decide +kernel)
theorem k_436 : (Jvm.Cond.fieldLink "PledgeMonitorModel" (109 : Nat) "PledgeMonitorModel" "full" "Z") ∈ gw := gw_at 815 (by decide +kernel) (by decide +kernel)
theorem k_437 : (Jvm.Cond.fieldLink "PledgeMonitorModel" (112 : Nat) "PledgeMonitorModel" "bank" "I") ∈ gw := gw_at 797 (by decide +kernel) (by decide +kernel)
theorem k_438 : (Jvm.Cond.methodLink "PledgeMonitorModel" (115 : Nat) ({ cls := "PledgeMonitorModel", name := "clauseAt", desc := "(III)I" } : Jvm.MethodName)) ∈ gw := gw_at 998 (by decide +kernel) (by decide +kernel)
theorem k_439 : (Jvm.Cond.instanceMethod ({ cls := "PledgeMonitorModel", name := "clauseAt", desc := "(III)I" } : Jvm.MethodName)) ∈ gw := gw_at 1000 (by decide +kernel) (by decide +kernel)
theorem k_440 : (Jvm.Cond.selects "PledgeMonitorModel" ({ cls := "PledgeMonitorModel", name := "clauseAt", desc := "(III)I" } : Jvm.MethodName) ({ cls := "PledgeMonitorModel", name := "clauseAt", desc := "(III)I" } : Jvm.MethodName)) ∈ gw := gw_at 52 (by decide +kernel) (by decide +kernel)
theorem k_441 : (Jvm.Cond.code ({ cls := "PledgeMonitorModel", name := "clauseAt", desc := "(III)I" } : Jvm.MethodName) prog_11_method_23_code (4 : Nat) (Option.some Jvm.ClassFile.FieldType.int)) ∈ gw := gw_at 1001 (by decide +kernel) (by decide +kernel)
theorem k_442 : (Jvm.Cond.methodLink "PledgeMonitorModel" (119 : Nat) ({ cls := "PledgeMonitorModel", name := "isOf", desc := "(III)Z" } : Jvm.MethodName)) ∈ gw := gw_at 1002 (by decide +kernel) (by decide +kernel)
theorem k_443 : (Jvm.Cond.instanceMethod ({ cls := "PledgeMonitorModel", name := "isOf", desc := "(III)Z" } : Jvm.MethodName)) ∈ gw := gw_at 1004 (by decide +kernel) (by decide +kernel)
theorem k_444 : (Jvm.Cond.selects "PledgeMonitorModel" ({ cls := "PledgeMonitorModel", name := "isOf", desc := "(III)Z" } : Jvm.MethodName) ({ cls := "PledgeMonitorModel", name := "isOf", desc := "(III)Z" } : Jvm.MethodName)) ∈ gw := gw_at 53 (by decide +kernel) (by decide +kernel)
theorem k_445 : (Jvm.Cond.code ({ cls := "PledgeMonitorModel", name := "isOf", desc := "(III)Z" } : Jvm.MethodName) prog_11_method_25_code (4 : Nat) (Option.some Jvm.ClassFile.FieldType.boolean)) ∈ gw := gw_at 1005 (by decide +kernel) (by decide +kernel)
theorem k_446 : (Jvm.Cond.methodLink "PledgeMonitorModel" (122 : Nat) ({ cls := "PledgeMonitorModel", name := "dayAt", desc := "(III)I" } : Jvm.MethodName)) ∈ gw := gw_at 1006 (by decide +kernel) (by decide +kernel)
theorem k_447 : (Jvm.Cond.instanceMethod ({ cls := "PledgeMonitorModel", name := "dayAt", desc := "(III)I" } : Jvm.MethodName)) ∈ gw := gw_at 1008 (by decide +kernel) (by decide +kernel)
theorem k_448 : (Jvm.Cond.selects "PledgeMonitorModel" ({ cls := "PledgeMonitorModel", name := "dayAt", desc := "(III)I" } : Jvm.MethodName) ({ cls := "PledgeMonitorModel", name := "dayAt", desc := "(III)I" } : Jvm.MethodName)) ∈ gw := gw_at 54 (by decide +kernel) (by decide +kernel)
theorem k_449 : (Jvm.Cond.code ({ cls := "PledgeMonitorModel", name := "dayAt", desc := "(III)I" } : Jvm.MethodName) prog_11_method_24_code (4 : Nat) (Option.some Jvm.ClassFile.FieldType.int)) ∈ gw := gw_at 1009 (by decide +kernel) (by decide +kernel)
theorem k_450 : (Jvm.Cond.fieldLink "PledgeMonitorModel" (125 : Nat) "PledgeMonitorModel" "clauses" "I") ∈ gw := gw_at 799 (by decide +kernel) (by decide +kernel)
theorem k_451 : (Jvm.Cond.fieldLink "PledgeMonitorModel" (128 : Nat) "PledgeMonitorModel" "waiting" "I") ∈ gw := gw_at 813 (by decide +kernel) (by decide +kernel)
theorem k_452 : (Jvm.Cond.fieldLink "PledgeMonitorModel" (131 : Nat) "PledgeMonitorModel" "made" "I") ∈ gw := gw_at 816 (by decide +kernel) (by decide +kernel)
theorem k_453 : (Jvm.Cond.fieldLink "PledgeMonitorModel" (134 : Nat) "PledgeMonitorModel" "blamed" "I") ∈ gw := gw_at 817 (by decide +kernel) (by decide +kernel)
theorem k_454 : (Jvm.Cond.methodLink "PledgeMonitorModel" (137 : Nat) ({ cls := "PledgeMonitorModel", name := "await", desc := "(III)V" } : Jvm.MethodName)) ∈ gw := gw_at 948 (by decide +kernel) (by decide +kernel)
theorem k_455 : (Jvm.Cond.instanceMethod ({ cls := "PledgeMonitorModel", name := "await", desc := "(III)V" } : Jvm.MethodName)) ∈ gw := gw_at 950 (by decide +kernel) (by decide +kernel)
theorem k_456 : (Jvm.Cond.selects "PledgeMonitorModel" ({ cls := "PledgeMonitorModel", name := "await", desc := "(III)V" } : Jvm.MethodName) ({ cls := "PledgeMonitorModel", name := "await", desc := "(III)V" } : Jvm.MethodName)) ∈ gw := gw_at 44 (by decide +kernel) (by decide +kernel)
theorem k_457 : (Jvm.Cond.code ({ cls := "PledgeMonitorModel", name := "await", desc := "(III)V" } : Jvm.MethodName) prog_11_method_27_code (7 : Nat) (Option.none : Option Jvm.ClassFile.FieldType)) ∈ gw := gw_at 951 (by decide +kernel) (by decide +kernel)
theorem k_458 : (Jvm.Cond.methodLink "PledgeMonitorModel" (144 : Nat) ({ cls := "PledgeMonitorModel", name := "put", desc := "(IIII)V" } : Jvm.MethodName)) ∈ gw := gw_at 964 (by decide +kernel) (by decide +kernel)
theorem k_459 : (Jvm.Cond.instanceMethod ({ cls := "PledgeMonitorModel", name := "put", desc := "(IIII)V" } : Jvm.MethodName)) ∈ gw := gw_at 966 (by decide +kernel) (by decide +kernel)
theorem k_460 : (Jvm.Cond.selects "PledgeMonitorModel" ({ cls := "PledgeMonitorModel", name := "put", desc := "(IIII)V" } : Jvm.MethodName) ({ cls := "PledgeMonitorModel", name := "put", desc := "(IIII)V" } : Jvm.MethodName)) ∈ gw := gw_at 48 (by decide +kernel) (by decide +kernel)
theorem k_461 : (Jvm.Cond.code ({ cls := "PledgeMonitorModel", name := "put", desc := "(IIII)V" } : Jvm.MethodName) prog_11_method_21_code (6 : Nat) (Option.none : Option Jvm.ClassFile.FieldType)) ∈ gw := gw_at 967 (by decide +kernel) (by decide +kernel)
theorem k_462 : (Jvm.Cond.methodLink "PledgeMonitorModel" (141 : Nat) ({ cls := "PledgeMonitorModel", name := "dayAfter", desc := "(II)I" } : Jvm.MethodName)) ∈ gw := gw_at 960 (by decide +kernel) (by decide +kernel)
theorem k_463 : (Jvm.Cond.instanceMethod ({ cls := "PledgeMonitorModel", name := "dayAfter", desc := "(II)I" } : Jvm.MethodName)) ∈ gw := gw_at 962 (by decide +kernel) (by decide +kernel)
theorem k_464 : (Jvm.Cond.selects "PledgeMonitorModel" ({ cls := "PledgeMonitorModel", name := "dayAfter", desc := "(II)I" } : Jvm.MethodName) ({ cls := "PledgeMonitorModel", name := "dayAfter", desc := "(II)I" } : Jvm.MethodName)) ∈ gw := gw_at 47 (by decide +kernel) (by decide +kernel)
theorem k_465 : (Jvm.Cond.code ({ cls := "PledgeMonitorModel", name := "dayAfter", desc := "(II)I" } : Jvm.MethodName) prog_11_method_20_code (5 : Nat) (Option.some Jvm.ClassFile.FieldType.int)) ∈ gw := gw_at 963 (by decide +kernel) (by decide +kernel)
theorem k_466 : (Jvm.Cond.methodLink "PledgeMonitorModel" (148 : Nat) ({ cls := "PledgeMonitorModel", name := "act", desc := "(II)V" } : Jvm.MethodName)) ∈ gw := gw_at 956 (by decide +kernel) (by decide +kernel)
theorem k_467 : (Jvm.Cond.instanceMethod ({ cls := "PledgeMonitorModel", name := "act", desc := "(II)V" } : Jvm.MethodName)) ∈ gw := gw_at 958 (by decide +kernel) (by decide +kernel)
theorem k_468 : (Jvm.Cond.selects "PledgeMonitorModel" ({ cls := "PledgeMonitorModel", name := "act", desc := "(II)V" } : Jvm.MethodName) ({ cls := "PledgeMonitorModel", name := "act", desc := "(II)V" } : Jvm.MethodName)) ∈ gw := gw_at 46 (by decide +kernel) (by decide +kernel)
theorem k_469 : (Jvm.Cond.code ({ cls := "PledgeMonitorModel", name := "act", desc := "(II)V" } : Jvm.MethodName) prog_11_method_29_code (7 : Nat) (Option.none : Option Jvm.ClassFile.FieldType)) ∈ gw := gw_at 959 (by decide +kernel) (by decide +kernel)
theorem k_470 : (Jvm.Cond.methodLink "PledgeMonitorModel" (152 : Nat) ({ cls := "PledgeMonitorModel", name := "start", desc := "()V" } : Jvm.MethodName)) ∈ gw := gw_at 944 (by decide +kernel) (by decide +kernel)
theorem k_471 : (Jvm.Cond.instanceMethod ({ cls := "PledgeMonitorModel", name := "start", desc := "()V" } : Jvm.MethodName)) ∈ gw := gw_at 946 (by decide +kernel) (by decide +kernel)
theorem k_472 : (Jvm.Cond.selects "PledgeMonitorModel" ({ cls := "PledgeMonitorModel", name := "start", desc := "()V" } : Jvm.MethodName) ({ cls := "PledgeMonitorModel", name := "start", desc := "()V" } : Jvm.MethodName)) ∈ gw := gw_at 43 (by decide +kernel) (by decide +kernel)
theorem k_473 : (Jvm.Cond.code ({ cls := "PledgeMonitorModel", name := "start", desc := "()V" } : Jvm.MethodName) prog_11_method_31_code (1 : Nat) (Option.none : Option Jvm.ClassFile.FieldType)) ∈ gw := gw_at 947 (by decide +kernel) (by decide +kernel)
theorem k_474 : (Jvm.Cond.methodLink "PledgeMonitorModel" (155 : Nat) ({ cls := "PledgeMonitorModel", name := "first", desc := "(IIII)I" } : Jvm.MethodName)) ∈ gw := gw_at 994 (by decide +kernel) (by decide +kernel)
theorem k_475 : (Jvm.Cond.instanceMethod ({ cls := "PledgeMonitorModel", name := "first", desc := "(IIII)I" } : Jvm.MethodName)) ∈ gw := gw_at 996 (by decide +kernel) (by decide +kernel)
theorem k_476 : (Jvm.Cond.selects "PledgeMonitorModel" ({ cls := "PledgeMonitorModel", name := "first", desc := "(IIII)I" } : Jvm.MethodName) ({ cls := "PledgeMonitorModel", name := "first", desc := "(IIII)I" } : Jvm.MethodName)) ∈ gw := gw_at 51 (by decide +kernel) (by decide +kernel)
theorem k_477 : (Jvm.Cond.code ({ cls := "PledgeMonitorModel", name := "first", desc := "(IIII)I" } : Jvm.MethodName) prog_11_method_26_code (9 : Nat) (Option.some Jvm.ClassFile.FieldType.int)) ∈ gw := gw_at 997 (by decide +kernel) (by decide +kernel)
theorem k_478 : (Jvm.Cond.methodLink "PledgeMonitorModel" (165 : Nat) ({ cls := "PledgeMonitorModel", name := "run", desc := "(I)V" } : Jvm.MethodName)) ∈ gw := gw_at 952 (by decide +kernel) (by decide +kernel)
theorem k_479 : (Jvm.Cond.instanceMethod ({ cls := "PledgeMonitorModel", name := "run", desc := "(I)V" } : Jvm.MethodName)) ∈ gw := gw_at 954 (by decide +kernel) (by decide +kernel)
theorem k_480 : (Jvm.Cond.selects "PledgeMonitorModel" ({ cls := "PledgeMonitorModel", name := "run", desc := "(I)V" } : Jvm.MethodName) ({ cls := "PledgeMonitorModel", name := "run", desc := "(I)V" } : Jvm.MethodName)) ∈ gw := gw_at 45 (by decide +kernel) (by decide +kernel)
theorem k_481 : (Jvm.Cond.code ({ cls := "PledgeMonitorModel", name := "run", desc := "(I)V" } : Jvm.MethodName) prog_11_method_30_code (5 : Nat) (Option.none : Option Jvm.ClassFile.FieldType)) ∈ gw := gw_at 955 (by decide +kernel) (by decide +kernel)
theorem k_482 : (Jvm.Cond.methodLink "PledgeMonitorModel" (159 : Nat) ({ cls := "PledgeMonitorModel", name := "takeOut", desc := "(III)V" } : Jvm.MethodName)) ∈ gw := gw_at 1010 (by decide +kernel) (by decide +kernel)
theorem k_483 : (Jvm.Cond.instanceMethod ({ cls := "PledgeMonitorModel", name := "takeOut", desc := "(III)V" } : Jvm.MethodName)) ∈ gw := gw_at 1012 (by decide +kernel) (by decide +kernel)
theorem k_484 : (Jvm.Cond.selects "PledgeMonitorModel" ({ cls := "PledgeMonitorModel", name := "takeOut", desc := "(III)V" } : Jvm.MethodName) ({ cls := "PledgeMonitorModel", name := "takeOut", desc := "(III)V" } : Jvm.MethodName)) ∈ gw := gw_at 55 (by decide +kernel) (by decide +kernel)
theorem k_485 : (Jvm.Cond.code ({ cls := "PledgeMonitorModel", name := "takeOut", desc := "(III)V" } : Jvm.MethodName) prog_11_method_22_code (6 : Nat) (Option.none : Option Jvm.ClassFile.FieldType)) ∈ gw := gw_at 1013 (by decide +kernel) (by decide +kernel)
theorem k_486 : (Jvm.Cond.methodLink "PledgeMonitorModel" (162 : Nat) ({ cls := "PledgeMonitorModel", name := "breach", desc := "(II)V" } : Jvm.MethodName)) ∈ gw := gw_at 1014 (by decide +kernel) (by decide +kernel)
theorem k_487 : (Jvm.Cond.instanceMethod ({ cls := "PledgeMonitorModel", name := "breach", desc := "(II)V" } : Jvm.MethodName)) ∈ gw := gw_at 1016 (by decide +kernel) (by decide +kernel)
theorem k_488 : (Jvm.Cond.selects "PledgeMonitorModel" ({ cls := "PledgeMonitorModel", name := "breach", desc := "(II)V" } : Jvm.MethodName) ({ cls := "PledgeMonitorModel", name := "breach", desc := "(II)V" } : Jvm.MethodName)) ∈ gw := gw_at 56 (by decide +kernel) (by decide +kernel)
theorem k_489 : (Jvm.Cond.code ({ cls := "PledgeMonitorModel", name := "breach", desc := "(II)V" } : Jvm.MethodName) prog_11_method_28_code (4 : Nat) (Option.none : Option Jvm.ClassFile.FieldType)) ∈ gw := gw_at 1017 (by decide +kernel) (by decide +kernel)
theorem k_490 : (Jvm.Cond.methodLink "PledgeMonitorModel" (169 : Nat) ({ cls := "PledgeMonitorModel", name := "passOver", desc := "(II)V" } : Jvm.MethodName)) ∈ gw := gw_at 1030 (by decide +kernel) (by decide +kernel)
theorem k_491 : (Jvm.Cond.instanceMethod ({ cls := "PledgeMonitorModel", name := "passOver", desc := "(II)V" } : Jvm.MethodName)) ∈ gw := gw_at 1032 (by decide +kernel) (by decide +kernel)
theorem k_492 : (Jvm.Cond.selects "PledgeMonitorModel" ({ cls := "PledgeMonitorModel", name := "passOver", desc := "(II)V" } : Jvm.MethodName) ({ cls := "PledgeMonitorModel", name := "passOver", desc := "(II)V" } : Jvm.MethodName)) ∈ gw := gw_at 59 (by decide +kernel) (by decide +kernel)
theorem k_493 : (Jvm.Cond.code ({ cls := "PledgeMonitorModel", name := "passOver", desc := "(II)V" } : Jvm.MethodName) prog_11_method_33_code (4 : Nat) (Option.none : Option Jvm.ClassFile.FieldType)) ∈ gw := gw_at 1033 (by decide +kernel) (by decide +kernel)
theorem k_494 : (Jvm.Cond.methodLink "PledgeMonitorModel" (172 : Nat) ({ cls := "PledgeMonitorModel", name := "readAll", desc := "(I)I" } : Jvm.MethodName)) ∈ gw := gw_at 892 (by decide +kernel) (by decide +kernel)
theorem k_495 : (Jvm.Cond.instanceMethod ({ cls := "PledgeMonitorModel", name := "readAll", desc := "(I)I" } : Jvm.MethodName)) ∈ gw := gw_at 894 (by decide +kernel) (by decide +kernel)
theorem k_496 : (Jvm.Cond.selects "PledgeMonitorModel" ({ cls := "PledgeMonitorModel", name := "readAll", desc := "(I)I" } : Jvm.MethodName) ({ cls := "PledgeMonitorModel", name := "readAll", desc := "(I)I" } : Jvm.MethodName)) ∈ gw := gw_at 30 (by decide +kernel) (by decide +kernel)
theorem k_497 : (Jvm.Cond.code ({ cls := "PledgeMonitorModel", name := "readAll", desc := "(I)I" } : Jvm.MethodName) prog_11_method_15_code (5 : Nat) (Option.some Jvm.ClassFile.FieldType.int)) ∈ gw := gw_at 895 (by decide +kernel) (by decide +kernel)
theorem k_498 : (Jvm.Cond.methodLink "PledgeMonitorModel" (175 : Nat) ({ cls := "PledgeMonitorModel", name := "faultOf", desc := "(II)I" } : Jvm.MethodName)) ∈ gw := gw_at 932 (by decide +kernel) (by decide +kernel)
theorem k_499 : (Jvm.Cond.instanceMethod ({ cls := "PledgeMonitorModel", name := "faultOf", desc := "(II)I" } : Jvm.MethodName)) ∈ gw := gw_at 934 (by decide +kernel) (by decide +kernel)
theorem k_500 : (Jvm.Cond.selects "PledgeMonitorModel" ({ cls := "PledgeMonitorModel", name := "faultOf", desc := "(II)I" } : Jvm.MethodName) ({ cls := "PledgeMonitorModel", name := "faultOf", desc := "(II)I" } : Jvm.MethodName)) ∈ gw := gw_at 40 (by decide +kernel) (by decide +kernel)
theorem k_501 : (Jvm.Cond.code ({ cls := "PledgeMonitorModel", name := "faultOf", desc := "(II)I" } : Jvm.MethodName) prog_11_method_18_code (4 : Nat) (Option.some Jvm.ClassFile.FieldType.int)) ∈ gw := gw_at 935 (by decide +kernel) (by decide +kernel)
theorem k_502 : (Jvm.Cond.methodLink "PledgeMonitorModel" (178 : Nat) ({ cls := "PledgeMonitorModel", name := "copy", desc := "(II)V" } : Jvm.MethodName)) ∈ gw := gw_at 968 (by decide +kernel) (by decide +kernel)
theorem k_503 : (Jvm.Cond.instanceMethod ({ cls := "PledgeMonitorModel", name := "copy", desc := "(II)V" } : Jvm.MethodName)) ∈ gw := gw_at 970 (by decide +kernel) (by decide +kernel)
theorem k_504 : (Jvm.Cond.selects "PledgeMonitorModel" ({ cls := "PledgeMonitorModel", name := "copy", desc := "(II)V" } : Jvm.MethodName) ({ cls := "PledgeMonitorModel", name := "copy", desc := "(II)V" } : Jvm.MethodName)) ∈ gw := gw_at 49 (by decide +kernel) (by decide +kernel)
theorem k_505 : (Jvm.Cond.code ({ cls := "PledgeMonitorModel", name := "copy", desc := "(II)V" } : Jvm.MethodName) prog_11_method_19_code (4 : Nat) (Option.none : Option Jvm.ClassFile.FieldType)) ∈ gw := gw_at 971 (by decide +kernel) (by decide +kernel)
theorem k_506 : (Jvm.Cond.fieldLink "PledgeMonitorModel" (181 : Nat) "PledgeMonitorModel" "kept" "I") ∈ gw := gw_at 812 (by decide +kernel) (by decide +kernel)
theorem k_507 : (Jvm.Cond.methodLink "PledgeMonitorModel" (191 : Nat) ({ cls := "PledgeMonitorModel", name := "eventIn", desc := "(III)V" } : Jvm.MethodName)) ∈ gw := gw_at 990 (by decide +kernel) (by decide +kernel)
theorem k_508 : (Jvm.Cond.instanceMethod ({ cls := "PledgeMonitorModel", name := "eventIn", desc := "(III)V" } : Jvm.MethodName)) ∈ gw := gw_at 992 (by decide +kernel) (by decide +kernel)
theorem k_509 : (Jvm.Cond.selects "PledgeMonitorModel" ({ cls := "PledgeMonitorModel", name := "eventIn", desc := "(III)V" } : Jvm.MethodName) ({ cls := "PledgeMonitorModel", name := "eventIn", desc := "(III)V" } : Jvm.MethodName)) ∈ gw := gw_at 50 (by decide +kernel) (by decide +kernel)
theorem k_510 : (Jvm.Cond.code ({ cls := "PledgeMonitorModel", name := "eventIn", desc := "(III)V" } : Jvm.MethodName) prog_11_method_32_code (7 : Nat) (Option.none : Option Jvm.ClassFile.FieldType)) ∈ gw := gw_at 993 (by decide +kernel) (by decide +kernel)
theorem k_511 : (Jvm.Cond.methodLink "PledgeMonitorModel" (194 : Nat) ({ cls := "PledgeMonitorModel", name := "settle", desc := "()I" } : Jvm.MethodName)) ∈ gw := gw_at 1018 (by decide +kernel) (by decide +kernel)
theorem k_512 : (Jvm.Cond.instanceMethod ({ cls := "PledgeMonitorModel", name := "settle", desc := "()I" } : Jvm.MethodName)) ∈ gw := gw_at 1020 (by decide +kernel) (by decide +kernel)
theorem k_513 : (Jvm.Cond.selects "PledgeMonitorModel" ({ cls := "PledgeMonitorModel", name := "settle", desc := "()I" } : Jvm.MethodName) ({ cls := "PledgeMonitorModel", name := "settle", desc := "()I" } : Jvm.MethodName)) ∈ gw := gw_at 57 (by decide +kernel) (by decide +kernel)
theorem k_514 : (Jvm.Cond.code ({ cls := "PledgeMonitorModel", name := "settle", desc := "()I" } : Jvm.MethodName) prog_11_method_38_code (2 : Nat) (Option.some Jvm.ClassFile.FieldType.int)) ∈ gw := gw_at 1021 (by decide +kernel) (by decide +kernel)
theorem k_515 : (Jvm.Cond.methodLink "PledgeMonitorModel" (184 : Nat) ({ cls := "PledgeMonitorModel", name := "isParty", desc := "(I)Z" } : Jvm.MethodName)) ∈ gw := gw_at 984 (by decide +kernel) (by decide +kernel)
theorem k_516 : (Jvm.Cond.static ({ cls := "PledgeMonitorModel", name := "isParty", desc := "(I)Z" } : Jvm.MethodName)) ∈ gw := gw_at 985 (by decide +kernel) (by decide +kernel)
theorem k_517 : (Jvm.Cond.code ({ cls := "PledgeMonitorModel", name := "isParty", desc := "(I)Z" } : Jvm.MethodName) prog_11_method_39_code (1 : Nat) (Option.some Jvm.ClassFile.FieldType.boolean)) ∈ gw := gw_at 986 (by decide +kernel) (by decide +kernel)
theorem k_518 : (Jvm.Cond.methodLink "PledgeMonitorModel" (188 : Nat) ({ cls := "PledgeMonitorModel", name := "isKind", desc := "(I)Z" } : Jvm.MethodName)) ∈ gw := gw_at 987 (by decide +kernel) (by decide +kernel)
theorem k_519 : (Jvm.Cond.static ({ cls := "PledgeMonitorModel", name := "isKind", desc := "(I)Z" } : Jvm.MethodName)) ∈ gw := gw_at 988 (by decide +kernel) (by decide +kernel)
theorem k_520 : (Jvm.Cond.code ({ cls := "PledgeMonitorModel", name := "isKind", desc := "(I)Z" } : Jvm.MethodName) prog_11_method_40_code (1 : Nat) (Option.some Jvm.ClassFile.FieldType.boolean)) ∈ gw := gw_at 989 (by decide +kernel) (by decide +kernel)
theorem k_521 : (Jvm.Cond.methodLink "PledgeMonitorModel" (198 : Nat) ({ cls := "PledgeMonitorModel", name := "endIn", desc := "(I)V" } : Jvm.MethodName)) ∈ gw := gw_at 1026 (by decide +kernel) (by decide +kernel)
theorem k_522 : (Jvm.Cond.instanceMethod ({ cls := "PledgeMonitorModel", name := "endIn", desc := "(I)V" } : Jvm.MethodName)) ∈ gw := gw_at 1028 (by decide +kernel) (by decide +kernel)
theorem k_523 : (Jvm.Cond.selects "PledgeMonitorModel" ({ cls := "PledgeMonitorModel", name := "endIn", desc := "(I)V" } : Jvm.MethodName) ({ cls := "PledgeMonitorModel", name := "endIn", desc := "(I)V" } : Jvm.MethodName)) ∈ gw := gw_at 58 (by decide +kernel) (by decide +kernel)
theorem k_524 : (Jvm.Cond.code ({ cls := "PledgeMonitorModel", name := "endIn", desc := "(I)V" } : Jvm.MethodName) prog_11_method_34_code (4 : Nat) (Option.none : Option Jvm.ClassFile.FieldType)) ∈ gw := gw_at 1029 (by decide +kernel) (by decide +kernel)
theorem k_525 : (Jvm.Cond.methodLink "PledgeMonitorModel" (201 : Nat) ({ cls := "PledgeMonitorModel", name := "goes", desc := "(IIII)Z" } : Jvm.MethodName)) ∈ gw := gw_at 1074 (by decide +kernel) (by decide +kernel)
theorem k_526 : (Jvm.Cond.instanceMethod ({ cls := "PledgeMonitorModel", name := "goes", desc := "(IIII)Z" } : Jvm.MethodName)) ∈ gw := gw_at 1076 (by decide +kernel) (by decide +kernel)
theorem k_527 : (Jvm.Cond.selects "PledgeMonitorModel" ({ cls := "PledgeMonitorModel", name := "goes", desc := "(IIII)Z" } : Jvm.MethodName) ({ cls := "PledgeMonitorModel", name := "goes", desc := "(IIII)Z" } : Jvm.MethodName)) ∈ gw := gw_at 62 (by decide +kernel) (by decide +kernel)
theorem k_528 : (Jvm.Cond.code ({ cls := "PledgeMonitorModel", name := "goes", desc := "(IIII)Z" } : Jvm.MethodName) prog_11_method_50_code (8 : Nat) (Option.some Jvm.ClassFile.FieldType.boolean)) ∈ gw := gw_at 1077 (by decide +kernel) (by decide +kernel)
theorem k_529 : (Jvm.Cond.methodLink "PledgeMonitorModel" (205 : Nat) ({ cls := "PledgeMonitorModel", name := "hasOne", desc := "(III)Z" } : Jvm.MethodName)) ∈ gw := gw_at 1078 (by decide +kernel) (by decide +kernel)
theorem k_530 : (Jvm.Cond.instanceMethod ({ cls := "PledgeMonitorModel", name := "hasOne", desc := "(III)Z" } : Jvm.MethodName)) ∈ gw := gw_at 1080 (by decide +kernel) (by decide +kernel)
theorem k_531 : (Jvm.Cond.selects "PledgeMonitorModel" ({ cls := "PledgeMonitorModel", name := "hasOne", desc := "(III)Z" } : Jvm.MethodName) ({ cls := "PledgeMonitorModel", name := "hasOne", desc := "(III)Z" } : Jvm.MethodName)) ∈ gw := gw_at 63 (by decide +kernel) (by decide +kernel)
theorem k_532 : (Jvm.Cond.code ({ cls := "PledgeMonitorModel", name := "hasOne", desc := "(III)Z" } : Jvm.MethodName) prog_11_method_51_code (6 : Nat) (Option.some Jvm.ClassFile.FieldType.boolean)) ∈ gw := gw_at 1081 (by decide +kernel) (by decide +kernel)
theorem k_533 : (Jvm.Cond.methodLink "PledgeMonitorModel" (208 : Nat) ({ cls := "PledgeMonitorModel", name := "askCode", desc := "(II)I" } : Jvm.MethodName)) ∈ gw := gw_at 1066 (by decide +kernel) (by decide +kernel)
theorem k_534 : (Jvm.Cond.instanceMethod ({ cls := "PledgeMonitorModel", name := "askCode", desc := "(II)I" } : Jvm.MethodName)) ∈ gw := gw_at 1068 (by decide +kernel) (by decide +kernel)
theorem k_535 : (Jvm.Cond.selects "PledgeMonitorModel" ({ cls := "PledgeMonitorModel", name := "askCode", desc := "(II)I" } : Jvm.MethodName) ({ cls := "PledgeMonitorModel", name := "askCode", desc := "(II)I" } : Jvm.MethodName)) ∈ gw := gw_at 60 (by decide +kernel) (by decide +kernel)
theorem k_536 : (Jvm.Cond.code ({ cls := "PledgeMonitorModel", name := "askCode", desc := "(II)I" } : Jvm.MethodName) prog_11_method_53_code (3 : Nat) (Option.some Jvm.ClassFile.FieldType.int)) ∈ gw := gw_at 1069 (by decide +kernel) (by decide +kernel)
theorem k_537 : (Jvm.Cond.methodLink "PledgeMonitorModel" (211 : Nat) ({ cls := "PledgeMonitorModel", name := "firstCourse", desc := "(III)I" } : Jvm.MethodName)) ∈ gw := gw_at 1070 (by decide +kernel) (by decide +kernel)
theorem k_538 : (Jvm.Cond.instanceMethod ({ cls := "PledgeMonitorModel", name := "firstCourse", desc := "(III)I" } : Jvm.MethodName)) ∈ gw := gw_at 1072 (by decide +kernel) (by decide +kernel)
theorem k_539 : (Jvm.Cond.selects "PledgeMonitorModel" ({ cls := "PledgeMonitorModel", name := "firstCourse", desc := "(III)I" } : Jvm.MethodName) ({ cls := "PledgeMonitorModel", name := "firstCourse", desc := "(III)I" } : Jvm.MethodName)) ∈ gw := gw_at 61 (by decide +kernel) (by decide +kernel)
theorem k_540 : (Jvm.Cond.code ({ cls := "PledgeMonitorModel", name := "firstCourse", desc := "(III)I" } : Jvm.MethodName) prog_11_method_52_code (5 : Nat) (Option.some Jvm.ClassFile.FieldType.int)) ∈ gw := gw_at 1073 (by decide +kernel) (by decide +kernel)
theorem k_541 : (Jvm.Cond.methodLink "PledgeMonitor$Search" (39 : Nat) ({ cls := "PledgeMonitor$Agreement", name := "hasDutyDue", desc := "(LPledgeMonitor$State;I)Z" } : Jvm.MethodName)) ∈ gw := gw_at 759 (by decide +kernel) (by decide +kernel)
theorem k_542 : (Jvm.Cond.instanceMethod ({ cls := "PledgeMonitor$Agreement", name := "hasDutyDue", desc := "(LPledgeMonitor$State;I)Z" } : Jvm.MethodName)) ∈ gw := gw_at 760 (by decide +kernel) (by decide +kernel)
theorem k_543 : (Jvm.Cond.selects "PledgeMonitor$Agreement" ({ cls := "PledgeMonitor$Agreement", name := "hasDutyDue", desc := "(LPledgeMonitor$State;I)Z" } : Jvm.MethodName) ({ cls := "PledgeMonitor$Agreement", name := "hasDutyDue", desc := "(LPledgeMonitor$State;I)Z" } : Jvm.MethodName)) ∈ gw := gw_at 761 (by decide +kernel) (by decide +kernel)
theorem k_544 : (Jvm.Cond.code ({ cls := "PledgeMonitor$Agreement", name := "hasDutyDue", desc := "(LPledgeMonitor$State;I)Z" } : Jvm.MethodName) prog_2_method_4_code (4 : Nat) (Option.some Jvm.ClassFile.FieldType.boolean)) ∈ gw := gw_at 762 (by decide +kernel) (by decide +kernel)
theorem k_545 : (Jvm.Cond.methodLink "PledgeMonitor$Search" (49 : Nat) ({ cls := "PledgeMonitor$Runner", name := "endDay", desc := "(LPledgeMonitor$Agreement;LPledgeMonitor$State;)I" } : Jvm.MethodName)) ∈ gw := gw_at 765 (by decide +kernel) (by decide +kernel)
theorem k_546 : (Jvm.Cond.instanceMethod ({ cls := "PledgeMonitor$Runner", name := "endDay", desc := "(LPledgeMonitor$Agreement;LPledgeMonitor$State;)I" } : Jvm.MethodName)) ∈ gw := gw_at 732 (by decide +kernel) (by decide +kernel)
theorem k_547 : (Jvm.Cond.selects "PledgeMonitor$Runner" ({ cls := "PledgeMonitor$Runner", name := "endDay", desc := "(LPledgeMonitor$Agreement;LPledgeMonitor$State;)I" } : Jvm.MethodName) ({ cls := "PledgeMonitor$Runner", name := "endDay", desc := "(LPledgeMonitor$Agreement;LPledgeMonitor$State;)I" } : Jvm.MethodName)) ∈ gw := gw_at 733 (by decide +kernel) (by decide +kernel)
theorem k_548 : (Jvm.Cond.code ({ cls := "PledgeMonitor$Runner", name := "endDay", desc := "(LPledgeMonitor$Agreement;LPledgeMonitor$State;)I" } : Jvm.MethodName) prog_5_method_4_code (6 : Nat) (Option.some Jvm.ClassFile.FieldType.int)) ∈ gw := gw_at 734 (by decide +kernel) (by decide +kernel)
theorem k_549 : (Jvm.Cond.methodLink "PledgeMonitor$Search" (53 : Nat) ({ cls := "PledgeMonitor$Search", name := "firstCourse", desc := "(LPledgeMonitor$Agreement;LPledgeMonitor$State;II)I" } : Jvm.MethodName)) ∈ gw := gw_at 766 (by decide +kernel) (by decide +kernel)
theorem k_550 : (Jvm.Cond.instanceMethod ({ cls := "PledgeMonitor$Search", name := "firstCourse", desc := "(LPledgeMonitor$Agreement;LPledgeMonitor$State;II)I" } : Jvm.MethodName)) ∈ gw := gw_at 753 (by decide +kernel) (by decide +kernel)
theorem k_551 : (Jvm.Cond.selects "PledgeMonitor$Search" ({ cls := "PledgeMonitor$Search", name := "firstCourse", desc := "(LPledgeMonitor$Agreement;LPledgeMonitor$State;II)I" } : Jvm.MethodName) ({ cls := "PledgeMonitor$Search", name := "firstCourse", desc := "(LPledgeMonitor$Agreement;LPledgeMonitor$State;II)I" } : Jvm.MethodName)) ∈ gw := gw_at 27 (by decide +kernel) (by decide +kernel)
theorem k_552 : (Jvm.Cond.code ({ cls := "PledgeMonitor$Search", name := "firstCourse", desc := "(LPledgeMonitor$Agreement;LPledgeMonitor$State;II)I" } : Jvm.MethodName) prog_6_method_2_code (9 : Nat) (Option.some Jvm.ClassFile.FieldType.int)) ∈ gw := gw_at 754 (by decide +kernel) (by decide +kernel)
theorem k_553 : (Jvm.Cond.methodLink "PledgeMonitor$Search" (31 : Nat) ({ cls := "PledgeMonitor$Search", name := "isKeptByEndOfDay", desc := "(LPledgeMonitor$Agreement;LPledgeMonitor$State;II)Z" } : Jvm.MethodName)) ∈ gw := gw_at 755 (by decide +kernel) (by decide +kernel)
theorem k_554 : (Jvm.Cond.instanceMethod ({ cls := "PledgeMonitor$Search", name := "isKeptByEndOfDay", desc := "(LPledgeMonitor$Agreement;LPledgeMonitor$State;II)Z" } : Jvm.MethodName)) ∈ gw := gw_at 757 (by decide +kernel) (by decide +kernel)
theorem k_555 : (Jvm.Cond.selects "PledgeMonitor$Search" ({ cls := "PledgeMonitor$Search", name := "isKeptByEndOfDay", desc := "(LPledgeMonitor$Agreement;LPledgeMonitor$State;II)Z" } : Jvm.MethodName) ({ cls := "PledgeMonitor$Search", name := "isKeptByEndOfDay", desc := "(LPledgeMonitor$Agreement;LPledgeMonitor$State;II)Z" } : Jvm.MethodName)) ∈ gw := gw_at 28 (by decide +kernel) (by decide +kernel)
theorem k_556 : (Jvm.Cond.code ({ cls := "PledgeMonitor$Search", name := "isKeptByEndOfDay", desc := "(LPledgeMonitor$Agreement;LPledgeMonitor$State;II)Z" } : Jvm.MethodName) prog_6_method_3_code (6 : Nat) (Option.some Jvm.ClassFile.FieldType.boolean)) ∈ gw := gw_at 758 (by decide +kernel) (by decide +kernel)
theorem k_557 : (Jvm.Cond.methodLink "PledgeMonitor$Search" (35 : Nat) ({ cls := "PledgeMonitor$Search", name := "changes", desc := "(LPledgeMonitor$Agreement;LPledgeMonitor$State;LPledgeMonitor$State;II)Z" } : Jvm.MethodName)) ∈ gw := gw_at 767 (by decide +kernel) (by decide +kernel)
theorem k_558 : (Jvm.Cond.instanceMethod ({ cls := "PledgeMonitor$Search", name := "changes", desc := "(LPledgeMonitor$Agreement;LPledgeMonitor$State;LPledgeMonitor$State;II)Z" } : Jvm.MethodName)) ∈ gw := gw_at 769 (by decide +kernel) (by decide +kernel)
theorem k_559 : (Jvm.Cond.selects "PledgeMonitor$Search" ({ cls := "PledgeMonitor$Search", name := "changes", desc := "(LPledgeMonitor$Agreement;LPledgeMonitor$State;LPledgeMonitor$State;II)Z" } : Jvm.MethodName) ({ cls := "PledgeMonitor$Search", name := "changes", desc := "(LPledgeMonitor$Agreement;LPledgeMonitor$State;LPledgeMonitor$State;II)Z" } : Jvm.MethodName)) ∈ gw := gw_at 29 (by decide +kernel) (by decide +kernel)
theorem k_560 : (Jvm.Cond.code ({ cls := "PledgeMonitor$Search", name := "changes", desc := "(LPledgeMonitor$Agreement;LPledgeMonitor$State;LPledgeMonitor$State;II)Z" } : Jvm.MethodName) prog_6_method_4_code (6 : Nat) (Option.some Jvm.ClassFile.FieldType.boolean)) ∈ gw := gw_at 770 (by decide +kernel) (by decide +kernel)
theorem lf_Tx_9 : lk_f gw "PledgeMonitor$Text" 9 7 0 := ⟨_, _, _, rfl, by decide, k_4, rfl, zin7, rfl⟩
theorem lq_7_0 : lk_p "PledgeMonitor$Text" "<init>" 7 0 (.array .char) := ⟨_, _, _, zt7, rfl, by decide +kernel, Or.inr ⟨rfl, rfl, rfl⟩, zty7, znm7⟩
theorem lf_Tx_15 : lk_f gw "PledgeMonitor$Text" 15 7 1 := ⟨_, _, _, rfl, by decide, k_5, rfl, zin7, rfl⟩
theorem lq_7_1 {own mn : String} : lk_p own mn 7 1 .int := ⟨_, _, _, zt7, rfl, by decide +kernel, Or.inl rfl, zty7, znm7⟩
theorem lf_Tx_19 : lk_f gw "PledgeMonitor$Text" 19 7 2 := ⟨_, _, _, rfl, by decide, k_6, rfl, zin7, rfl⟩
theorem lq_7_2 {own mn : String} : lk_p own mn 7 2 .int := ⟨_, _, _, zt7, rfl, by decide +kernel, Or.inl rfl, zty7, znm7⟩
theorem lf_Tx_22 : lk_f gw "PledgeMonitor$Text" 22 7 3 := ⟨_, _, _, rfl, by decide, k_7, rfl, zin7, rfl⟩
theorem lq_7_3 {own mn : String} : lk_p own mn 7 3 .int := ⟨_, _, _, zt7, rfl, by decide +kernel, Or.inl rfl, zty7, znm7⟩
theorem lf_Tx_25 : lk_f gw "PledgeMonitor$Text" 25 7 4 := ⟨_, _, _, rfl, by decide, k_8, rfl, zin7, rfl⟩
theorem lq_7_4 {own mn : String} : lk_p own mn 7 4 .int := ⟨_, _, _, zt7, rfl, by decide +kernel, Or.inl rfl, zty7, znm7⟩
theorem lf_Tx_28 : lk_f gw "PledgeMonitor$Text" 28 7 5 := ⟨_, _, _, rfl, by decide, k_9, rfl, zin7, rfl⟩
theorem lq_7_5 {own mn : String} : lk_p own mn 7 5 .int := ⟨_, _, _, zt7, rfl, by decide +kernel, Or.inl rfl, zty7, znm7⟩
theorem lf_Cl_9 : lk_f gw "PledgeMonitor$Clause" 9 1 0 := ⟨_, _, _, rfl, by decide, k_11, rfl, zin1, rfl⟩
theorem lq_1_0 {own mn : String} : lk_p own mn 1 0 .int := ⟨_, _, _, zt1, rfl, by decide +kernel, Or.inl rfl, zty1, znm1⟩
theorem lf_Cl_15 : lk_f gw "PledgeMonitor$Clause" 15 1 1 := ⟨_, _, _, rfl, by decide, k_12, rfl, zin1, rfl⟩
theorem lq_1_1 {own mn : String} : lk_p own mn 1 1 .int := ⟨_, _, _, zt1, rfl, by decide +kernel, Or.inl rfl, zty1, znm1⟩
theorem lf_Cl_18 : lk_f gw "PledgeMonitor$Clause" 18 1 2 := ⟨_, _, _, rfl, by decide, k_13, rfl, zin1, rfl⟩
theorem lq_1_2 {own mn : String} : lk_p own mn 1 2 .int := ⟨_, _, _, zt1, rfl, by decide +kernel, Or.inl rfl, zty1, znm1⟩
theorem lf_Cl_21 : lk_f gw "PledgeMonitor$Clause" 21 1 3 := ⟨_, _, _, rfl, by decide, k_14, rfl, zin1, rfl⟩
theorem lq_1_3 {own mn : String} : lk_p own mn 1 3 .int := ⟨_, _, _, zt1, rfl, by decide +kernel, Or.inl rfl, zty1, znm1⟩
theorem lf_Cl_24 : lk_f gw "PledgeMonitor$Clause" 24 1 4 := ⟨_, _, _, rfl, by decide, k_15, rfl, zin1, rfl⟩
theorem lq_1_4 {own mn : String} : lk_p own mn 1 4 .boolean := ⟨_, _, _, zt1, rfl, by decide +kernel, Or.inl rfl, zty1, znm1⟩
theorem lf_Cl_28 : lk_f gw "PledgeMonitor$Clause" 28 1 5 := ⟨_, _, _, rfl, by decide, k_16, rfl, zin1, rfl⟩
theorem lq_1_5 {own mn : String} : lk_p own mn 1 5 .int := ⟨_, _, _, zt1, rfl, by decide +kernel, Or.inl rfl, zty1, znm1⟩
theorem lf_Cl_31 : lk_f gw "PledgeMonitor$Clause" 31 1 6 := ⟨_, _, _, rfl, by decide, k_17, rfl, zin1, rfl⟩
theorem lq_1_6 {own mn : String} : lk_p own mn 1 6 .int := ⟨_, _, _, zt1, rfl, by decide +kernel, Or.inl rfl, zty1, znm1⟩
theorem lf_Cl_34 : lk_f gw "PledgeMonitor$Clause" 34 1 7 := ⟨_, _, _, rfl, by decide, k_18, rfl, zin1, rfl⟩
theorem lq_1_7 {own mn : String} : lk_p own mn 1 7 .int := ⟨_, _, _, zt1, rfl, by decide +kernel, Or.inl rfl, zty1, znm1⟩
theorem lf_Cl_37 : lk_f gw "PledgeMonitor$Clause" 37 1 8 := ⟨_, _, _, rfl, by decide, k_19, rfl, zin1, rfl⟩
theorem lq_1_8 {own mn : String} : lk_p own mn 1 8 .int := ⟨_, _, _, zt1, rfl, by decide +kernel, Or.inl rfl, zty1, znm1⟩
theorem lf_Cl_40 : lk_f gw "PledgeMonitor$Clause" 40 1 9 := ⟨_, _, _, rfl, by decide, k_20, rfl, zin1, rfl⟩
theorem lq_1_9 {own mn : String} : lk_p own mn 1 9 .int := ⟨_, _, _, zt1, rfl, by decide +kernel, Or.inl rfl, zty1, znm1⟩
theorem lf_Cl_43 : lk_f gw "PledgeMonitor$Clause" 43 1 10 := ⟨_, _, _, rfl, by decide, k_21, rfl, zin1, rfl⟩
theorem lq_1_10 {own mn : String} : lk_p own mn 1 10 .int := ⟨_, _, _, zt1, rfl, by decide +kernel, Or.inl rfl, zty1, znm1⟩
theorem lf_Cl_46 : lk_f gw "PledgeMonitor$Clause" 46 1 11 := ⟨_, _, _, rfl, by decide, k_22, rfl, zin1, rfl⟩
theorem lq_1_11 {own mn : String} : lk_p own mn 1 11 .int := ⟨_, _, _, zt1, rfl, by decide +kernel, Or.inl rfl, zty1, znm1⟩
theorem lf_Cl_49 : lk_f gw "PledgeMonitor$Clause" 49 1 12 := ⟨_, _, _, rfl, by decide, k_23, rfl, zin1, rfl⟩
theorem lq_1_12 {own mn : String} : lk_p own mn 1 12 .int := ⟨_, _, _, zt1, rfl, by decide +kernel, Or.inl rfl, zty1, znm1⟩
theorem lf_Ag_11 : lk_f gw "PledgeMonitor$Agreement" 11 0 0 := ⟨_, _, _, rfl, by decide, k_26, rfl, zin0, rfl⟩
theorem lq_0_0 : lk_p "PledgeMonitor$Agreement" "<init>" 0 0 (.array (.object "PledgeMonitor$Clause")) := ⟨_, _, _, zt0, rfl, by decide +kernel, Or.inr ⟨rfl, rfl, rfl⟩, zty0, znm0⟩
theorem lf_Ag_17 : lk_f gw "PledgeMonitor$Agreement" 17 0 1 := ⟨_, _, _, rfl, by decide, k_27, rfl, zin0, rfl⟩
theorem lq_0_1 {own mn : String} : lk_p own mn 0 1 .int := ⟨_, _, _, zt0, rfl, by decide +kernel, Or.inl rfl, zty0, znm0⟩
theorem hn_Cl_init : zyCl_init.cls ≠ "java/lang/invoke/MethodHandle" ∧ zyCl_init.cls ≠ "java/lang/invoke/VarHandle" ∧ (parseMethodDescriptor zyCl_init.desc).map (fun d => d.parameters.length) = some 0 := by decide +kernel
theorem nk_Ag_21 : ("PledgeMonitor$Agreement", 21, zyCl_init, "PledgeMonitor") ∈ nwT := by decide +kernel
theorem lf_Te_9 : lk_f gw "PledgeMonitor$Terms" 9 6 0 := ⟨_, _, _, rfl, by decide, k_34, rfl, zin6, rfl⟩
theorem lq_6_0 : lk_p "PledgeMonitor$Terms" "<init>" 6 0 (.array .int) := ⟨_, _, _, zt6, rfl, by decide +kernel, Or.inr ⟨rfl, rfl, rfl⟩, zty6, znm6⟩
theorem lf_Te_15 : lk_f gw "PledgeMonitor$Terms" 15 6 1 := ⟨_, _, _, rfl, by decide, k_35, rfl, zin6, rfl⟩
theorem lq_6_1 {own mn : String} : lk_p own mn 6 1 .int := ⟨_, _, _, zt6, rfl, by decide +kernel, Or.inl rfl, zty6, znm6⟩
theorem lf_St_9 : lk_f gw "PledgeMonitor$State" 9 5 0 := ⟨_, _, _, rfl, by decide, k_37, rfl, zin5, rfl⟩
theorem lq_5_0 {own mn : String} : lk_p own mn 5 0 .int := ⟨_, _, _, zt5, rfl, by decide +kernel, Or.inl rfl, zty5, znm5⟩
theorem hn_Te_init : zyTe_init.cls ≠ "java/lang/invoke/MethodHandle" ∧ zyTe_init.cls ≠ "java/lang/invoke/VarHandle" ∧ (parseMethodDescriptor zyTe_init.desc).map (fun d => d.parameters.length) = some 0 := by decide +kernel
theorem nk_St_17 : ("PledgeMonitor$State", 17, zyTe_init, "PledgeMonitor") ∈ nwT := by decide +kernel
theorem lf_St_18 : lk_f gw "PledgeMonitor$State" 18 5 1 := ⟨_, _, _, rfl, by decide, k_43, rfl, zin5, rfl⟩
theorem lq_5_1 : lk_p "PledgeMonitor$State" "<init>" 5 1 (.object "PledgeMonitor$Terms") := ⟨_, _, _, zt5, rfl, by decide +kernel, Or.inr ⟨rfl, rfl, rfl⟩, zty5, znm5⟩
theorem lf_St_22 : lk_f gw "PledgeMonitor$State" 22 5 2 := ⟨_, _, _, rfl, by decide, k_44, rfl, zin5, rfl⟩
theorem lq_5_2 : lk_p "PledgeMonitor$State" "<init>" 5 2 (.object "PledgeMonitor$Terms") := ⟨_, _, _, zt5, rfl, by decide +kernel, Or.inr ⟨rfl, rfl, rfl⟩, zty5, znm5⟩
theorem lf_St_25 : lk_f gw "PledgeMonitor$State" 25 5 3 := ⟨_, _, _, rfl, by decide, k_45, rfl, zin5, rfl⟩
theorem lq_5_3 : lk_p "PledgeMonitor$State" "<init>" 5 3 (.object "PledgeMonitor$Terms") := ⟨_, _, _, zt5, rfl, by decide +kernel, Or.inr ⟨rfl, rfl, rfl⟩, zty5, znm5⟩
theorem lf_St_28 : lk_f gw "PledgeMonitor$State" 28 5 4 := ⟨_, _, _, rfl, by decide, k_46, rfl, zin5, rfl⟩
theorem lq_5_4 : lk_p "PledgeMonitor$State" "<init>" 5 4 (.array .int) := ⟨_, _, _, zt5, rfl, by decide +kernel, Or.inr ⟨rfl, rfl, rfl⟩, zty5, znm5⟩
theorem lf_St_32 : lk_f gw "PledgeMonitor$State" 32 5 5 := ⟨_, _, _, rfl, by decide, k_47, rfl, zin5, rfl⟩
theorem lq_5_5 : lk_p "PledgeMonitor$State" "<init>" 5 5 (.array .int) := ⟨_, _, _, zt5, rfl, by decide +kernel, Or.inr ⟨rfl, rfl, rfl⟩, zty5, znm5⟩
theorem lf_Hi_11 : lk_f gw "PledgeMonitor$History" 11 2 0 := ⟨_, _, _, rfl, by decide, k_50, rfl, zin2, rfl⟩
theorem lq_2_0 : lk_p "PledgeMonitor$History" "<init>" 2 0 (.array (.object "PledgeMonitor$State")) := ⟨_, _, _, zt2, rfl, by decide +kernel, Or.inr ⟨rfl, rfl, rfl⟩, zty2, znm2⟩
theorem lf_Hi_17 : lk_f gw "PledgeMonitor$History" 17 2 1 := ⟨_, _, _, rfl, by decide, k_51, rfl, zin2, rfl⟩
theorem lq_2_1 {own mn : String} : lk_p own mn 2 1 .int := ⟨_, _, _, zt2, rfl, by decide +kernel, Or.inl rfl, zty2, znm2⟩
theorem lf_Hi_21 : lk_f gw "PledgeMonitor$History" 21 2 2 := ⟨_, _, _, rfl, by decide, k_52, rfl, zin2, rfl⟩
theorem lq_2_2 {own mn : String} : lk_p own mn 2 2 .int := ⟨_, _, _, zt2, rfl, by decide +kernel, Or.inl rfl, zty2, znm2⟩
theorem hn_St_init : zySt_init.cls ≠ "java/lang/invoke/MethodHandle" ∧ zySt_init.cls ≠ "java/lang/invoke/VarHandle" ∧ (parseMethodDescriptor zySt_init.desc).map (fun d => d.parameters.length) = some 0 := by decide +kernel
theorem nk_Hi_24 : ("PledgeMonitor$History", 24, zySt_init, "PledgeMonitor") ∈ nwT := by decide +kernel
theorem lf_Ru_9 : lk_f gw "PledgeMonitor$Runner" 9 3 0 := ⟨_, _, _, rfl, by decide, k_59, rfl, zin3, rfl⟩
theorem lq_3_0 : lk_p "PledgeMonitor$Runner" "<init>" 3 0 (.array .boolean) := ⟨_, _, _, zt3, rfl, by decide +kernel, Or.inr ⟨rfl, rfl, rfl⟩, zty3, znm3⟩
theorem lf_Ru_15 : lk_f gw "PledgeMonitor$Runner" 15 3 1 := ⟨_, _, _, rfl, by decide, k_60, rfl, zin3, rfl⟩
theorem lq_3_1 : lk_p "PledgeMonitor$Runner" "<init>" 3 1 (.array .int) := ⟨_, _, _, zt3, rfl, by decide +kernel, Or.inr ⟨rfl, rfl, rfl⟩, zty3, znm3⟩
theorem lf_Ru_19 : lk_f gw "PledgeMonitor$Runner" 19 3 2 := ⟨_, _, _, rfl, by decide, k_61, rfl, zin3, rfl⟩
theorem lq_3_2 {own mn : String} : lk_p own mn 3 2 .int := ⟨_, _, _, zt3, rfl, by decide +kernel, Or.inl rfl, zty3, znm3⟩
theorem hn_Ru_init : zyRu_init.cls ≠ "java/lang/invoke/MethodHandle" ∧ zyRu_init.cls ≠ "java/lang/invoke/VarHandle" ∧ (parseMethodDescriptor zyRu_init.desc).map (fun d => d.parameters.length) = some 0 := by decide +kernel
theorem nk_Se_11 : ("PledgeMonitor$Search", 11, zyRu_init, "PledgeMonitor") ∈ nwT := by decide +kernel
theorem lf_Se_12 : lk_f gw "PledgeMonitor$Search" 12 4 0 := ⟨_, _, _, rfl, by decide, k_68, rfl, zin4, rfl⟩
theorem lq_4_0 : lk_p "PledgeMonitor$Search" "<init>" 4 0 (.object "PledgeMonitor$Runner") := ⟨_, _, _, zt4, rfl, by decide +kernel, Or.inr ⟨rfl, rfl, rfl⟩, zty4, znm4⟩
theorem lf_Se_20 : lk_f gw "PledgeMonitor$Search" 20 4 1 := ⟨_, _, _, rfl, by decide, k_70, rfl, zin4, rfl⟩
theorem lq_4_1 : lk_p "PledgeMonitor$Search" "<init>" 4 1 (.array (.object "PledgeMonitor$State")) := ⟨_, _, _, zt4, rfl, by decide +kernel, Or.inr ⟨rfl, rfl, rfl⟩, zty4, znm4⟩
theorem lf_Se_24 : lk_f gw "PledgeMonitor$Search" 24 4 2 := ⟨_, _, _, rfl, by decide, k_71, rfl, zin4, rfl⟩
theorem lq_4_2 : lk_p "PledgeMonitor$Search" "<init>" 4 2 (.array (.object "PledgeMonitor$State")) := ⟨_, _, _, zt4, rfl, by decide +kernel, Or.inr ⟨rfl, rfl, rfl⟩, zty4, znm4⟩
theorem lf_Se_27 : lk_f gw "PledgeMonitor$Search" 27 4 3 := ⟨_, _, _, rfl, by decide, k_72, rfl, zin4, rfl⟩
theorem lq_4_3 : lk_p "PledgeMonitor$Search" "<init>" 4 3 (.array (.object "PledgeMonitor$State")) := ⟨_, _, _, zt4, rfl, by decide +kernel, Or.inr ⟨rfl, rfl, rfl⟩, zty4, znm4⟩
theorem nk_Se_30 : ("PledgeMonitor$Search", 30, zySt_init, "PledgeMonitor") ∈ nwT := by decide +kernel
theorem hn_Tx_init : zyTx_init.cls ≠ "java/lang/invoke/MethodHandle" ∧ zyTx_init.cls ≠ "java/lang/invoke/VarHandle" ∧ (parseMethodDescriptor zyTx_init.desc).map (fun d => d.parameters.length) = some 0 := by decide +kernel
theorem nk_Pm_9 : ("PledgeMonitor", 9, zyTx_init, "PledgeMonitor") ∈ nwT := by decide +kernel
theorem lf_Pm_10 : lk_f gw "PledgeMonitor" 10 8 0 := ⟨_, _, _, rfl, by decide, k_79, rfl, zin8, rfl⟩
theorem lq_8_0 : lk_p "PledgeMonitor" "<init>" 8 0 (.object "PledgeMonitor$Text") := ⟨_, _, _, zt8, rfl, by decide +kernel, Or.inr ⟨rfl, rfl, rfl⟩, zty8, znm8⟩
theorem lf_Pm_16 : lk_f gw "PledgeMonitor" 16 8 1 := ⟨_, _, _, rfl, by decide, k_80, rfl, zin8, rfl⟩
theorem lq_8_1 {own mn : String} : lk_p own mn 8 1 .int := ⟨_, _, _, zt8, rfl, by decide +kernel, Or.inl rfl, zty8, znm8⟩
theorem lf_Pm_20 : lk_f gw "PledgeMonitor" 20 8 2 := ⟨_, _, _, rfl, by decide, k_81, rfl, zin8, rfl⟩
theorem lq_8_2 {own mn : String} : lk_p own mn 8 2 .boolean := ⟨_, _, _, zt8, rfl, by decide +kernel, Or.inl rfl, zty8, znm8⟩
theorem hn_Ag_init : zyAg_init.cls ≠ "java/lang/invoke/MethodHandle" ∧ zyAg_init.cls ≠ "java/lang/invoke/VarHandle" ∧ (parseMethodDescriptor zyAg_init.desc).map (fun d => d.parameters.length) = some 0 := by decide +kernel
theorem lf_Pm_27 : lk_f gw "PledgeMonitor" 27 8 3 := ⟨_, _, _, rfl, by decide, k_88, rfl, zin8, rfl⟩
theorem lq_8_3 {own mn : String} : lk_p own mn 8 3 (.object "PledgeMonitor$Agreement") := ⟨_, _, _, zt8, rfl, by decide +kernel, Or.inl rfl, zty8, znm8⟩
theorem lf_Pm_31 : lk_f gw "PledgeMonitor" 31 8 4 := ⟨_, _, _, rfl, by decide, k_89, rfl, zin8, rfl⟩
theorem lq_8_4 {own mn : String} : lk_p own mn 8 4 (.object "PledgeMonitor$Agreement") := ⟨_, _, _, zt8, rfl, by decide +kernel, Or.inl rfl, zty8, znm8⟩
theorem nk_Pm_36 : ("PledgeMonitor", 36, zySt_init, "PledgeMonitor") ∈ nwT := by decide +kernel
theorem lf_Pm_37 : lk_f gw "PledgeMonitor" 37 8 5 := ⟨_, _, _, rfl, by decide, k_91, rfl, zin8, rfl⟩
theorem lq_8_5 : lk_p "PledgeMonitor" "<init>" 8 5 (.object "PledgeMonitor$State") := ⟨_, _, _, zt8, rfl, by decide +kernel, Or.inr ⟨rfl, rfl, rfl⟩, zty8, znm8⟩
theorem lf_Pm_41 : lk_f gw "PledgeMonitor" 41 8 6 := ⟨_, _, _, rfl, by decide, k_92, rfl, zin8, rfl⟩
theorem lq_8_6 : lk_p "PledgeMonitor" "<init>" 8 6 (.object "PledgeMonitor$State") := ⟨_, _, _, zt8, rfl, by decide +kernel, Or.inr ⟨rfl, rfl, rfl⟩, zty8, znm8⟩
theorem hn_Hi_init : zyHi_init.cls ≠ "java/lang/invoke/MethodHandle" ∧ zyHi_init.cls ≠ "java/lang/invoke/VarHandle" ∧ (parseMethodDescriptor zyHi_init.desc).map (fun d => d.parameters.length) = some 0 := by decide +kernel
theorem lf_Pm_47 : lk_f gw "PledgeMonitor" 47 8 7 := ⟨_, _, _, rfl, by decide, k_99, rfl, zin8, rfl⟩
theorem lq_8_7 : lk_p "PledgeMonitor" "<init>" 8 7 (.object "PledgeMonitor$History") := ⟨_, _, _, zt8, rfl, by decide +kernel, Or.inr ⟨rfl, rfl, rfl⟩, zty8, znm8⟩
theorem hn_Se_init : zySe_init.cls ≠ "java/lang/invoke/MethodHandle" ∧ zySe_init.cls ≠ "java/lang/invoke/VarHandle" ∧ (parseMethodDescriptor zySe_init.desc).map (fun d => d.parameters.length) = some 0 := by decide +kernel
theorem lf_Pm_54 : lk_f gw "PledgeMonitor" 54 8 8 := ⟨_, _, _, rfl, by decide, k_106, rfl, zin8, rfl⟩
theorem lq_8_8 : lk_p "PledgeMonitor" "<init>" 8 8 (.object "PledgeMonitor$Search") := ⟨_, _, _, zt8, rfl, by decide +kernel, Or.inr ⟨rfl, rfl, rfl⟩, zty8, znm8⟩
theorem lf_Pm_58 : lk_f gw "PledgeMonitor" 58 4 0 := ⟨_, _, _, rfl, by decide, k_107, rfl, zin4, rfl⟩
theorem lf_Pm_62 : lk_f gw "PledgeMonitor" 62 8 9 := ⟨_, _, _, rfl, by decide, k_108, rfl, zin8, rfl⟩
theorem lq_8_9 : lk_p "PledgeMonitor" "<init>" 8 9 (.object "PledgeMonitor$Runner") := ⟨_, _, _, zt8, rfl, by decide +kernel, Or.inr ⟨rfl, rfl, rfl⟩, zty8, znm8⟩
theorem hs_Tx_characterOf : zyTx_characterOf.cls = "PledgeMonitor$Text" ∧ zyTx_characterOf.cls ≠ "java/lang/invoke/MethodHandle" ∧ zyTx_characterOf.cls ≠ "java/lang/invoke/VarHandle" ∧ (parseMethodDescriptor zyTx_characterOf.desc).map (fun d => d.parameters.length) = some 2 := by decide +kernel
theorem gs_Tx_31 : GoodIn gw (wsS "PledgeMonitor$Text" 31 zyTx_characterOf (ws_Tx_characterOf)) := gd_S k_109 k_110 k_76 k_111
theorem hv_Tx_put : zyTx_put.cls = zR7 ∧ zyTx_put.cls ≠ "java/lang/invoke/MethodHandle" ∧ zyTx_put.cls ≠ "java/lang/invoke/VarHandle" ∧ (parseMethodDescriptor zyTx_put.desc).map (fun d => d.parameters.length) = some 1 := by decide +kernel
theorem gv_Pm_63 : GoodIn gw (wsV "PledgeMonitor" 63 zR7 zyTx_put (ws_Tx_put)) := gd_V k_112 k_113 k_114 k_76 k_115
theorem lf_Pm_67 : lk_f gw "PledgeMonitor" 67 7 1 := ⟨_, _, _, rfl, by decide, k_116, rfl, zin7, rfl⟩
theorem lf_Pm_70 : lk_f gw "PledgeMonitor" 70 3 0 := ⟨_, _, _, rfl, by decide, k_117, rfl, zin3, rfl⟩
theorem hv_Tx_isNext : zyTx_isNext.cls = zR7 ∧ zyTx_isNext.cls ≠ "java/lang/invoke/MethodHandle" ∧ zyTx_isNext.cls ≠ "java/lang/invoke/VarHandle" ∧ (parseMethodDescriptor zyTx_isNext.desc).map (fun d => d.parameters.length) = some 1 := by decide +kernel
theorem gv_Tx_130 : GoodIn gw (wsV "PledgeMonitor$Text" 130 zR7 zyTx_isNext (ws_Tx_isNext)) := gd_V k_118 k_119 k_120 k_76 k_121
theorem hv_Tx_takeFrom : zyTx_takeFrom.cls = zR7 ∧ zyTx_takeFrom.cls ≠ "java/lang/invoke/MethodHandle" ∧ zyTx_takeFrom.cls ≠ "java/lang/invoke/VarHandle" ∧ (parseMethodDescriptor zyTx_takeFrom.desc).map (fun d => d.parameters.length) = some 2 := by decide +kernel
theorem gv_Tx_133 : GoodIn gw (wsV "PledgeMonitor$Text" 133 zR7 zyTx_takeFrom (ws_Tx_takeFrom)) := gd_V k_122 k_123 k_124 k_76 k_125
theorem hv_Tx_takeDigit : zyTx_takeDigit.cls = zR7 ∧ zyTx_takeDigit.cls ≠ "java/lang/invoke/MethodHandle" ∧ zyTx_takeDigit.cls ≠ "java/lang/invoke/VarHandle" ∧ (parseMethodDescriptor zyTx_takeDigit.desc).map (fun d => d.parameters.length) = some 0 := by decide +kernel
theorem gv_Tx_85 : GoodIn gw (wsV "PledgeMonitor$Text" 85 zR7 zyTx_takeDigit (ws_Tx_takeDigit)) := gd_V k_126 k_127 k_128 k_76 k_129
theorem lf_Tx_88 : lk_f gw "PledgeMonitor$Text" 88 1 3 := ⟨_, _, _, rfl, by decide, k_130, rfl, zin1, rfl⟩
theorem hv_Tx_takes : zyTx_takes.cls = zR7 ∧ zyTx_takes.cls ≠ "java/lang/invoke/MethodHandle" ∧ zyTx_takes.cls ≠ "java/lang/invoke/VarHandle" ∧ (parseMethodDescriptor zyTx_takes.desc).map (fun d => d.parameters.length) = some 1 := by decide +kernel
theorem gv_Tx_52 : GoodIn gw (wsV "PledgeMonitor$Text" 52 zR7 zyTx_takes (ws_Tx_takes)) := gd_V k_131 k_132 k_133 k_76 k_134
theorem lf_Tx_65 : lk_f gw "PledgeMonitor$Text" 65 1 0 := ⟨_, _, _, rfl, by decide, k_135, rfl, zin1, rfl⟩
theorem hv_Tx_takeParty : zyTx_takeParty.cls = zR7 ∧ zyTx_takeParty.cls ≠ "java/lang/invoke/MethodHandle" ∧ zyTx_takeParty.cls ≠ "java/lang/invoke/VarHandle" ∧ (parseMethodDescriptor zyTx_takeParty.desc).map (fun d => d.parameters.length) = some 0 := by decide +kernel
theorem gv_Tx_73 : GoodIn gw (wsV "PledgeMonitor$Text" 73 zR7 zyTx_takeParty (ws_Tx_takeParty)) := gd_V k_136 k_137 k_138 k_76 k_139
theorem lf_Tx_76 : lk_f gw "PledgeMonitor$Text" 76 1 1 := ⟨_, _, _, rfl, by decide, k_140, rfl, zin1, rfl⟩
theorem hv_Tx_takeKind : zyTx_takeKind.cls = zR7 ∧ zyTx_takeKind.cls ≠ "java/lang/invoke/MethodHandle" ∧ zyTx_takeKind.cls ≠ "java/lang/invoke/VarHandle" ∧ (parseMethodDescriptor zyTx_takeKind.desc).map (fun d => d.parameters.length) = some 0 := by decide +kernel
theorem gv_Tx_79 : GoodIn gw (wsV "PledgeMonitor$Text" 79 zR7 zyTx_takeKind (ws_Tx_takeKind)) := gd_V k_141 k_142 k_143 k_76 k_144
theorem lf_Tx_82 : lk_f gw "PledgeMonitor$Text" 82 1 2 := ⟨_, _, _, rfl, by decide, k_145, rfl, zin1, rfl⟩
theorem hv_Tx_readTriggerNumber : zyTx_readTriggerNumber.cls = zR7 ∧ zyTx_readTriggerNumber.cls ≠ "java/lang/invoke/MethodHandle" ∧ zyTx_readTriggerNumber.cls ≠ "java/lang/invoke/VarHandle" ∧ (parseMethodDescriptor zyTx_readTriggerNumber.desc).map (fun d => d.parameters.length) = some 1 := by decide +kernel
theorem gv_Tx_70 : GoodIn gw (wsV "PledgeMonitor$Text" 70 zR7 zyTx_readTriggerNumber (ws_Tx_readTriggerNumber)) := gd_V k_146 k_147 k_148 k_76 k_149
theorem lf_Tx_91 : lk_f gw "PledgeMonitor$Text" 91 1 4 := ⟨_, _, _, rfl, by decide, k_150, rfl, zin1, rfl⟩
theorem hv_Tx_readTwoParties : zyTx_readTwoParties.cls = zR7 ∧ zyTx_readTwoParties.cls ≠ "java/lang/invoke/MethodHandle" ∧ zyTx_readTwoParties.cls ≠ "java/lang/invoke/VarHandle" ∧ (parseMethodDescriptor zyTx_readTwoParties.desc).map (fun d => d.parameters.length) = some 0 := by decide +kernel
theorem gv_Tx_95 : GoodIn gw (wsV "PledgeMonitor$Text" 95 zR7 zyTx_readTwoParties (ws_Tx_readTwoParties)) := gd_V k_151 k_152 k_153 k_76 k_154
theorem hv_Tx_readDigit : zyTx_readDigit.cls = zR7 ∧ zyTx_readDigit.cls ≠ "java/lang/invoke/MethodHandle" ∧ zyTx_readDigit.cls ≠ "java/lang/invoke/VarHandle" ∧ (parseMethodDescriptor zyTx_readDigit.desc).map (fun d => d.parameters.length) = some 0 := by decide +kernel
theorem gv_Tx_99 : GoodIn gw (wsV "PledgeMonitor$Text" 99 zR7 zyTx_readDigit (ws_Tx_readDigit)) := gd_V k_155 k_156 k_157 k_76 k_158
theorem lf_Tx_102 : lk_f gw "PledgeMonitor$Text" 102 1 5 := ⟨_, _, _, rfl, by decide, k_159, rfl, zin1, rfl⟩
theorem lf_Tx_105 : lk_f gw "PledgeMonitor$Text" 105 1 6 := ⟨_, _, _, rfl, by decide, k_160, rfl, zin1, rfl⟩
theorem lf_Tx_108 : lk_f gw "PledgeMonitor$Text" 108 1 7 := ⟨_, _, _, rfl, by decide, k_161, rfl, zin1, rfl⟩
theorem lf_Tx_120 : lk_f gw "PledgeMonitor$Text" 120 1 8 := ⟨_, _, _, rfl, by decide, k_162, rfl, zin1, rfl⟩
theorem lf_Tx_111 : lk_f gw "PledgeMonitor$Text" 111 1 9 := ⟨_, _, _, rfl, by decide, k_163, rfl, zin1, rfl⟩
theorem lf_Tx_114 : lk_f gw "PledgeMonitor$Text" 114 1 10 := ⟨_, _, _, rfl, by decide, k_164, rfl, zin1, rfl⟩
theorem lf_Tx_117 : lk_f gw "PledgeMonitor$Text" 117 1 11 := ⟨_, _, _, rfl, by decide, k_165, rfl, zin1, rfl⟩
theorem lf_Tx_129 : lk_f gw "PledgeMonitor$Text" 129 1 12 := ⟨_, _, _, rfl, by decide, k_166, rfl, zin1, rfl⟩
theorem hv_Tx_readTermSign : zyTx_readTermSign.cls = zR7 ∧ zyTx_readTermSign.cls ≠ "java/lang/invoke/MethodHandle" ∧ zyTx_readTermSign.cls ≠ "java/lang/invoke/VarHandle" ∧ (parseMethodDescriptor zyTx_readTermSign.desc).map (fun d => d.parameters.length) = some 1 := by decide +kernel
theorem gv_Tx_123 : GoodIn gw (wsV "PledgeMonitor$Text" 123 zR7 zyTx_readTermSign (ws_Tx_readTermSign)) := gd_V k_167 k_168 k_169 k_76 k_170
theorem hv_Tx_readPartyAndKind : zyTx_readPartyAndKind.cls = zR7 ∧ zyTx_readPartyAndKind.cls ≠ "java/lang/invoke/MethodHandle" ∧ zyTx_readPartyAndKind.cls ≠ "java/lang/invoke/VarHandle" ∧ (parseMethodDescriptor zyTx_readPartyAndKind.desc).map (fun d => d.parameters.length) = some 0 := by decide +kernel
theorem gv_Tx_126 : GoodIn gw (wsV "PledgeMonitor$Text" 126 zR7 zyTx_readPartyAndKind (ws_Tx_readPartyAndKind)) := gd_V k_171 k_172 k_173 k_76 k_174
theorem hv_Tx_readTrigger : zyTx_readTrigger.cls = zR7 ∧ zyTx_readTrigger.cls ≠ "java/lang/invoke/MethodHandle" ∧ zyTx_readTrigger.cls ≠ "java/lang/invoke/VarHandle" ∧ (parseMethodDescriptor zyTx_readTrigger.desc).map (fun d => d.parameters.length) = some 1 := by decide +kernel
theorem gv_Tx_56 : GoodIn gw (wsV "PledgeMonitor$Text" 56 zR7 zyTx_readTrigger (ws_Tx_readTrigger)) := gd_V k_175 k_176 k_177 k_76 k_178
theorem hv_Tx_readCondition : zyTx_readCondition.cls = zR7 ∧ zyTx_readCondition.cls ≠ "java/lang/invoke/MethodHandle" ∧ zyTx_readCondition.cls ≠ "java/lang/invoke/VarHandle" ∧ (parseMethodDescriptor zyTx_readCondition.desc).map (fun d => d.parameters.length) = some 1 := by decide +kernel
theorem gv_Tx_59 : GoodIn gw (wsV "PledgeMonitor$Text" 59 zR7 zyTx_readCondition (ws_Tx_readCondition)) := gd_V k_179 k_180 k_181 k_76 k_182
theorem hv_Tx_readAction : zyTx_readAction.cls = zR7 ∧ zyTx_readAction.cls ≠ "java/lang/invoke/MethodHandle" ∧ zyTx_readAction.cls ≠ "java/lang/invoke/VarHandle" ∧ (parseMethodDescriptor zyTx_readAction.desc).map (fun d => d.parameters.length) = some 1 := by decide +kernel
theorem gv_Tx_62 : GoodIn gw (wsV "PledgeMonitor$Text" 62 zR7 zyTx_readAction (ws_Tx_readAction)) := gd_V k_183 k_184 k_185 k_76 k_186
theorem lf_Ag_66 : lk_f gw "PledgeMonitor$Agreement" 66 1 8 := ⟨_, _, _, rfl, by decide, k_187, rfl, zin1, rfl⟩
theorem lf_Ag_72 : lk_f gw "PledgeMonitor$Agreement" 72 1 0 := ⟨_, _, _, rfl, by decide, k_188, rfl, zin1, rfl⟩
theorem lf_Ag_75 : lk_f gw "PledgeMonitor$Agreement" 75 1 3 := ⟨_, _, _, rfl, by decide, k_189, rfl, zin1, rfl⟩
theorem lf_Ag_69 : lk_f gw "PledgeMonitor$Agreement" 69 1 12 := ⟨_, _, _, rfl, by decide, k_190, rfl, zin1, rfl⟩
theorem hv_Ag_liesOnRound : zyAg_liesOnRound.cls = zR0 ∧ zyAg_liesOnRound.cls ≠ "java/lang/invoke/MethodHandle" ∧ zyAg_liesOnRound.cls ≠ "java/lang/invoke/VarHandle" ∧ (parseMethodDescriptor zyAg_liesOnRound.desc).map (fun d => d.parameters.length) = some 1 := by decide +kernel
theorem gv_Ag_62 : GoodIn gw (wsV "PledgeMonitor$Agreement" 62 zR0 zyAg_liesOnRound (ws_Ag_liesOnRound)) := gd_V k_191 k_192 k_193 k_84 k_194
theorem hv_Ag_refersRightly : zyAg_refersRightly.cls = zR0 ∧ zyAg_refersRightly.cls ≠ "java/lang/invoke/MethodHandle" ∧ zyAg_refersRightly.cls ≠ "java/lang/invoke/VarHandle" ∧ (parseMethodDescriptor zyAg_refersRightly.desc).map (fun d => d.parameters.length) = some 1 := by decide +kernel
theorem gv_Ag_58 : GoodIn gw (wsV "PledgeMonitor$Agreement" 58 zR0 zyAg_refersRightly (ws_Ag_refersRightly)) := gd_V k_195 k_196 k_197 k_84 k_198
theorem lf_Tx_35 : lk_f gw "PledgeMonitor$Text" 35 0 0 := ⟨_, _, _, rfl, by decide, k_199, rfl, zin0, rfl⟩
theorem hv_Tx_readClause : zyTx_readClause.cls = zR7 ∧ zyTx_readClause.cls ≠ "java/lang/invoke/MethodHandle" ∧ zyTx_readClause.cls ≠ "java/lang/invoke/VarHandle" ∧ (parseMethodDescriptor zyTx_readClause.desc).map (fun d => d.parameters.length) = some 1 := by decide +kernel
theorem gv_Tx_41 : GoodIn gw (wsV "PledgeMonitor$Text" 41 zR7 zyTx_readClause (ws_Tx_readClause)) := gd_V k_200 k_201 k_202 k_76 k_203
theorem lf_Tx_45 : lk_f gw "PledgeMonitor$Text" 45 0 1 := ⟨_, _, _, rfl, by decide, k_204, rfl, zin0, rfl⟩
theorem hv_Ag_faultOfReferences : zyAg_faultOfReferences.cls = zR0 ∧ zyAg_faultOfReferences.cls ≠ "java/lang/invoke/MethodHandle" ∧ zyAg_faultOfReferences.cls ≠ "java/lang/invoke/VarHandle" ∧ (parseMethodDescriptor zyAg_faultOfReferences.desc).map (fun d => d.parameters.length) = some 0 := by decide +kernel
theorem gv_Tx_48 : GoodIn gw (wsV "PledgeMonitor$Text" 48 zR0 zyAg_faultOfReferences (ws_Ag_faultOfReferences)) := gd_V k_205 k_206 k_207 k_84 k_208
theorem lf_St_35 : lk_f gw "PledgeMonitor$State" 35 6 1 := ⟨_, _, _, rfl, by decide, k_209, rfl, zin6, rfl⟩
theorem hv_St_debtOf : zySt_debtOf.cls = zR5 ∧ zySt_debtOf.cls ≠ "java/lang/invoke/MethodHandle" ∧ zySt_debtOf.cls ≠ "java/lang/invoke/VarHandle" ∧ (parseMethodDescriptor zySt_debtOf.desc).map (fun d => d.parameters.length) = some 2 := by decide +kernel
theorem gv_Cl_52 : GoodIn gw (wsV "PledgeMonitor$Clause" 52 zR5 zySt_debtOf (ws_St_debtOf)) := gd_V k_210 k_211 k_212 k_54 k_213
theorem lf_Ru_114 : lk_f gw "PledgeMonitor$Runner" 114 1 8 := ⟨_, _, _, rfl, by decide, k_214, rfl, zin1, rfl⟩
theorem lf_Ru_76 : lk_f gw "PledgeMonitor$Runner" 76 5 1 := ⟨_, _, _, rfl, by decide, k_215, rfl, zin5, rfl⟩
theorem lf_Ru_79 : lk_f gw "PledgeMonitor$Runner" 79 5 0 := ⟨_, _, _, rfl, by decide, k_216, rfl, zin5, rfl⟩
theorem lf_Ru_117 : lk_f gw "PledgeMonitor$Runner" 117 1 12 := ⟨_, _, _, rfl, by decide, k_217, rfl, zin1, rfl⟩
theorem hv_Ru_businessDay : zyRu_businessDay.cls = zR3 ∧ zyRu_businessDay.cls ≠ "java/lang/invoke/MethodHandle" ∧ zyRu_businessDay.cls ≠ "java/lang/invoke/VarHandle" ∧ (parseMethodDescriptor zyRu_businessDay.desc).map (fun d => d.parameters.length) = some 2 := by decide +kernel
theorem gv_Ru_120 : GoodIn gw (wsV "PledgeMonitor$Runner" 120 zR3 zyRu_businessDay (ws_Ru_businessDay)) := gd_V k_218 k_219 k_220 k_65 k_221
theorem hv_Te_add : zyTe_add.cls = zR6 ∧ zyTe_add.cls ≠ "java/lang/invoke/MethodHandle" ∧ zyTe_add.cls ≠ "java/lang/invoke/VarHandle" ∧ (parseMethodDescriptor zyTe_add.desc).map (fun d => d.parameters.length) = some 2 := by decide +kernel
theorem gv_Ru_123 : GoodIn gw (wsV "PledgeMonitor$Runner" 123 zR6 zyTe_add (ws_Te_add)) := gd_V k_222 k_223 k_224 k_40 k_225
theorem lf_Ru_126 : lk_f gw "PledgeMonitor$Runner" 126 1 9 := ⟨_, _, _, rfl, by decide, k_226, rfl, zin1, rfl⟩
theorem lf_Ru_129 : lk_f gw "PledgeMonitor$Runner" 129 1 11 := ⟨_, _, _, rfl, by decide, k_227, rfl, zin1, rfl⟩
theorem hv_St_addDebt : zySt_addDebt.cls = zR5 ∧ zySt_addDebt.cls ≠ "java/lang/invoke/MethodHandle" ∧ zySt_addDebt.cls ≠ "java/lang/invoke/VarHandle" ∧ (parseMethodDescriptor zySt_addDebt.desc).map (fun d => d.parameters.length) = some 3 := by decide +kernel
theorem gv_Ru_132 : GoodIn gw (wsV "PledgeMonitor$Runner" 132 zR5 zySt_addDebt (ws_St_addDebt)) := gd_V k_228 k_229 k_230 k_54 k_231
theorem lf_Ru_59 : lk_f gw "PledgeMonitor$Runner" 59 5 3 := ⟨_, _, _, rfl, by decide, k_232, rfl, zin5, rfl⟩
theorem lf_Ru_49 : lk_f gw "PledgeMonitor$Runner" 49 5 2 := ⟨_, _, _, rfl, by decide, k_233, rfl, zin5, rfl⟩
theorem hv_Ru_await : zyRu_await.cls = zR3 ∧ zyRu_await.cls ≠ "java/lang/invoke/MethodHandle" ∧ zyRu_await.cls ≠ "java/lang/invoke/VarHandle" ∧ (parseMethodDescriptor zyRu_await.desc).map (fun d => d.parameters.length) = some 1 := by decide +kernel
theorem gv_Ru_37 : GoodIn gw (wsV "PledgeMonitor$Runner" 37 zR3 zyRu_await (ws_Ru_await)) := gd_V k_234 k_235 k_236 k_65 k_237
theorem lf_Ru_28 : lk_f gw "PledgeMonitor$Runner" 28 0 0 := ⟨_, _, _, rfl, by decide, k_238, rfl, zin0, rfl⟩
theorem hv_Cl_holds : zyCl_holds.cls = zR1 ∧ zyCl_holds.cls ≠ "java/lang/invoke/MethodHandle" ∧ zyCl_holds.cls ≠ "java/lang/invoke/VarHandle" ∧ (parseMethodDescriptor zyCl_holds.desc).map (fun d => d.parameters.length) = some 1 := by decide +kernel
theorem gv_Ru_106 : GoodIn gw (wsV "PledgeMonitor$Runner" 106 zR1 zyCl_holds (ws_Cl_holds)) := gd_V k_239 k_240 k_241 k_29 k_242
theorem hv_Ru_act : zyRu_act.cls = zR3 ∧ zyRu_act.cls ≠ "java/lang/invoke/MethodHandle" ∧ zyRu_act.cls ≠ "java/lang/invoke/VarHandle" ∧ (parseMethodDescriptor zyRu_act.desc).map (fun d => d.parameters.length) = some 3 := by decide +kernel
theorem gv_Ru_110 : GoodIn gw (wsV "PledgeMonitor$Runner" 110 zR3 zyRu_act (ws_Ru_act)) := gd_V k_243 k_244 k_245 k_65 k_246
theorem lf_Ru_23 : lk_f gw "PledgeMonitor$Runner" 23 0 1 := ⟨_, _, _, rfl, by decide, k_247, rfl, zin0, rfl⟩
theorem hv_Ru_runWaiting : zyRu_runWaiting.cls = zR3 ∧ zyRu_runWaiting.cls ≠ "java/lang/invoke/MethodHandle" ∧ zyRu_runWaiting.cls ≠ "java/lang/invoke/VarHandle" ∧ (parseMethodDescriptor zyRu_runWaiting.desc).map (fun d => d.parameters.length) = some 2 := by decide +kernel
theorem gv_Ru_41 : GoodIn gw (wsV "PledgeMonitor$Runner" 41 zR3 zyRu_runWaiting (ws_Ru_runWaiting)) := gd_V k_248 k_249 k_250 k_65 k_251
theorem lf_Ru_32 : lk_f gw "PledgeMonitor$Runner" 32 1 0 := ⟨_, _, _, rfl, by decide, k_252, rfl, zin1, rfl⟩
theorem hv_Te_copyFrom : zyTe_copyFrom.cls = zR6 ∧ zyTe_copyFrom.cls ≠ "java/lang/invoke/MethodHandle" ∧ zyTe_copyFrom.cls ≠ "java/lang/invoke/VarHandle" ∧ (parseMethodDescriptor zyTe_copyFrom.desc).map (fun d => d.parameters.length) = some 1 := by decide +kernel
theorem gv_St_38 : GoodIn gw (wsV "PledgeMonitor$State" 38 zR6 zyTe_copyFrom (ws_Te_copyFrom)) := gd_V k_257 k_258 k_259 k_40 k_260
theorem hv_Hi_forget : zyHi_forget.cls = zR2 ∧ zyHi_forget.cls ≠ "java/lang/invoke/MethodHandle" ∧ zyHi_forget.cls ≠ "java/lang/invoke/VarHandle" ∧ (parseMethodDescriptor zyHi_forget.desc).map (fun d => d.parameters.length) = some 0 := by decide +kernel
theorem gv_Pm_97 : GoodIn gw (wsV "PledgeMonitor" 97 zR2 zyHi_forget (ws_Hi_forget)) := gd_V k_262 k_263 k_264 k_95 k_265
theorem lf_Ag_22 : lk_f gw "PledgeMonitor$Agreement" 22 6 1 := ⟨_, _, _, rfl, by decide, k_266, rfl, zin6, rfl⟩
theorem hv_Te_clauseAt : zyTe_clauseAt.cls = zR6 ∧ zyTe_clauseAt.cls ≠ "java/lang/invoke/MethodHandle" ∧ zyTe_clauseAt.cls ≠ "java/lang/invoke/VarHandle" ∧ (parseMethodDescriptor zyTe_clauseAt.desc).map (fun d => d.parameters.length) = some 1 := by decide +kernel
theorem gv_Ag_25 : GoodIn gw (wsV "PledgeMonitor$Agreement" 25 zR6 zyTe_clauseAt (ws_Te_clauseAt)) := gd_V k_267 k_268 k_269 k_40 k_270
theorem hv_Cl_isFor : zyCl_isFor.cls = zR1 ∧ zyCl_isFor.cls ≠ "java/lang/invoke/MethodHandle" ∧ zyCl_isFor.cls ≠ "java/lang/invoke/VarHandle" ∧ (parseMethodDescriptor zyCl_isFor.desc).map (fun d => d.parameters.length) = some 2 := by decide +kernel
theorem gv_Ag_29 : GoodIn gw (wsV "PledgeMonitor$Agreement" 29 zR1 zyCl_isFor (ws_Cl_isFor)) := gd_V k_271 k_272 k_273 k_29 k_274
theorem gv_Te_27 : GoodIn gw (wsV "PledgeMonitor$Terms" 27 zR6 zyTe_clauseAt (ws_Te_clauseAt)) := gd_V k_275 k_268 k_269 k_40 k_270
theorem hv_Te_dayAt : zyTe_dayAt.cls = zR6 ∧ zyTe_dayAt.cls ≠ "java/lang/invoke/MethodHandle" ∧ zyTe_dayAt.cls ≠ "java/lang/invoke/VarHandle" ∧ (parseMethodDescriptor zyTe_dayAt.desc).map (fun d => d.parameters.length) = some 1 := by decide +kernel
theorem gv_Te_19 : GoodIn gw (wsV "PledgeMonitor$Terms" 19 zR6 zyTe_dayAt (ws_Te_dayAt)) := gd_V k_276 k_277 k_278 k_40 k_279
theorem hv_Cl_isOn : zyCl_isOn.cls = zR1 ∧ zyCl_isOn.cls ≠ "java/lang/invoke/MethodHandle" ∧ zyCl_isOn.cls ≠ "java/lang/invoke/VarHandle" ∧ (parseMethodDescriptor zyCl_isOn.desc).map (fun d => d.parameters.length) = some 2 := by decide +kernel
theorem gv_Ru_103 : GoodIn gw (wsV "PledgeMonitor$Runner" 103 zR1 zyCl_isOn (ws_Cl_isOn)) := gd_V k_280 k_281 k_282 k_29 k_283
theorem gv_Ru_96 : GoodIn gw (wsV "PledgeMonitor$Runner" 96 zR1 zyCl_isFor (ws_Cl_isFor)) := gd_V k_284 k_272 k_273 k_29 k_274
theorem hv_Te_countUntil : zyTe_countUntil.cls = zR6 ∧ zyTe_countUntil.cls ≠ "java/lang/invoke/MethodHandle" ∧ zyTe_countUntil.cls ≠ "java/lang/invoke/VarHandle" ∧ (parseMethodDescriptor zyTe_countUntil.desc).map (fun d => d.parameters.length) = some 2 := by decide +kernel
theorem gv_Ru_82 : GoodIn gw (wsV "PledgeMonitor$Runner" 82 zR6 zyTe_countUntil (ws_Te_countUntil)) := gd_V k_285 k_286 k_287 k_40 k_288
theorem lf_Ru_86 : lk_f gw "PledgeMonitor$Runner" 86 5 5 := ⟨_, _, _, rfl, by decide, k_289, rfl, zin5, rfl⟩
theorem hv_Ru_awaitAllOn : zyRu_awaitAllOn.cls = zR3 ∧ zyRu_awaitAllOn.cls ≠ "java/lang/invoke/MethodHandle" ∧ zyRu_awaitAllOn.cls ≠ "java/lang/invoke/VarHandle" ∧ (parseMethodDescriptor zyRu_awaitAllOn.desc).map (fun d => d.parameters.length) = some 4 := by decide +kernel
theorem gv_Ru_89 : GoodIn gw (wsV "PledgeMonitor$Runner" 89 zR3 zyRu_awaitAllOn (ws_Ru_awaitAllOn)) := gd_V k_290 k_291 k_292 k_65 k_293
theorem hv_Ag_find : zyAg_find.cls = zR0 ∧ zyAg_find.cls ≠ "java/lang/invoke/MethodHandle" ∧ zyAg_find.cls ≠ "java/lang/invoke/VarHandle" ∧ (parseMethodDescriptor zyAg_find.desc).map (fun d => d.parameters.length) = some 3 := by decide +kernel
theorem gv_Ru_55 : GoodIn gw (wsV "PledgeMonitor$Runner" 55 zR0 zyAg_find (ws_Ag_find)) := gd_V k_294 k_295 k_296 k_84 k_297
theorem gv_Ru_99 : GoodIn gw (wsV "PledgeMonitor$Runner" 99 zR6 zyTe_clauseAt (ws_Te_clauseAt)) := gd_V k_298 k_268 k_269 k_40 k_270
theorem hv_Te_remove : zyTe_remove.cls = zR6 ∧ zyTe_remove.cls ≠ "java/lang/invoke/MethodHandle" ∧ zyTe_remove.cls ≠ "java/lang/invoke/VarHandle" ∧ (parseMethodDescriptor zyTe_remove.desc).map (fun d => d.parameters.length) = some 2 := by decide +kernel
theorem gv_Ru_66 : GoodIn gw (wsV "PledgeMonitor$Runner" 66 zR6 zyTe_remove (ws_Te_remove)) := gd_V k_299 k_300 k_301 k_40 k_302
theorem hv_Ru_fulfilDuty : zyRu_fulfilDuty.cls = zR3 ∧ zyRu_fulfilDuty.cls ≠ "java/lang/invoke/MethodHandle" ∧ zyRu_fulfilDuty.cls ≠ "java/lang/invoke/VarHandle" ∧ (parseMethodDescriptor zyRu_fulfilDuty.desc).map (fun d => d.parameters.length) = some 4 := by decide +kernel
theorem gv_Ru_72 : GoodIn gw (wsV "PledgeMonitor$Runner" 72 zR3 zyRu_fulfilDuty (ws_Ru_fulfilDuty)) := gd_V k_303 k_304 k_305 k_65 k_306
theorem hv_Ru_breachBans : zyRu_breachBans.cls = zR3 ∧ zyRu_breachBans.cls ≠ "java/lang/invoke/MethodHandle" ∧ zyRu_breachBans.cls ≠ "java/lang/invoke/VarHandle" ∧ (parseMethodDescriptor zyRu_breachBans.desc).map (fun d => d.parameters.length) = some 4 := by decide +kernel
theorem gv_Ru_62 : GoodIn gw (wsV "PledgeMonitor$Runner" 62 zR3 zyRu_breachBans (ws_Ru_breachBans)) := gd_V k_307 k_308 k_309 k_65 k_310
theorem hv_Cl_isOnEvent : zyCl_isOnEvent.cls = zR1 ∧ zyCl_isOnEvent.cls ≠ "java/lang/invoke/MethodHandle" ∧ zyCl_isOnEvent.cls ≠ "java/lang/invoke/VarHandle" ∧ (parseMethodDescriptor zyCl_isOnEvent.desc).map (fun d => d.parameters.length) = some 2 := by decide +kernel
theorem gv_Ru_45 : GoodIn gw (wsV "PledgeMonitor$Runner" 45 zR1 zyCl_isOnEvent (ws_Cl_isOnEvent)) := gd_V k_311 k_312 k_313 k_29 k_314
theorem hv_St_copyFrom : zySt_copyFrom.cls = zR5 ∧ zySt_copyFrom.cls ≠ "java/lang/invoke/MethodHandle" ∧ zySt_copyFrom.cls ≠ "java/lang/invoke/VarHandle" ∧ (parseMethodDescriptor zySt_copyFrom.desc).map (fun d => d.parameters.length) = some 1 := by decide +kernel
theorem gv_Hi_25 : GoodIn gw (wsV "PledgeMonitor$History" 25 zR5 zySt_copyFrom (ws_St_copyFrom)) := gd_V k_315 k_316 k_317 k_54 k_318
theorem hv_Hi_keep : zyHi_keep.cls = zR2 ∧ zyHi_keep.cls ≠ "java/lang/invoke/MethodHandle" ∧ zyHi_keep.cls ≠ "java/lang/invoke/VarHandle" ∧ (parseMethodDescriptor zyHi_keep.desc).map (fun d => d.parameters.length) = some 1 := by decide +kernel
theorem gv_Pm_170 : GoodIn gw (wsV "PledgeMonitor" 170 zR2 zyHi_keep (ws_Hi_keep)) := gd_V k_323 k_324 k_325 k_95 k_326
theorem gv_Pm_93 : GoodIn gw (wsV "PledgeMonitor" 93 zR5 zySt_copyFrom (ws_St_copyFrom)) := gd_V k_327 k_316 k_317 k_54 k_318
theorem gv_Te_23 : GoodIn gw (wsV "PledgeMonitor$Terms" 23 zR6 zyTe_remove (ws_Te_remove)) := gd_V k_328 k_300 k_301 k_40 k_302
theorem hv_Te_dropBefore : zyTe_dropBefore.cls = zR6 ∧ zyTe_dropBefore.cls ≠ "java/lang/invoke/MethodHandle" ∧ zyTe_dropBefore.cls ≠ "java/lang/invoke/VarHandle" ∧ (parseMethodDescriptor zyTe_dropBefore.desc).map (fun d => d.parameters.length) = some 1 := by decide +kernel
theorem gv_Ru_93 : GoodIn gw (wsV "PledgeMonitor$Runner" 93 zR6 zyTe_dropBefore (ws_Te_dropBefore)) := gd_V k_329 k_330 k_331 k_40 k_332
theorem hv_Hi_giveBack : zyHi_giveBack.cls = zR2 ∧ zyHi_giveBack.cls ≠ "java/lang/invoke/MethodHandle" ∧ zyHi_giveBack.cls ≠ "java/lang/invoke/VarHandle" ∧ (parseMethodDescriptor zyHi_giveBack.desc).map (fun d => d.parameters.length) = some 1 := by decide +kernel
theorem gv_Pm_127 : GoodIn gw (wsV "PledgeMonitor" 127 zR2 zyHi_giveBack (ws_Hi_giveBack)) := gd_V k_333 k_334 k_335 k_95 k_336
theorem lf_Pm_120 : lk_f gw "PledgeMonitor" 120 5 0 := ⟨_, _, _, rfl, by decide, k_337, rfl, zin5, rfl⟩
theorem lf_Pm_131 : lk_f gw "PledgeMonitor" 131 5 1 := ⟨_, _, _, rfl, by decide, k_338, rfl, zin5, rfl⟩
theorem lf_Pm_135 : lk_f gw "PledgeMonitor" 135 6 1 := ⟨_, _, _, rfl, by decide, k_339, rfl, zin6, rfl⟩
theorem lf_Pm_138 : lk_f gw "PledgeMonitor" 138 6 0 := ⟨_, _, _, rfl, by decide, k_340, rfl, zin6, rfl⟩
theorem lf_Pm_142 : lk_f gw "PledgeMonitor" 142 5 2 := ⟨_, _, _, rfl, by decide, k_341, rfl, zin5, rfl⟩
theorem lf_Pm_145 : lk_f gw "PledgeMonitor" 145 5 3 := ⟨_, _, _, rfl, by decide, k_342, rfl, zin5, rfl⟩
theorem lf_Pm_100 : lk_f gw "PledgeMonitor" 100 0 1 := ⟨_, _, _, rfl, by decide, k_343, rfl, zin0, rfl⟩
theorem lf_Pm_148 : lk_f gw "PledgeMonitor" 148 5 5 := ⟨_, _, _, rfl, by decide, k_344, rfl, zin5, rfl⟩
theorem hs_Pm_isParty : zyPm_isParty.cls = "PledgeMonitor" ∧ zyPm_isParty.cls ≠ "java/lang/invoke/MethodHandle" ∧ zyPm_isParty.cls ≠ "java/lang/invoke/VarHandle" ∧ (parseMethodDescriptor zyPm_isParty.desc).map (fun d => d.parameters.length) = some 1 := by decide +kernel
theorem gs_Pm_106 : GoodIn gw (wsS "PledgeMonitor" 106 zyPm_isParty (ws_Pm_isParty)) := gd_S k_345 k_346 k_347 k_348
theorem hs_Pm_isKind : zyPm_isKind.cls = "PledgeMonitor" ∧ zyPm_isKind.cls ≠ "java/lang/invoke/MethodHandle" ∧ zyPm_isKind.cls ≠ "java/lang/invoke/VarHandle" ∧ (parseMethodDescriptor zyPm_isKind.desc).map (fun d => d.parameters.length) = some 1 := by decide +kernel
theorem gs_Pm_110 : GoodIn gw (wsS "PledgeMonitor" 110 zyPm_isKind (ws_Pm_isKind)) := gd_S k_349 k_350 k_347 k_351
theorem gv_Pm_151 : GoodIn gw (wsV "PledgeMonitor" 151 zR0 zyAg_find (ws_Ag_find)) := gd_V k_352 k_295 k_296 k_84 k_297
theorem gv_Pm_155 : GoodIn gw (wsV "PledgeMonitor" 155 zR5 zySt_debtOf (ws_St_debtOf)) := gd_V k_353 k_211 k_212 k_54 k_213
theorem lf_Ag_46 : lk_f gw "PledgeMonitor$Agreement" 46 5 1 := ⟨_, _, _, rfl, by decide, k_354, rfl, zin5, rfl⟩
theorem gv_Ag_49 : GoodIn gw (wsV "PledgeMonitor$Agreement" 49 zR6 zyTe_dayAt (ws_Te_dayAt)) := gd_V k_355 k_277 k_278 k_40 k_279
theorem lf_Ag_52 : lk_f gw "PledgeMonitor$Agreement" 52 5 0 := ⟨_, _, _, rfl, by decide, k_356, rfl, zin5, rfl⟩
theorem lf_Ag_55 : lk_f gw "PledgeMonitor$Agreement" 55 1 9 := ⟨_, _, _, rfl, by decide, k_357, rfl, zin1, rfl⟩
theorem lf_Ag_36 : lk_f gw "PledgeMonitor$Agreement" 36 5 2 := ⟨_, _, _, rfl, by decide, k_358, rfl, zin5, rfl⟩
theorem gv_Ag_42 : GoodIn gw (wsV "PledgeMonitor$Agreement" 42 zR0 zyAg_find (ws_Ag_find)) := gd_V k_359 k_295 k_296 k_84 k_297
theorem gv_Ag_33 : GoodIn gw (wsV "PledgeMonitor$Agreement" 33 zR1 zyCl_isOnEvent (ws_Cl_isOnEvent)) := gd_V k_360 k_312 k_313 k_29 k_314
theorem hv_Ag_isTouchedBy : zyAg_isTouchedBy.cls = zR0 ∧ zyAg_isTouchedBy.cls ≠ "java/lang/invoke/MethodHandle" ∧ zyAg_isTouchedBy.cls ≠ "java/lang/invoke/VarHandle" ∧ (parseMethodDescriptor zyAg_isTouchedBy.desc).map (fun d => d.parameters.length) = some 3 := by decide +kernel
theorem gv_Se_57 : GoodIn gw (wsV "PledgeMonitor$Search" 57 zR0 zyAg_isTouchedBy (ws_Ag_isTouchedBy)) := gd_V k_361 k_362 k_363 k_84 k_364
theorem gv_Se_45 : GoodIn gw (wsV "PledgeMonitor$Search" 45 zR5 zySt_copyFrom (ws_St_copyFrom)) := gd_V k_365 k_316 k_317 k_54 k_318
theorem hv_Ru_happen : zyRu_happen.cls = zR3 ∧ zyRu_happen.cls ≠ "java/lang/invoke/MethodHandle" ∧ zyRu_happen.cls ≠ "java/lang/invoke/VarHandle" ∧ (parseMethodDescriptor zyRu_happen.desc).map (fun d => d.parameters.length) = some 4 := by decide +kernel
theorem gv_Se_61 : GoodIn gw (wsV "PledgeMonitor$Search" 61 zR3 zyRu_happen (ws_Ru_happen)) := gd_V k_366 k_367 k_368 k_65 k_369
theorem lf_Mo_7 : lk_f gw "PledgeMonitorModel" 7 9 2 := ⟨_, _, _, rfl, by decide, k_371, rfl, zin9, rfl⟩
theorem lq_9_2 : lk_p "PledgeMonitorModel" "<init>" 9 2 (.array .int) := ⟨_, _, _, zt9, rfl, by decide +kernel, Or.inr ⟨rfl, rfl, rfl⟩, zty9, znm9⟩
theorem lf_Mo_13 : lk_f gw "PledgeMonitorModel" 13 9 3 := ⟨_, _, _, rfl, by decide, k_372, rfl, zin9, rfl⟩
theorem lq_9_3 {own mn : String} : lk_p own mn 9 3 .int := ⟨_, _, _, zt9, rfl, by decide +kernel, Or.inl rfl, zty9, znm9⟩
theorem lf_Mo_17 : lk_f gw "PledgeMonitorModel" 17 9 4 := ⟨_, _, _, rfl, by decide, k_373, rfl, zin9, rfl⟩
theorem lq_9_4 : lk_p "PledgeMonitorModel" "<init>" 9 4 (.array .boolean) := ⟨_, _, _, zt9, rfl, by decide +kernel, Or.inr ⟨rfl, rfl, rfl⟩, zty9, znm9⟩
theorem lf_Mo_21 : lk_f gw "PledgeMonitorModel" 21 9 8 := ⟨_, _, _, rfl, by decide, k_374, rfl, zin9, rfl⟩
theorem lq_9_8 : lk_p "PledgeMonitorModel" "<init>" 9 8 (.array .int) := ⟨_, _, _, zt9, rfl, by decide +kernel, Or.inr ⟨rfl, rfl, rfl⟩, zty9, znm9⟩
theorem lf_Mo_24 : lk_f gw "PledgeMonitorModel" 24 9 9 := ⟨_, _, _, rfl, by decide, k_375, rfl, zin9, rfl⟩
theorem lq_9_9 : lk_p "PledgeMonitorModel" "<init>" 9 9 (.array .int) := ⟨_, _, _, zt9, rfl, by decide +kernel, Or.inr ⟨rfl, rfl, rfl⟩, zty9, znm9⟩
theorem lf_Mo_27 : lk_f gw "PledgeMonitorModel" 27 9 10 := ⟨_, _, _, rfl, by decide, k_376, rfl, zin9, rfl⟩
theorem lq_9_10 : lk_p "PledgeMonitorModel" "<init>" 9 10 (.array .int) := ⟨_, _, _, zt9, rfl, by decide +kernel, Or.inr ⟨rfl, rfl, rfl⟩, zty9, znm9⟩
theorem lf_Mo_30 : lk_f gw "PledgeMonitorModel" 30 9 11 := ⟨_, _, _, rfl, by decide, k_377, rfl, zin9, rfl⟩
theorem lq_9_11 : lk_p "PledgeMonitorModel" "<init>" 9 11 (.array .boolean) := ⟨_, _, _, zt9, rfl, by decide +kernel, Or.inr ⟨rfl, rfl, rfl⟩, zty9, znm9⟩
theorem lf_Mo_33 : lk_f gw "PledgeMonitorModel" 33 9 12 := ⟨_, _, _, rfl, by decide, k_378, rfl, zin9, rfl⟩
theorem lq_9_12 : lk_p "PledgeMonitorModel" "<init>" 9 12 (.array .int) := ⟨_, _, _, zt9, rfl, by decide +kernel, Or.inr ⟨rfl, rfl, rfl⟩, zty9, znm9⟩
theorem lf_Mo_36 : lk_f gw "PledgeMonitorModel" 36 9 13 := ⟨_, _, _, rfl, by decide, k_379, rfl, zin9, rfl⟩
theorem lq_9_13 : lk_p "PledgeMonitorModel" "<init>" 9 13 (.array .int) := ⟨_, _, _, zt9, rfl, by decide +kernel, Or.inr ⟨rfl, rfl, rfl⟩, zty9, znm9⟩
theorem lf_Mo_39 : lk_f gw "PledgeMonitorModel" 39 9 14 := ⟨_, _, _, rfl, by decide, k_380, rfl, zin9, rfl⟩
theorem lq_9_14 : lk_p "PledgeMonitorModel" "<init>" 9 14 (.array .int) := ⟨_, _, _, zt9, rfl, by decide +kernel, Or.inr ⟨rfl, rfl, rfl⟩, zty9, znm9⟩
theorem lf_Mo_42 : lk_f gw "PledgeMonitorModel" 42 9 15 := ⟨_, _, _, rfl, by decide, k_381, rfl, zin9, rfl⟩
theorem lq_9_15 : lk_p "PledgeMonitorModel" "<init>" 9 15 (.array .int) := ⟨_, _, _, zt9, rfl, by decide +kernel, Or.inr ⟨rfl, rfl, rfl⟩, zty9, znm9⟩
theorem lf_Mo_45 : lk_f gw "PledgeMonitorModel" 45 9 16 := ⟨_, _, _, rfl, by decide, k_382, rfl, zin9, rfl⟩
theorem lq_9_16 : lk_p "PledgeMonitorModel" "<init>" 9 16 (.array .int) := ⟨_, _, _, zt9, rfl, by decide +kernel, Or.inr ⟨rfl, rfl, rfl⟩, zty9, znm9⟩
theorem lf_Mo_48 : lk_f gw "PledgeMonitorModel" 48 9 17 := ⟨_, _, _, rfl, by decide, k_383, rfl, zin9, rfl⟩
theorem lq_9_17 : lk_p "PledgeMonitorModel" "<init>" 9 17 (.array .int) := ⟨_, _, _, zt9, rfl, by decide +kernel, Or.inr ⟨rfl, rfl, rfl⟩, zty9, znm9⟩
theorem lf_Mo_51 : lk_f gw "PledgeMonitorModel" 51 9 18 := ⟨_, _, _, rfl, by decide, k_384, rfl, zin9, rfl⟩
theorem lq_9_18 : lk_p "PledgeMonitorModel" "<init>" 9 18 (.array .int) := ⟨_, _, _, zt9, rfl, by decide +kernel, Or.inr ⟨rfl, rfl, rfl⟩, zty9, znm9⟩
theorem lf_Mo_54 : lk_f gw "PledgeMonitorModel" 54 9 19 := ⟨_, _, _, rfl, by decide, k_385, rfl, zin9, rfl⟩
theorem lq_9_19 : lk_p "PledgeMonitorModel" "<init>" 9 19 (.array .int) := ⟨_, _, _, zt9, rfl, by decide +kernel, Or.inr ⟨rfl, rfl, rfl⟩, zty9, znm9⟩
theorem lf_Mo_57 : lk_f gw "PledgeMonitorModel" 57 9 22 := ⟨_, _, _, rfl, by decide, k_386, rfl, zin9, rfl⟩
theorem lq_9_22 : lk_p "PledgeMonitorModel" "<init>" 9 22 (.array .int) := ⟨_, _, _, zt9, rfl, by decide +kernel, Or.inr ⟨rfl, rfl, rfl⟩, zty9, znm9⟩
theorem lf_Mo_60 : lk_f gw "PledgeMonitorModel" 60 9 0 := ⟨_, _, _, rfl, by decide, k_387, rfl, zin9, rfl⟩
theorem lq_9_0 {own mn : String} : lk_p own mn 9 0 .int := ⟨_, _, _, zt9, rfl, by decide +kernel, Or.inl rfl, zty9, znm9⟩
theorem lf_Mo_65 : lk_f gw "PledgeMonitorModel" 65 9 1 := ⟨_, _, _, rfl, by decide, k_388, rfl, zin9, rfl⟩
theorem lq_9_1 {own mn : String} : lk_p own mn 9 1 .int := ⟨_, _, _, zt9, rfl, by decide +kernel, Or.inl rfl, zty9, znm9⟩
theorem lf_Mo_68 : lk_f gw "PledgeMonitorModel" 68 9 6 := ⟨_, _, _, rfl, by decide, k_390, rfl, zin9, rfl⟩
theorem hv_Mo_charAt : zyMo_charAt.cls = zR9 ∧ zyMo_charAt.cls ≠ "java/lang/invoke/MethodHandle" ∧ zyMo_charAt.cls ≠ "java/lang/invoke/VarHandle" ∧ (parseMethodDescriptor zyMo_charAt.desc).map (fun d => d.parameters.length) = some 1 := by decide +kernel
theorem gv_Mo_72 : GoodIn gw (wsV "PledgeMonitorModel" 72 zR9 zyMo_charAt (ws_Mo_charAt)) := gd_V k_391 k_392 k_393 k_394 k_395
theorem hv_Mo_party : zyMo_party.cls = zR9 ∧ zyMo_party.cls ≠ "java/lang/invoke/MethodHandle" ∧ zyMo_party.cls ≠ "java/lang/invoke/VarHandle" ∧ (parseMethodDescriptor zyMo_party.desc).map (fun d => d.parameters.length) = some 1 := by decide +kernel
theorem gv_Mo_76 : GoodIn gw (wsV "PledgeMonitorModel" 76 zR9 zyMo_party (ws_Mo_party)) := gd_V k_396 k_397 k_398 k_394 k_399
theorem hv_Mo_kind : zyMo_kind.cls = zR9 ∧ zyMo_kind.cls ≠ "java/lang/invoke/MethodHandle" ∧ zyMo_kind.cls ≠ "java/lang/invoke/VarHandle" ∧ (parseMethodDescriptor zyMo_kind.desc).map (fun d => d.parameters.length) = some 1 := by decide +kernel
theorem gv_Mo_82 : GoodIn gw (wsV "PledgeMonitorModel" 82 zR9 zyMo_kind (ws_Mo_kind)) := gd_V k_400 k_401 k_402 k_394 k_403
theorem hv_Mo_digit : zyMo_digit.cls = zR9 ∧ zyMo_digit.cls ≠ "java/lang/invoke/MethodHandle" ∧ zyMo_digit.cls ≠ "java/lang/invoke/VarHandle" ∧ (parseMethodDescriptor zyMo_digit.desc).map (fun d => d.parameters.length) = some 1 := by decide +kernel
theorem gv_Mo_79 : GoodIn gw (wsV "PledgeMonitorModel" 79 zR9 zyMo_digit (ws_Mo_digit)) := gd_V k_404 k_405 k_406 k_394 k_407
theorem hv_Mo_overPair : zyMo_overPair.cls = zR9 ∧ zyMo_overPair.cls ≠ "java/lang/invoke/MethodHandle" ∧ zyMo_overPair.cls ≠ "java/lang/invoke/VarHandle" ∧ (parseMethodDescriptor zyMo_overPair.desc).map (fun d => d.parameters.length) = some 1 := by decide +kernel
theorem gv_Mo_85 : GoodIn gw (wsV "PledgeMonitorModel" 85 zR9 zyMo_overPair (ws_Mo_overPair)) := gd_V k_408 k_409 k_410 k_394 k_411
theorem hv_Mo_readTrigger : zyMo_readTrigger.cls = zR9 ∧ zyMo_readTrigger.cls ≠ "java/lang/invoke/MethodHandle" ∧ zyMo_readTrigger.cls ≠ "java/lang/invoke/VarHandle" ∧ (parseMethodDescriptor zyMo_readTrigger.desc).map (fun d => d.parameters.length) = some 2 := by decide +kernel
theorem gv_Mo_88 : GoodIn gw (wsV "PledgeMonitorModel" 88 zR9 zyMo_readTrigger (ws_Mo_readTrigger)) := gd_V k_412 k_413 k_414 k_394 k_415
theorem hv_Mo_readAction : zyMo_readAction.cls = zR9 ∧ zyMo_readAction.cls ≠ "java/lang/invoke/MethodHandle" ∧ zyMo_readAction.cls ≠ "java/lang/invoke/VarHandle" ∧ (parseMethodDescriptor zyMo_readAction.desc).map (fun d => d.parameters.length) = some 2 := by decide +kernel
theorem gv_Mo_95 : GoodIn gw (wsV "PledgeMonitorModel" 95 zR9 zyMo_readAction (ws_Mo_readAction)) := gd_V k_416 k_417 k_418 k_394 k_419
theorem hv_Mo_readBound : zyMo_readBound.cls = zR9 ∧ zyMo_readBound.cls ≠ "java/lang/invoke/MethodHandle" ∧ zyMo_readBound.cls ≠ "java/lang/invoke/VarHandle" ∧ (parseMethodDescriptor zyMo_readBound.desc).map (fun d => d.parameters.length) = some 2 := by decide +kernel
theorem gv_Mo_92 : GoodIn gw (wsV "PledgeMonitorModel" 92 zR9 zyMo_readBound (ws_Mo_readBound)) := gd_V k_420 k_421 k_422 k_394 k_423
theorem hv_Mo_readClause : zyMo_readClause.cls = zR9 ∧ zyMo_readClause.cls ≠ "java/lang/invoke/MethodHandle" ∧ zyMo_readClause.cls ≠ "java/lang/invoke/VarHandle" ∧ (parseMethodDescriptor zyMo_readClause.desc).map (fun d => d.parameters.length) = some 2 := by decide +kernel
theorem gv_Mo_98 : GoodIn gw (wsV "PledgeMonitorModel" 98 zR9 zyMo_readClause (ws_Mo_readClause)) := gd_V k_424 k_425 k_426 k_394 k_427
theorem hv_Mo_goesRound : zyMo_goesRound.cls = zR9 ∧ zyMo_goesRound.cls ≠ "java/lang/invoke/MethodHandle" ∧ zyMo_goesRound.cls ≠ "java/lang/invoke/VarHandle" ∧ (parseMethodDescriptor zyMo_goesRound.desc).map (fun d => d.parameters.length) = some 2 := by decide +kernel
theorem gv_Mo_105 : GoodIn gw (wsV "PledgeMonitorModel" 105 zR9 zyMo_goesRound (ws_Mo_goesRound)) := gd_V k_428 k_429 k_430 k_394 k_431
theorem hv_Mo_refersWell : zyMo_refersWell.cls = zR9 ∧ zyMo_refersWell.cls ≠ "java/lang/invoke/MethodHandle" ∧ zyMo_refersWell.cls ≠ "java/lang/invoke/VarHandle" ∧ (parseMethodDescriptor zyMo_refersWell.desc).map (fun d => d.parameters.length) = some 3 := by decide +kernel
theorem gv_Mo_101 : GoodIn gw (wsV "PledgeMonitorModel" 101 zR9 zyMo_refersWell (ws_Mo_refersWell)) := gd_V k_432 k_433 k_434 k_394 k_435
theorem lf_Mo_109 : lk_f gw "PledgeMonitorModel" 109 9 23 := ⟨_, _, _, rfl, by decide, k_436, rfl, zin9, rfl⟩
theorem lq_9_23 {own mn : String} : lk_p own mn 9 23 .boolean := ⟨_, _, _, zt9, rfl, by decide +kernel, Or.inl rfl, zty9, znm9⟩
theorem lf_Mo_112 : lk_f gw "PledgeMonitorModel" 112 9 5 := ⟨_, _, _, rfl, by decide, k_437, rfl, zin9, rfl⟩
theorem hv_Mo_clauseAt : zyMo_clauseAt.cls = zR9 ∧ zyMo_clauseAt.cls ≠ "java/lang/invoke/MethodHandle" ∧ zyMo_clauseAt.cls ≠ "java/lang/invoke/VarHandle" ∧ (parseMethodDescriptor zyMo_clauseAt.desc).map (fun d => d.parameters.length) = some 3 := by decide +kernel
theorem gv_Mo_115 : GoodIn gw (wsV "PledgeMonitorModel" 115 zR9 zyMo_clauseAt (ws_Mo_clauseAt)) := gd_V k_438 k_439 k_440 k_394 k_441
theorem hv_Mo_isOf : zyMo_isOf.cls = zR9 ∧ zyMo_isOf.cls ≠ "java/lang/invoke/MethodHandle" ∧ zyMo_isOf.cls ≠ "java/lang/invoke/VarHandle" ∧ (parseMethodDescriptor zyMo_isOf.desc).map (fun d => d.parameters.length) = some 3 := by decide +kernel
theorem gv_Mo_119 : GoodIn gw (wsV "PledgeMonitorModel" 119 zR9 zyMo_isOf (ws_Mo_isOf)) := gd_V k_442 k_443 k_444 k_394 k_445
theorem hv_Mo_dayAt : zyMo_dayAt.cls = zR9 ∧ zyMo_dayAt.cls ≠ "java/lang/invoke/MethodHandle" ∧ zyMo_dayAt.cls ≠ "java/lang/invoke/VarHandle" ∧ (parseMethodDescriptor zyMo_dayAt.desc).map (fun d => d.parameters.length) = some 3 := by decide +kernel
theorem gv_Mo_122 : GoodIn gw (wsV "PledgeMonitorModel" 122 zR9 zyMo_dayAt (ws_Mo_dayAt)) := gd_V k_446 k_447 k_448 k_394 k_449
theorem lf_Mo_125 : lk_f gw "PledgeMonitorModel" 125 9 7 := ⟨_, _, _, rfl, by decide, k_450, rfl, zin9, rfl⟩
theorem lf_Mo_128 : lk_f gw "PledgeMonitorModel" 128 9 21 := ⟨_, _, _, rfl, by decide, k_451, rfl, zin9, rfl⟩
theorem lq_9_21 {own mn : String} : lk_p own mn 9 21 .int := ⟨_, _, _, zt9, rfl, by decide +kernel, Or.inl rfl, zty9, znm9⟩
theorem lf_Mo_131 : lk_f gw "PledgeMonitorModel" 131 9 24 := ⟨_, _, _, rfl, by decide, k_452, rfl, zin9, rfl⟩
theorem lq_9_24 {own mn : String} : lk_p own mn 9 24 .int := ⟨_, _, _, zt9, rfl, by decide +kernel, Or.inl rfl, zty9, znm9⟩
theorem lf_Mo_134 : lk_f gw "PledgeMonitorModel" 134 9 25 := ⟨_, _, _, rfl, by decide, k_453, rfl, zin9, rfl⟩
theorem lq_9_25 {own mn : String} : lk_p own mn 9 25 .int := ⟨_, _, _, zt9, rfl, by decide +kernel, Or.inl rfl, zty9, znm9⟩
theorem hv_Mo_await : zyMo_await.cls = zR9 ∧ zyMo_await.cls ≠ "java/lang/invoke/MethodHandle" ∧ zyMo_await.cls ≠ "java/lang/invoke/VarHandle" ∧ (parseMethodDescriptor zyMo_await.desc).map (fun d => d.parameters.length) = some 3 := by decide +kernel
theorem gv_Mo_137 : GoodIn gw (wsV "PledgeMonitorModel" 137 zR9 zyMo_await (ws_Mo_await)) := gd_V k_454 k_455 k_456 k_394 k_457
theorem hv_Mo_put : zyMo_put.cls = zR9 ∧ zyMo_put.cls ≠ "java/lang/invoke/MethodHandle" ∧ zyMo_put.cls ≠ "java/lang/invoke/VarHandle" ∧ (parseMethodDescriptor zyMo_put.desc).map (fun d => d.parameters.length) = some 4 := by decide +kernel
theorem gv_Mo_144 : GoodIn gw (wsV "PledgeMonitorModel" 144 zR9 zyMo_put (ws_Mo_put)) := gd_V k_458 k_459 k_460 k_394 k_461
theorem hv_Mo_dayAfter : zyMo_dayAfter.cls = zR9 ∧ zyMo_dayAfter.cls ≠ "java/lang/invoke/MethodHandle" ∧ zyMo_dayAfter.cls ≠ "java/lang/invoke/VarHandle" ∧ (parseMethodDescriptor zyMo_dayAfter.desc).map (fun d => d.parameters.length) = some 2 := by decide +kernel
theorem gv_Mo_141 : GoodIn gw (wsV "PledgeMonitorModel" 141 zR9 zyMo_dayAfter (ws_Mo_dayAfter)) := gd_V k_462 k_463 k_464 k_394 k_465
theorem hv_Mo_act : zyMo_act.cls = zR9 ∧ zyMo_act.cls ≠ "java/lang/invoke/MethodHandle" ∧ zyMo_act.cls ≠ "java/lang/invoke/VarHandle" ∧ (parseMethodDescriptor zyMo_act.desc).map (fun d => d.parameters.length) = some 2 := by decide +kernel
theorem gv_Mo_148 : GoodIn gw (wsV "PledgeMonitorModel" 148 zR9 zyMo_act (ws_Mo_act)) := gd_V k_466 k_467 k_468 k_394 k_469
theorem hv_Mo_start : zyMo_start.cls = zR9 ∧ zyMo_start.cls ≠ "java/lang/invoke/MethodHandle" ∧ zyMo_start.cls ≠ "java/lang/invoke/VarHandle" ∧ (parseMethodDescriptor zyMo_start.desc).map (fun d => d.parameters.length) = some 0 := by decide +kernel
theorem gv_Mo_152 : GoodIn gw (wsV "PledgeMonitorModel" 152 zR9 zyMo_start (ws_Mo_start)) := gd_V k_470 k_471 k_472 k_394 k_473
theorem hv_Mo_first : zyMo_first.cls = zR9 ∧ zyMo_first.cls ≠ "java/lang/invoke/MethodHandle" ∧ zyMo_first.cls ≠ "java/lang/invoke/VarHandle" ∧ (parseMethodDescriptor zyMo_first.desc).map (fun d => d.parameters.length) = some 4 := by decide +kernel
theorem gv_Mo_155 : GoodIn gw (wsV "PledgeMonitorModel" 155 zR9 zyMo_first (ws_Mo_first)) := gd_V k_474 k_475 k_476 k_394 k_477
theorem hv_Mo_run : zyMo_run.cls = zR9 ∧ zyMo_run.cls ≠ "java/lang/invoke/MethodHandle" ∧ zyMo_run.cls ≠ "java/lang/invoke/VarHandle" ∧ (parseMethodDescriptor zyMo_run.desc).map (fun d => d.parameters.length) = some 1 := by decide +kernel
theorem gv_Mo_165 : GoodIn gw (wsV "PledgeMonitorModel" 165 zR9 zyMo_run (ws_Mo_run)) := gd_V k_478 k_479 k_480 k_394 k_481
theorem hv_Mo_takeOut : zyMo_takeOut.cls = zR9 ∧ zyMo_takeOut.cls ≠ "java/lang/invoke/MethodHandle" ∧ zyMo_takeOut.cls ≠ "java/lang/invoke/VarHandle" ∧ (parseMethodDescriptor zyMo_takeOut.desc).map (fun d => d.parameters.length) = some 3 := by decide +kernel
theorem gv_Mo_159 : GoodIn gw (wsV "PledgeMonitorModel" 159 zR9 zyMo_takeOut (ws_Mo_takeOut)) := gd_V k_482 k_483 k_484 k_394 k_485
theorem hv_Mo_breach : zyMo_breach.cls = zR9 ∧ zyMo_breach.cls ≠ "java/lang/invoke/MethodHandle" ∧ zyMo_breach.cls ≠ "java/lang/invoke/VarHandle" ∧ (parseMethodDescriptor zyMo_breach.desc).map (fun d => d.parameters.length) = some 2 := by decide +kernel
theorem gv_Mo_162 : GoodIn gw (wsV "PledgeMonitorModel" 162 zR9 zyMo_breach (ws_Mo_breach)) := gd_V k_486 k_487 k_488 k_394 k_489
theorem hv_Mo_passOver : zyMo_passOver.cls = zR9 ∧ zyMo_passOver.cls ≠ "java/lang/invoke/MethodHandle" ∧ zyMo_passOver.cls ≠ "java/lang/invoke/VarHandle" ∧ (parseMethodDescriptor zyMo_passOver.desc).map (fun d => d.parameters.length) = some 2 := by decide +kernel
theorem gv_Mo_169 : GoodIn gw (wsV "PledgeMonitorModel" 169 zR9 zyMo_passOver (ws_Mo_passOver)) := gd_V k_490 k_491 k_492 k_394 k_493
theorem hv_Mo_readAll : zyMo_readAll.cls = zR9 ∧ zyMo_readAll.cls ≠ "java/lang/invoke/MethodHandle" ∧ zyMo_readAll.cls ≠ "java/lang/invoke/VarHandle" ∧ (parseMethodDescriptor zyMo_readAll.desc).map (fun d => d.parameters.length) = some 1 := by decide +kernel
theorem gv_Mo_172 : GoodIn gw (wsV "PledgeMonitorModel" 172 zR9 zyMo_readAll (ws_Mo_readAll)) := gd_V k_494 k_495 k_496 k_394 k_497
theorem hv_Mo_faultOf : zyMo_faultOf.cls = zR9 ∧ zyMo_faultOf.cls ≠ "java/lang/invoke/MethodHandle" ∧ zyMo_faultOf.cls ≠ "java/lang/invoke/VarHandle" ∧ (parseMethodDescriptor zyMo_faultOf.desc).map (fun d => d.parameters.length) = some 2 := by decide +kernel
theorem gv_Mo_175 : GoodIn gw (wsV "PledgeMonitorModel" 175 zR9 zyMo_faultOf (ws_Mo_faultOf)) := gd_V k_498 k_499 k_500 k_394 k_501
theorem lq_9_5 {own mn : String} : lk_p own mn 9 5 .int := ⟨_, _, _, zt9, rfl, by decide +kernel, Or.inl rfl, zty9, znm9⟩
theorem lq_9_7 {own mn : String} : lk_p own mn 9 7 .int := ⟨_, _, _, zt9, rfl, by decide +kernel, Or.inl rfl, zty9, znm9⟩
theorem hv_Mo_copy : zyMo_copy.cls = zR9 ∧ zyMo_copy.cls ≠ "java/lang/invoke/MethodHandle" ∧ zyMo_copy.cls ≠ "java/lang/invoke/VarHandle" ∧ (parseMethodDescriptor zyMo_copy.desc).map (fun d => d.parameters.length) = some 2 := by decide +kernel
theorem gv_Mo_178 : GoodIn gw (wsV "PledgeMonitorModel" 178 zR9 zyMo_copy (ws_Mo_copy)) := gd_V k_502 k_503 k_504 k_394 k_505
theorem lq_9_6 {own mn : String} : lk_p own mn 9 6 .boolean := ⟨_, _, _, zt9, rfl, by decide +kernel, Or.inl rfl, zty9, znm9⟩
theorem lf_Mo_181 : lk_f gw "PledgeMonitorModel" 181 9 20 := ⟨_, _, _, rfl, by decide, k_506, rfl, zin9, rfl⟩
theorem lq_9_20 {own mn : String} : lk_p own mn 9 20 .int := ⟨_, _, _, zt9, rfl, by decide +kernel, Or.inl rfl, zty9, znm9⟩
theorem hv_Mo_eventIn : zyMo_eventIn.cls = zR9 ∧ zyMo_eventIn.cls ≠ "java/lang/invoke/MethodHandle" ∧ zyMo_eventIn.cls ≠ "java/lang/invoke/VarHandle" ∧ (parseMethodDescriptor zyMo_eventIn.desc).map (fun d => d.parameters.length) = some 3 := by decide +kernel
theorem gv_Mo_191 : GoodIn gw (wsV "PledgeMonitorModel" 191 zR9 zyMo_eventIn (ws_Mo_eventIn)) := gd_V k_507 k_508 k_509 k_394 k_510
theorem hv_Mo_settle : zyMo_settle.cls = zR9 ∧ zyMo_settle.cls ≠ "java/lang/invoke/MethodHandle" ∧ zyMo_settle.cls ≠ "java/lang/invoke/VarHandle" ∧ (parseMethodDescriptor zyMo_settle.desc).map (fun d => d.parameters.length) = some 0 := by decide +kernel
theorem gv_Mo_194 : GoodIn gw (wsV "PledgeMonitorModel" 194 zR9 zyMo_settle (ws_Mo_settle)) := gd_V k_511 k_512 k_513 k_394 k_514
theorem hs_Mo_isParty : zyMo_isParty.cls = "PledgeMonitorModel" ∧ zyMo_isParty.cls ≠ "java/lang/invoke/MethodHandle" ∧ zyMo_isParty.cls ≠ "java/lang/invoke/VarHandle" ∧ (parseMethodDescriptor zyMo_isParty.desc).map (fun d => d.parameters.length) = some 1 := by decide +kernel
theorem gs_Mo_184 : GoodIn gw (wsS "PledgeMonitorModel" 184 zyMo_isParty (ws_Mo_isParty)) := gd_S k_515 k_516 k_394 k_517
theorem hs_Mo_isKind : zyMo_isKind.cls = "PledgeMonitorModel" ∧ zyMo_isKind.cls ≠ "java/lang/invoke/MethodHandle" ∧ zyMo_isKind.cls ≠ "java/lang/invoke/VarHandle" ∧ (parseMethodDescriptor zyMo_isKind.desc).map (fun d => d.parameters.length) = some 1 := by decide +kernel
theorem gs_Mo_188 : GoodIn gw (wsS "PledgeMonitorModel" 188 zyMo_isKind (ws_Mo_isKind)) := gd_S k_518 k_519 k_394 k_520
theorem hv_Mo_endIn : zyMo_endIn.cls = zR9 ∧ zyMo_endIn.cls ≠ "java/lang/invoke/MethodHandle" ∧ zyMo_endIn.cls ≠ "java/lang/invoke/VarHandle" ∧ (parseMethodDescriptor zyMo_endIn.desc).map (fun d => d.parameters.length) = some 1 := by decide +kernel
theorem gv_Mo_198 : GoodIn gw (wsV "PledgeMonitorModel" 198 zR9 zyMo_endIn (ws_Mo_endIn)) := gd_V k_521 k_522 k_523 k_394 k_524
theorem hv_Mo_goes : zyMo_goes.cls = zR9 ∧ zyMo_goes.cls ≠ "java/lang/invoke/MethodHandle" ∧ zyMo_goes.cls ≠ "java/lang/invoke/VarHandle" ∧ (parseMethodDescriptor zyMo_goes.desc).map (fun d => d.parameters.length) = some 4 := by decide +kernel
theorem gv_Mo_201 : GoodIn gw (wsV "PledgeMonitorModel" 201 zR9 zyMo_goes (ws_Mo_goes)) := gd_V k_525 k_526 k_527 k_394 k_528
theorem hv_Mo_hasOne : zyMo_hasOne.cls = zR9 ∧ zyMo_hasOne.cls ≠ "java/lang/invoke/MethodHandle" ∧ zyMo_hasOne.cls ≠ "java/lang/invoke/VarHandle" ∧ (parseMethodDescriptor zyMo_hasOne.desc).map (fun d => d.parameters.length) = some 3 := by decide +kernel
theorem gv_Mo_205 : GoodIn gw (wsV "PledgeMonitorModel" 205 zR9 zyMo_hasOne (ws_Mo_hasOne)) := gd_V k_529 k_530 k_531 k_394 k_532
theorem hv_Mo_askCode : zyMo_askCode.cls = zR9 ∧ zyMo_askCode.cls ≠ "java/lang/invoke/MethodHandle" ∧ zyMo_askCode.cls ≠ "java/lang/invoke/VarHandle" ∧ (parseMethodDescriptor zyMo_askCode.desc).map (fun d => d.parameters.length) = some 2 := by decide +kernel
theorem gv_Mo_208 : GoodIn gw (wsV "PledgeMonitorModel" 208 zR9 zyMo_askCode (ws_Mo_askCode)) := gd_V k_533 k_534 k_535 k_394 k_536
theorem hv_Mo_firstCourse : zyMo_firstCourse.cls = zR9 ∧ zyMo_firstCourse.cls ≠ "java/lang/invoke/MethodHandle" ∧ zyMo_firstCourse.cls ≠ "java/lang/invoke/VarHandle" ∧ (parseMethodDescriptor zyMo_firstCourse.desc).map (fun d => d.parameters.length) = some 3 := by decide +kernel
theorem gv_Mo_211 : GoodIn gw (wsV "PledgeMonitorModel" 211 zR9 zyMo_firstCourse (ws_Mo_firstCourse)) := gd_V k_537 k_538 k_539 k_394 k_540
theorem hv_Ag_hasDutyDue : zyAg_hasDutyDue.cls = zR0 ∧ zyAg_hasDutyDue.cls ≠ "java/lang/invoke/MethodHandle" ∧ zyAg_hasDutyDue.cls ≠ "java/lang/invoke/VarHandle" ∧ (parseMethodDescriptor zyAg_hasDutyDue.desc).map (fun d => d.parameters.length) = some 2 := by decide +kernel
theorem gv_Se_39 : GoodIn gw (wsV "PledgeMonitor$Search" 39 zR0 zyAg_hasDutyDue (ws_Ag_hasDutyDue)) := gd_V k_541 k_542 k_543 k_84 k_544
theorem hv_Ru_endDay : zyRu_endDay.cls = zR3 ∧ zyRu_endDay.cls ≠ "java/lang/invoke/MethodHandle" ∧ zyRu_endDay.cls ≠ "java/lang/invoke/VarHandle" ∧ (parseMethodDescriptor zyRu_endDay.desc).map (fun d => d.parameters.length) = some 2 := by decide +kernel
theorem gv_Se_49 : GoodIn gw (wsV "PledgeMonitor$Search" 49 zR3 zyRu_endDay (ws_Ru_endDay)) := gd_V k_545 k_546 k_547 k_65 k_548
theorem hv_Se_firstCourse : zySe_firstCourse.cls = zR4 ∧ zySe_firstCourse.cls ≠ "java/lang/invoke/MethodHandle" ∧ zySe_firstCourse.cls ≠ "java/lang/invoke/VarHandle" ∧ (parseMethodDescriptor zySe_firstCourse.desc).map (fun d => d.parameters.length) = some 4 := by decide +kernel
theorem gv_Se_53 : GoodIn gw (wsV "PledgeMonitor$Search" 53 zR4 zySe_firstCourse (ws_Se_firstCourse)) := gd_V k_549 k_550 k_551 k_102 k_552
theorem hv_Se_isKeptByEndOfDay : zySe_isKeptByEndOfDay.cls = zR4 ∧ zySe_isKeptByEndOfDay.cls ≠ "java/lang/invoke/MethodHandle" ∧ zySe_isKeptByEndOfDay.cls ≠ "java/lang/invoke/VarHandle" ∧ (parseMethodDescriptor zySe_isKeptByEndOfDay.desc).map (fun d => d.parameters.length) = some 4 := by decide +kernel
theorem gv_Se_31 : GoodIn gw (wsV "PledgeMonitor$Search" 31 zR4 zySe_isKeptByEndOfDay (ws_Se_isKeptByEndOfDay)) := gd_V k_553 k_554 k_555 k_102 k_556
theorem hv_Se_changes : zySe_changes.cls = zR4 ∧ zySe_changes.cls ≠ "java/lang/invoke/MethodHandle" ∧ zySe_changes.cls ≠ "java/lang/invoke/VarHandle" ∧ (parseMethodDescriptor zySe_changes.desc).map (fun d => d.parameters.length) = some 5 := by decide +kernel
theorem gv_Se_35 : GoodIn gw (wsV "PledgeMonitor$Search" 35 zR4 zySe_changes (ws_Se_changes)) := gd_V k_557 k_558 k_559 k_102 k_560
/-- enough turns for every loop -/
def fo_N : Nat := 2000
end
