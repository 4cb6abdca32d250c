-- ===== PART A: goes FIRST, ahead of the names: the tables' words, and 'selects' of the private methods out of them =====
/-- a private method of a class that the tables say can be made, by its rows of tables_1 -/
def lw_okq (q : MethodName × Nat) : Prop := (q.1.cls ≠ "java/lang/invoke/MethodHandle" ∧ q.1.cls ≠ "java/lang/invoke/VarHandle") ∧ Cond.instantiable q.1.cls q.2 ∈ tables_1 ∧ Cond.privateMethod q.1 ∈ tables_1 ∧ Cond.instanceMethod q.1 ∈ tables_1
theorem lw_p0 : lw_okq (⟨"CoflowSimulator$FlowText", "takeFlow", "(I)Z"⟩, 4) := ⟨⟨by decide +kernel, by decide +kernel⟩, List.mem_of_getElem? (i := 24) (by decide +kernel), List.mem_of_getElem? (i := 396) (by decide +kernel), List.mem_of_getElem? (i := 397) (by decide +kernel)⟩
theorem lw_p1 : lw_okq (⟨"CoflowSimulator$FlowText", "skipBlanks", "()V"⟩, 4) := ⟨⟨by decide +kernel, by decide +kernel⟩, List.mem_of_getElem? (i := 24) (by decide +kernel), List.mem_of_getElem? (i := 400) (by decide +kernel), List.mem_of_getElem? (i := 401) (by decide +kernel)⟩
theorem lw_p2 : lw_okq (⟨"CoflowSimulator$FlowText", "takePort", "()I"⟩, 4) := ⟨⟨by decide +kernel, by decide +kernel⟩, List.mem_of_getElem? (i := 24) (by decide +kernel), List.mem_of_getElem? (i := 404) (by decide +kernel), List.mem_of_getElem? (i := 405) (by decide +kernel)⟩
theorem lw_p3 : lw_okq (⟨"CoflowSimulator$FlowText", "takeSign", "(C)Z"⟩, 4) := ⟨⟨by decide +kernel, by decide +kernel⟩, List.mem_of_getElem? (i := 24) (by decide +kernel), List.mem_of_getElem? (i := 408) (by decide +kernel), List.mem_of_getElem? (i := 409) (by decide +kernel)⟩
theorem lw_p4 : lw_okq (⟨"CoflowSimulator$FlowText", "takeSize", "()I"⟩, 4) := ⟨⟨by decide +kernel, by decide +kernel⟩, List.mem_of_getElem? (i := 24) (by decide +kernel), List.mem_of_getElem? (i := 412) (by decide +kernel), List.mem_of_getElem? (i := 413) (by decide +kernel)⟩
theorem lw_p5 : lw_okq (⟨"CoflowSimulator", "save", "()V"⟩, 6) := ⟨⟨by decide +kernel, by decide +kernel⟩, List.mem_of_getElem? (i := 16) (by decide +kernel), List.mem_of_getElem? (i := 428) (by decide +kernel), List.mem_of_getElem? (i := 429) (by decide +kernel)⟩
theorem lw_p6 : lw_okq (⟨"CoflowSimulator$PortLoads", "addCommitted", "(LCoflowSimulator$Group;I)V"⟩, 1) := ⟨⟨by decide +kernel, by decide +kernel⟩, List.mem_of_getElem? (i := 306) (by decide +kernel), List.mem_of_getElem? (i := 496) (by decide +kernel), List.mem_of_getElem? (i := 497) (by decide +kernel)⟩
theorem lw_p7 : lw_okq (⟨"CoflowSimulator$PortLoads", "add", "(LCoflowSimulator$FlowList;II)V"⟩, 1) := ⟨⟨by decide +kernel, by decide +kernel⟩, List.mem_of_getElem? (i := 306) (by decide +kernel), List.mem_of_getElem? (i := 503) (by decide +kernel), List.mem_of_getElem? (i := 504) (by decide +kernel)⟩
theorem lw_p8 : lw_okq (⟨"CoflowSimulator$Tick", "setKey", "(IIJI)V"⟩, 11) := ⟨⟨by decide +kernel, by decide +kernel⟩, List.mem_of_getElem? (i := 262) (by decide +kernel), List.mem_of_getElem? (i := 545) (by decide +kernel), List.mem_of_getElem? (i := 546) (by decide +kernel)⟩
theorem lw_p9 : lw_okq (⟨"CoflowSimulator$Tick", "addUp", "(LCoflowSimulator$FlowList;)I"⟩, 11) := ⟨⟨by decide +kernel, by decide +kernel⟩, List.mem_of_getElem? (i := 262) (by decide +kernel), List.mem_of_getElem? (i := 553) (by decide +kernel), List.mem_of_getElem? (i := 554) (by decide +kernel)⟩
theorem lw_p10 : lw_okq (⟨"CoflowSimulator$Tick", "isEnough", "(LCoflowSimulator$FlowList;I[I)Z"⟩, 11) := ⟨⟨by decide +kernel, by decide +kernel⟩, List.mem_of_getElem? (i := 262) (by decide +kernel), List.mem_of_getElem? (i := 563) (by decide +kernel), List.mem_of_getElem? (i := 564) (by decide +kernel)⟩
theorem lw_p11 : lw_okq (⟨"CoflowSimulator$Tick", "setSpanKey", "(III)V"⟩, 11) := ⟨⟨by decide +kernel, by decide +kernel⟩, List.mem_of_getElem? (i := 262) (by decide +kernel), List.mem_of_getElem? (i := 567) (by decide +kernel), List.mem_of_getElem? (i := 568) (by decide +kernel)⟩
theorem lw_p12 : lw_okq (⟨"CoflowSimulator$Tick", "plainKey", "(LCoflowSimulator$State;I)J"⟩, 11) := ⟨⟨by decide +kernel, by decide +kernel⟩, List.mem_of_getElem? (i := 262) (by decide +kernel), List.mem_of_getElem? (i := 571) (by decide +kernel), List.mem_of_getElem? (i := 572) (by decide +kernel)⟩
theorem lw_p13 : lw_okq (⟨"CoflowSimulator$Tick", "insert", "(I)V"⟩, 11) := ⟨⟨by decide +kernel, by decide +kernel⟩, List.mem_of_getElem? (i := 262) (by decide +kernel), List.mem_of_getElem? (i := 590) (by decide +kernel), List.mem_of_getElem? (i := 591) (by decide +kernel)⟩
theorem lw_p14 : lw_okq (⟨"CoflowSimulator$Tick", "isBefore", "(II)Z"⟩, 11) := ⟨⟨by decide +kernel, by decide +kernel⟩, List.mem_of_getElem? (i := 262) (by decide +kernel), List.mem_of_getElem? (i := 594) (by decide +kernel), List.mem_of_getElem? (i := 595) (by decide +kernel)⟩
theorem lw_p15 : lw_okq (⟨"CoflowSimulator$Tick", "notePreemption", "(LCoflowSimulator$State;)V"⟩, 11) := ⟨⟨by decide +kernel, by decide +kernel⟩, List.mem_of_getElem? (i := 262) (by decide +kernel), List.mem_of_getElem? (i := 603) (by decide +kernel), List.mem_of_getElem? (i := 604) (by decide +kernel)⟩
def lw_privs_1 : List (MethodName × Nat) := [(⟨"CoflowSimulator$FlowText", "takeFlow", "(I)Z"⟩, 4), (⟨"CoflowSimulator$FlowText", "skipBlanks", "()V"⟩, 4), (⟨"CoflowSimulator$FlowText", "takePort", "()I"⟩, 4), (⟨"CoflowSimulator$FlowText", "takeSign", "(C)Z"⟩, 4), (⟨"CoflowSimulator$FlowText", "takeSize", "()I"⟩, 4), (⟨"CoflowSimulator", "save", "()V"⟩, 6), (⟨"CoflowSimulator$PortLoads", "addCommitted", "(LCoflowSimulator$Group;I)V"⟩, 1), (⟨"CoflowSimulator$PortLoads", "add", "(LCoflowSimulator$FlowList;II)V"⟩, 1), (⟨"CoflowSimulator$Tick", "setKey", "(IIJI)V"⟩, 11), (⟨"CoflowSimulator$Tick", "addUp", "(LCoflowSimulator$FlowList;)I"⟩, 11), (⟨"CoflowSimulator$Tick", "isEnough", "(LCoflowSimulator$FlowList;I[I)Z"⟩, 11), (⟨"CoflowSimulator$Tick", "setSpanKey", "(III)V"⟩, 11), (⟨"CoflowSimulator$Tick", "plainKey", "(LCoflowSimulator$State;I)J"⟩, 11), (⟨"CoflowSimulator$Tick", "insert", "(I)V"⟩, 11), (⟨"CoflowSimulator$Tick", "isBefore", "(II)Z"⟩, 11), (⟨"CoflowSimulator$Tick", "notePreemption", "(LCoflowSimulator$State;)V"⟩, 11)]
theorem lw_r1 : ∀ q ∈ lw_privs_1, lw_okq q := List.forall_mem_cons.mpr ⟨lw_p0, List.forall_mem_cons.mpr ⟨lw_p1, List.forall_mem_cons.mpr ⟨lw_p2, List.forall_mem_cons.mpr ⟨lw_p3, List.forall_mem_cons.mpr ⟨lw_p4, List.forall_mem_cons.mpr ⟨lw_p5, List.forall_mem_cons.mpr ⟨lw_p6, List.forall_mem_cons.mpr ⟨lw_p7, List.forall_mem_cons.mpr ⟨lw_p8, List.forall_mem_cons.mpr ⟨lw_p9, List.forall_mem_cons.mpr ⟨lw_p10, List.forall_mem_cons.mpr ⟨lw_p11, List.forall_mem_cons.mpr ⟨lw_p12, List.forall_mem_cons.mpr ⟨lw_p13, List.forall_mem_cons.mpr ⟨lw_p14, List.forall_mem_cons.mpr ⟨lw_p15, fun _ h => absurd h List.not_mem_nil⟩⟩⟩⟩⟩⟩⟩⟩⟩⟩⟩⟩⟩⟩⟩⟩
theorem lw_p16 : lw_okq (⟨"CoflowSimulator$Tick", "spread", "(LCoflowSimulator$FlowList;I)V"⟩, 11) := ⟨⟨by decide +kernel, by decide +kernel⟩, List.mem_of_getElem? (i := 262) (by decide +kernel), List.mem_of_getElem? (i := 617) (by decide +kernel), List.mem_of_getElem? (i := 618) (by decide +kernel)⟩
theorem lw_p17 : lw_okq (⟨"CoflowSimulator$Tick", "raise", "(LCoflowSimulator$FlowList;II)V"⟩, 11) := ⟨⟨by decide +kernel, by decide +kernel⟩, List.mem_of_getElem? (i := 262) (by decide +kernel), List.mem_of_getElem? (i := 621) (by decide +kernel), List.mem_of_getElem? (i := 622) (by decide +kernel)⟩
theorem lw_p18 : lw_okq (⟨"CoflowSimulator$Tick", "sendAll", "(LCoflowSimulator$State;)I"⟩, 11) := ⟨⟨by decide +kernel, by decide +kernel⟩, List.mem_of_getElem? (i := 262) (by decide +kernel), List.mem_of_getElem? (i := 629) (by decide +kernel), List.mem_of_getElem? (i := 630) (by decide +kernel)⟩
theorem lw_p19 : lw_okq (⟨"CoflowSimulator$Tick", "noteDone", "(LCoflowSimulator$State;)V"⟩, 11) := ⟨⟨by decide +kernel, by decide +kernel⟩, List.mem_of_getElem? (i := 262) (by decide +kernel), List.mem_of_getElem? (i := 633) (by decide +kernel), List.mem_of_getElem? (i := 634) (by decide +kernel)⟩
theorem lw_p20 : lw_okq (⟨"CoflowSimulator$Tick", "noteLate", "(LCoflowSimulator$State;)V"⟩, 11) := ⟨⟨by decide +kernel, by decide +kernel⟩, List.mem_of_getElem? (i := 262) (by decide +kernel), List.mem_of_getElem? (i := 638) (by decide +kernel), List.mem_of_getElem? (i := 639) (by decide +kernel)⟩
theorem lw_p21 : lw_okq (⟨"CoflowSimulator", "isGroup", "(I)Z"⟩, 6) := ⟨⟨by decide +kernel, by decide +kernel⟩, List.mem_of_getElem? (i := 16) (by decide +kernel), List.mem_of_getElem? (i := 667) (by decide +kernel), List.mem_of_getElem? (i := 668) (by decide +kernel)⟩
theorem lw_p22 : lw_okq (⟨"CoflowSimulator", "isFlow", "(II)Z"⟩, 6) := ⟨⟨by decide +kernel, by decide +kernel⟩, List.mem_of_getElem? (i := 16) (by decide +kernel), List.mem_of_getElem? (i := 688) (by decide +kernel), List.mem_of_getElem? (i := 689) (by decide +kernel)⟩
theorem lw_p23 : lw_okq (⟨"CoflowSimulator$PortLoads", "addRests", "(LCoflowSimulator$FlowList;)V"⟩, 1) := ⟨⟨by decide +kernel, by decide +kernel⟩, List.mem_of_getElem? (i := 306) (by decide +kernel), List.mem_of_getElem? (i := 759) (by decide +kernel), List.mem_of_getElem? (i := 760) (by decide +kernel)⟩
theorem lw_p24 : lw_okq (⟨"CoflowSimulator$Foretelling", "runToTotal", "()I"⟩, 7) := ⟨⟨by decide +kernel, by decide +kernel⟩, List.mem_of_getElem? (i := 316) (by decide +kernel), List.mem_of_getElem? (i := 763) (by decide +kernel), List.mem_of_getElem? (i := 764) (by decide +kernel)⟩
theorem lw_p25 : lw_okq (⟨"CoflowSimulator", "canBeOrdered", "()Z"⟩, 6) := ⟨⟨by decide +kernel, by decide +kernel⟩, List.mem_of_getElem? (i := 16) (by decide +kernel), List.mem_of_getElem? (i := 783) (by decide +kernel), List.mem_of_getElem? (i := 784) (by decide +kernel)⟩
theorem lw_p26 : lw_okq (⟨"CoflowSimulator$Foretelling", "listOpen", "(LCoflowSimulator$State;)I"⟩, 7) := ⟨⟨by decide +kernel, by decide +kernel⟩, List.mem_of_getElem? (i := 316) (by decide +kernel), List.mem_of_getElem? (i := 792) (by decide +kernel), List.mem_of_getElem? (i := 793) (by decide +kernel)⟩
theorem lw_p27 : lw_okq (⟨"CoflowSimulator$Foretelling", "setUpTrial", "(LCoflowSimulator$State;I)V"⟩, 7) := ⟨⟨by decide +kernel, by decide +kernel⟩, List.mem_of_getElem? (i := 316) (by decide +kernel), List.mem_of_getElem? (i := 797) (by decide +kernel), List.mem_of_getElem? (i := 798) (by decide +kernel)⟩
theorem lw_p28 : lw_okq (⟨"CoflowSimulator$Foretelling", "stepToNextOrder", "(I)Z"⟩, 7) := ⟨⟨by decide +kernel, by decide +kernel⟩, List.mem_of_getElem? (i := 316) (by decide +kernel), List.mem_of_getElem? (i := 802) (by decide +kernel), List.mem_of_getElem? (i := 803) (by decide +kernel)⟩
theorem lw_p29 : lw_okq (⟨"CoflowSimulator$Foretelling", "swap", "(II)V"⟩, 7) := ⟨⟨by decide +kernel, by decide +kernel⟩, List.mem_of_getElem? (i := 316) (by decide +kernel), List.mem_of_getElem? (i := 806) (by decide +kernel), List.mem_of_getElem? (i := 807) (by decide +kernel)⟩
theorem lw_p30 : lw_okq (⟨"CoflowSimulator", "withDraft", "(J)J"⟩, 6) := ⟨⟨by decide +kernel, by decide +kernel⟩, List.mem_of_getElem? (i := 16) (by decide +kernel), List.mem_of_getElem? (i := 851) (by decide +kernel), List.mem_of_getElem? (i := 852) (by decide +kernel)⟩
theorem lw_p31 : lw_okq (⟨"CoflowSimulator", "withGroup", "(JLCoflowSimulator$Group;)J"⟩, 6) := ⟨⟨by decide +kernel, by decide +kernel⟩, List.mem_of_getElem? (i := 16) (by decide +kernel), List.mem_of_getElem? (i := 855) (by decide +kernel), List.mem_of_getElem? (i := 856) (by decide +kernel)⟩
def lw_privs_2 : List (MethodName × Nat) := [(⟨"CoflowSimulator$Tick", "spread", "(LCoflowSimulator$FlowList;I)V"⟩, 11), (⟨"CoflowSimulator$Tick", "raise", "(LCoflowSimulator$FlowList;II)V"⟩, 11), (⟨"CoflowSimulator$Tick", "sendAll", "(LCoflowSimulator$State;)I"⟩, 11), (⟨"CoflowSimulator$Tick", "noteDone", "(LCoflowSimulator$State;)V"⟩, 11), (⟨"CoflowSimulator$Tick", "noteLate", "(LCoflowSimulator$State;)V"⟩, 11), (⟨"CoflowSimulator", "isGroup", "(I)Z"⟩, 6), (⟨"CoflowSimulator", "isFlow", "(II)Z"⟩, 6), (⟨"CoflowSimulator$PortLoads", "addRests", "(LCoflowSimulator$FlowList;)V"⟩, 1), (⟨"CoflowSimulator$Foretelling", "runToTotal", "()I"⟩, 7), (⟨"CoflowSimulator", "canBeOrdered", "()Z"⟩, 6), (⟨"CoflowSimulator$Foretelling", "listOpen", "(LCoflowSimulator$State;)I"⟩, 7), (⟨"CoflowSimulator$Foretelling", "setUpTrial", "(LCoflowSimulator$State;I)V"⟩, 7), (⟨"CoflowSimulator$Foretelling", "stepToNextOrder", "(I)Z"⟩, 7), (⟨"CoflowSimulator$Foretelling", "swap", "(II)V"⟩, 7), (⟨"CoflowSimulator", "withDraft", "(J)J"⟩, 6), (⟨"CoflowSimulator", "withGroup", "(JLCoflowSimulator$Group;)J"⟩, 6)]
theorem lw_r2 : ∀ q ∈ lw_privs_2, lw_okq q := List.forall_mem_cons.mpr ⟨lw_p16, List.forall_mem_cons.mpr ⟨lw_p17, List.forall_mem_cons.mpr ⟨lw_p18, List.forall_mem_cons.mpr ⟨lw_p19, List.forall_mem_cons.mpr ⟨lw_p20, List.forall_mem_cons.mpr ⟨lw_p21, List.forall_mem_cons.mpr ⟨lw_p22, List.forall_mem_cons.mpr ⟨lw_p23, List.forall_mem_cons.mpr ⟨lw_p24, List.forall_mem_cons.mpr ⟨lw_p25, List.forall_mem_cons.mpr ⟨lw_p26, List.forall_mem_cons.mpr ⟨lw_p27, List.forall_mem_cons.mpr ⟨lw_p28, List.forall_mem_cons.mpr ⟨lw_p29, List.forall_mem_cons.mpr ⟨lw_p30, List.forall_mem_cons.mpr ⟨lw_p31, fun _ h => absurd h List.not_mem_nil⟩⟩⟩⟩⟩⟩⟩⟩⟩⟩⟩⟩⟩⟩⟩⟩
theorem lw_p32 : lw_okq (⟨"CoflowSimulator", "withEvents", "(J)J"⟩, 6) := ⟨⟨by decide +kernel, by decide +kernel⟩, List.mem_of_getElem? (i := 16) (by decide +kernel), List.mem_of_getElem? (i := 859) (by decide +kernel), List.mem_of_getElem? (i := 860) (by decide +kernel)⟩
theorem lw_p33 : lw_okq (⟨"CoflowSimulatorModel", "readsAll", "(Z)Z"⟩, 20) := ⟨⟨by decide +kernel, by decide +kernel⟩, List.mem_of_getElem? (i := 863) (by decide +kernel), List.mem_of_getElem? (i := 946) (by decide +kernel), List.mem_of_getElem? (i := 947) (by decide +kernel)⟩
theorem lw_p34 : lw_okq (⟨"CoflowSimulatorModel", "readsFlow", "()Z"⟩, 20) := ⟨⟨by decide +kernel, by decide +kernel⟩, List.mem_of_getElem? (i := 863) (by decide +kernel), List.mem_of_getElem? (i := 950) (by decide +kernel), List.mem_of_getElem? (i := 951) (by decide +kernel)⟩
theorem lw_p35 : lw_okq (⟨"CoflowSimulatorModel", "here", "(I)Z"⟩, 20) := ⟨⟨by decide +kernel, by decide +kernel⟩, List.mem_of_getElem? (i := 863) (by decide +kernel), List.mem_of_getElem? (i := 954) (by decide +kernel), List.mem_of_getElem? (i := 955) (by decide +kernel)⟩
theorem lw_p36 : lw_okq (⟨"CoflowSimulatorModel", "port", "()I"⟩, 20) := ⟨⟨by decide +kernel, by decide +kernel⟩, List.mem_of_getElem? (i := 863) (by decide +kernel), List.mem_of_getElem? (i := 958) (by decide +kernel), List.mem_of_getElem? (i := 959) (by decide +kernel)⟩
theorem lw_p37 : lw_okq (⟨"CoflowSimulatorModel", "sign", "(I)Z"⟩, 20) := ⟨⟨by decide +kernel, by decide +kernel⟩, List.mem_of_getElem? (i := 863) (by decide +kernel), List.mem_of_getElem? (i := 964) (by decide +kernel), List.mem_of_getElem? (i := 965) (by decide +kernel)⟩
theorem lw_p38 : lw_okq (⟨"CoflowSimulatorModel", "number", "()I"⟩, 20) := ⟨⟨by decide +kernel, by decide +kernel⟩, List.mem_of_getElem? (i := 863) (by decide +kernel), List.mem_of_getElem? (i := 968) (by decide +kernel), List.mem_of_getElem? (i := 969) (by decide +kernel)⟩
theorem lw_p39 : lw_okq (⟨"CoflowSimulatorModel", "drafts", "(III)V"⟩, 20) := ⟨⟨by decide +kernel, by decide +kernel⟩, List.mem_of_getElem? (i := 863) (by decide +kernel), List.mem_of_getElem? (i := 975) (by decide +kernel), List.mem_of_getElem? (i := 976) (by decide +kernel)⟩
theorem lw_p40 : lw_okq (⟨"CoflowSimulatorModel", "saves", "()V"⟩, 20) := ⟨⟨by decide +kernel, by decide +kernel⟩, List.mem_of_getElem? (i := 863) (by decide +kernel), List.mem_of_getElem? (i := 984) (by decide +kernel), List.mem_of_getElem? (i := 985) (by decide +kernel)⟩
theorem lw_p41 : lw_okq (⟨"CoflowSimulatorModel", "copies", "(II)V"⟩, 20) := ⟨⟨by decide +kernel, by decide +kernel⟩, List.mem_of_getElem? (i := 863) (by decide +kernel), List.mem_of_getElem? (i := 988) (by decide +kernel), List.mem_of_getElem? (i := 989) (by decide +kernel)⟩
theorem lw_p42 : lw_okq (⟨"CoflowSimulatorModel", "sets", "(III)V"⟩, 20) := ⟨⟨by decide +kernel, by decide +kernel⟩, List.mem_of_getElem? (i := 863) (by decide +kernel), List.mem_of_getElem? (i := 1007) (by decide +kernel), List.mem_of_getElem? (i := 1008) (by decide +kernel)⟩
theorem lw_p43 : lw_okq (⟨"CoflowSimulatorModel", "setsFlow", "(IIII)V"⟩, 20) := ⟨⟨by decide +kernel, by decide +kernel⟩, List.mem_of_getElem? (i := 863) (by decide +kernel), List.mem_of_getElem? (i := 1011) (by decide +kernel), List.mem_of_getElem? (i := 1012) (by decide +kernel)⟩
theorem lw_p44 : lw_okq (⟨"CoflowSimulatorModel", "hasDeadline", "(I)Z"⟩, 20) := ⟨⟨by decide +kernel, by decide +kernel⟩, List.mem_of_getElem? (i := 863) (by decide +kernel), List.mem_of_getElem? (i := 1015) (by decide +kernel), List.mem_of_getElem? (i := 1016) (by decide +kernel)⟩
theorem lw_p45 : lw_okq (⟨"CoflowSimulatorModel", "of", "(II)I"⟩, 20) := ⟨⟨by decide +kernel, by decide +kernel⟩, List.mem_of_getElem? (i := 863) (by decide +kernel), List.mem_of_getElem? (i := 1019) (by decide +kernel), List.mem_of_getElem? (i := 1020) (by decide +kernel)⟩
theorem lw_p46 : lw_okq (⟨"CoflowSimulatorModel", "isAdmitted", "(I)Z"⟩, 20) := ⟨⟨by decide +kernel, by decide +kernel⟩, List.mem_of_getElem? (i := 863) (by decide +kernel), List.mem_of_getElem? (i := 1023) (by decide +kernel), List.mem_of_getElem? (i := 1024) (by decide +kernel)⟩
theorem lw_p47 : lw_okq (⟨"CoflowSimulatorModel", "stateOf", "(I)I"⟩, 20) := ⟨⟨by decide +kernel, by decide +kernel⟩, List.mem_of_getElem? (i := 863) (by decide +kernel), List.mem_of_getElem? (i := 1027) (by decide +kernel), List.mem_of_getElem? (i := 1028) (by decide +kernel)⟩
def lw_privs_3 : List (MethodName × Nat) := [(⟨"CoflowSimulator", "withEvents", "(J)J"⟩, 6), (⟨"CoflowSimulatorModel", "readsAll", "(Z)Z"⟩, 20), (⟨"CoflowSimulatorModel", "readsFlow", "()Z"⟩, 20), (⟨"CoflowSimulatorModel", "here", "(I)Z"⟩, 20), (⟨"CoflowSimulatorModel", "port", "()I"⟩, 20), (⟨"CoflowSimulatorModel", "sign", "(I)Z"⟩, 20), (⟨"CoflowSimulatorModel", "number", "()I"⟩, 20), (⟨"CoflowSimulatorModel", "drafts", "(III)V"⟩, 20), (⟨"CoflowSimulatorModel", "saves", "()V"⟩, 20), (⟨"CoflowSimulatorModel", "copies", "(II)V"⟩, 20), (⟨"CoflowSimulatorModel", "sets", "(III)V"⟩, 20), (⟨"CoflowSimulatorModel", "setsFlow", "(IIII)V"⟩, 20), (⟨"CoflowSimulatorModel", "hasDeadline", "(I)Z"⟩, 20), (⟨"CoflowSimulatorModel", "of", "(II)I"⟩, 20), (⟨"CoflowSimulatorModel", "isAdmitted", "(I)Z"⟩, 20), (⟨"CoflowSimulatorModel", "stateOf", "(I)I"⟩, 20)]
theorem lw_r3 : ∀ q ∈ lw_privs_3, lw_okq q := List.forall_mem_cons.mpr ⟨lw_p32, List.forall_mem_cons.mpr ⟨lw_p33, List.forall_mem_cons.mpr ⟨lw_p34, List.forall_mem_cons.mpr ⟨lw_p35, List.forall_mem_cons.mpr ⟨lw_p36, List.forall_mem_cons.mpr ⟨lw_p37, List.forall_mem_cons.mpr ⟨lw_p38, List.forall_mem_cons.mpr ⟨lw_p39, List.forall_mem_cons.mpr ⟨lw_p40, List.forall_mem_cons.mpr ⟨lw_p41, List.forall_mem_cons.mpr ⟨lw_p42, List.forall_mem_cons.mpr ⟨lw_p43, List.forall_mem_cons.mpr ⟨lw_p44, List.forall_mem_cons.mpr ⟨lw_p45, List.forall_mem_cons.mpr ⟨lw_p46, List.forall_mem_cons.mpr ⟨lw_p47, fun _ h => absurd h List.not_mem_nil⟩⟩⟩⟩⟩⟩⟩⟩⟩⟩⟩⟩⟩⟩⟩⟩
theorem lw_p48 : lw_okq (⟨"CoflowSimulatorModel", "committed", "(II)J"⟩, 20) := ⟨⟨by decide +kernel, by decide +kernel⟩, List.mem_of_getElem? (i := 863) (by decide +kernel), List.mem_of_getElem? (i := 1031) (by decide +kernel), List.mem_of_getElem? (i := 1032) (by decide +kernel)⟩
theorem lw_p49 : lw_okq (⟨"CoflowSimulatorModel", "flowOf", "(III)I"⟩, 20) := ⟨⟨by decide +kernel, by decide +kernel⟩, List.mem_of_getElem? (i := 863) (by decide +kernel), List.mem_of_getElem? (i := 1035) (by decide +kernel), List.mem_of_getElem? (i := 1036) (by decide +kernel)⟩
theorem lw_p50 : lw_okq (⟨"CoflowSimulatorModel", "notes", "(III)V"⟩, 20) := ⟨⟨by decide +kernel, by decide +kernel⟩, List.mem_of_getElem? (i := 863) (by decide +kernel), List.mem_of_getElem? (i := 1042) (by decide +kernel), List.mem_of_getElem? (i := 1043) (by decide +kernel)⟩
theorem lw_p51 : lw_okq (⟨"CoflowSimulatorModel", "becomes", "(II)I"⟩, 20) := ⟨⟨by decide +kernel, by decide +kernel⟩, List.mem_of_getElem? (i := 863) (by decide +kernel), List.mem_of_getElem? (i := 1051) (by decide +kernel), List.mem_of_getElem? (i := 1052) (by decide +kernel)⟩
theorem lw_p52 : lw_okq (⟨"CoflowSimulatorModel", "ticks", "()V"⟩, 20) := ⟨⟨by decide +kernel, by decide +kernel⟩, List.mem_of_getElem? (i := 863) (by decide +kernel), List.mem_of_getElem? (i := 1069) (by decide +kernel), List.mem_of_getElem? (i := 1070) (by decide +kernel)⟩
theorem lw_p53 : lw_okq (⟨"CoflowSimulatorModel", "worksOut", "()V"⟩, 20) := ⟨⟨by decide +kernel, by decide +kernel⟩, List.mem_of_getElem? (i := 863) (by decide +kernel), List.mem_of_getElem? (i := 1073) (by decide +kernel), List.mem_of_getElem? (i := 1074) (by decide +kernel)⟩
theorem lw_p54 : lw_okq (⟨"CoflowSimulatorModel", "orders", "()V"⟩, 20) := ⟨⟨by decide +kernel, by decide +kernel⟩, List.mem_of_getElem? (i := 863) (by decide +kernel), List.mem_of_getElem? (i := 1077) (by decide +kernel), List.mem_of_getElem? (i := 1078) (by decide +kernel)⟩
theorem lw_p55 : lw_okq (⟨"CoflowSimulatorModel", "ordersFixed", "()V"⟩, 20) := ⟨⟨by decide +kernel, by decide +kernel⟩, List.mem_of_getElem? (i := 863) (by decide +kernel), List.mem_of_getElem? (i := 1081) (by decide +kernel), List.mem_of_getElem? (i := 1082) (by decide +kernel)⟩
theorem lw_p56 : lw_okq (⟨"CoflowSimulatorModel", "keyOf", "(I)J"⟩, 20) := ⟨⟨by decide +kernel, by decide +kernel⟩, List.mem_of_getElem? (i := 863) (by decide +kernel), List.mem_of_getElem? (i := 1085) (by decide +kernel), List.mem_of_getElem? (i := 1086) (by decide +kernel)⟩
theorem lw_p57 : lw_okq (⟨"CoflowSimulatorModel", "loneSpanOf", "(I)I"⟩, 20) := ⟨⟨by decide +kernel, by decide +kernel⟩, List.mem_of_getElem? (i := 863) (by decide +kernel), List.mem_of_getElem? (i := 1089) (by decide +kernel), List.mem_of_getElem? (i := 1090) (by decide +kernel)⟩
theorem lw_p58 : lw_okq (⟨"CoflowSimulatorModel", "allAvailable", "()V"⟩, 20) := ⟨⟨by decide +kernel, by decide +kernel⟩, List.mem_of_getElem? (i := 863) (by decide +kernel), List.mem_of_getElem? (i := 1093) (by decide +kernel), List.mem_of_getElem? (i := 1094) (by decide +kernel)⟩
theorem lw_p59 : lw_okq (⟨"CoflowSimulatorModel", "spanOf", "(I)I"⟩, 20) := ⟨⟨by decide +kernel, by decide +kernel⟩, List.mem_of_getElem? (i := 863) (by decide +kernel), List.mem_of_getElem? (i := 1097) (by decide +kernel), List.mem_of_getElem? (i := 1098) (by decide +kernel)⟩
theorem lw_p60 : lw_okq (⟨"CoflowSimulatorModel", "fits", "(II)Z"⟩, 20) := ⟨⟨by decide +kernel, by decide +kernel⟩, List.mem_of_getElem? (i := 863) (by decide +kernel), List.mem_of_getElem? (i := 1102) (by decide +kernel), List.mem_of_getElem? (i := 1103) (by decide +kernel)⟩
theorem lw_p61 : lw_okq (⟨"CoflowSimulatorModel", "restOf", "(I)I"⟩, 20) := ⟨⟨by decide +kernel, by decide +kernel⟩, List.mem_of_getElem? (i := 863) (by decide +kernel), List.mem_of_getElem? (i := 1107) (by decide +kernel), List.mem_of_getElem? (i := 1108) (by decide +kernel)⟩
theorem lw_p62 : lw_okq (⟨"CoflowSimulatorModel", "undone", "(I)I"⟩, 20) := ⟨⟨by decide +kernel, by decide +kernel⟩, List.mem_of_getElem? (i := 863) (by decide +kernel), List.mem_of_getElem? (i := 1111) (by decide +kernel), List.mem_of_getElem? (i := 1112) (by decide +kernel)⟩
theorem lw_p63 : lw_okq (⟨"CoflowSimulatorModel", "levelOf", "(I)I"⟩, 20) := ⟨⟨by decide +kernel, by decide +kernel⟩, List.mem_of_getElem? (i := 863) (by decide +kernel), List.mem_of_getElem? (i := 1115) (by decide +kernel), List.mem_of_getElem? (i := 1116) (by decide +kernel)⟩
def lw_privs_4 : List (MethodName × Nat) := [(⟨"CoflowSimulatorModel", "committed", "(II)J"⟩, 20), (⟨"CoflowSimulatorModel", "flowOf", "(III)I"⟩, 20), (⟨"CoflowSimulatorModel", "notes", "(III)V"⟩, 20), (⟨"CoflowSimulatorModel", "becomes", "(II)I"⟩, 20), (⟨"CoflowSimulatorModel", "ticks", "()V"⟩, 20), (⟨"CoflowSimulatorModel", "worksOut", "()V"⟩, 20), (⟨"CoflowSimulatorModel", "orders", "()V"⟩, 20), (⟨"CoflowSimulatorModel", "ordersFixed", "()V"⟩, 20), (⟨"CoflowSimulatorModel", "keyOf", "(I)J"⟩, 20), (⟨"CoflowSimulatorModel", "loneSpanOf", "(I)I"⟩, 20), (⟨"CoflowSimulatorModel", "allAvailable", "()V"⟩, 20), (⟨"CoflowSimulatorModel", "spanOf", "(I)I"⟩, 20), (⟨"CoflowSimulatorModel", "fits", "(II)Z"⟩, 20), (⟨"CoflowSimulatorModel", "restOf", "(I)I"⟩, 20), (⟨"CoflowSimulatorModel", "undone", "(I)I"⟩, 20), (⟨"CoflowSimulatorModel", "levelOf", "(I)I"⟩, 20)]
theorem lw_r4 : ∀ q ∈ lw_privs_4, lw_okq q := List.forall_mem_cons.mpr ⟨lw_p48, List.forall_mem_cons.mpr ⟨lw_p49, List.forall_mem_cons.mpr ⟨lw_p50, List.forall_mem_cons.mpr ⟨lw_p51, List.forall_mem_cons.mpr ⟨lw_p52, List.forall_mem_cons.mpr ⟨lw_p53, List.forall_mem_cons.mpr ⟨lw_p54, List.forall_mem_cons.mpr ⟨lw_p55, List.forall_mem_cons.mpr ⟨lw_p56, List.forall_mem_cons.mpr ⟨lw_p57, List.forall_mem_cons.mpr ⟨lw_p58, List.forall_mem_cons.mpr ⟨lw_p59, List.forall_mem_cons.mpr ⟨lw_p60, List.forall_mem_cons.mpr ⟨lw_p61, List.forall_mem_cons.mpr ⟨lw_p62, List.forall_mem_cons.mpr ⟨lw_p63, fun _ h => absurd h List.not_mem_nil⟩⟩⟩⟩⟩⟩⟩⟩⟩⟩⟩⟩⟩⟩⟩⟩
theorem lw_p64 : lw_okq (⟨"CoflowSimulatorModel", "isBefore", "(II)Z"⟩, 20) := ⟨⟨by decide +kernel, by decide +kernel⟩, List.mem_of_getElem? (i := 863) (by decide +kernel), List.mem_of_getElem? (i := 1119) (by decide +kernel), List.mem_of_getElem? (i := 1120) (by decide +kernel)⟩
theorem lw_p65 : lw_okq (⟨"CoflowSimulatorModel", "gives", "(I)V"⟩, 20) := ⟨⟨by decide +kernel, by decide +kernel⟩, List.mem_of_getElem? (i := 863) (by decide +kernel), List.mem_of_getElem? (i := 1123) (by decide +kernel), List.mem_of_getElem? (i := 1124) (by decide +kernel)⟩
theorem lw_p66 : lw_okq (⟨"CoflowSimulatorModel", "shares", "(I)V"⟩, 20) := ⟨⟨by decide +kernel, by decide +kernel⟩, List.mem_of_getElem? (i := 863) (by decide +kernel), List.mem_of_getElem? (i := 1127) (by decide +kernel), List.mem_of_getElem? (i := 1128) (by decide +kernel)⟩
theorem lw_p67 : lw_okq (⟨"CoflowSimulatorModel", "preempts", "()V"⟩, 20) := ⟨⟨by decide +kernel, by decide +kernel⟩, List.mem_of_getElem? (i := 863) (by decide +kernel), List.mem_of_getElem? (i := 1131) (by decide +kernel), List.mem_of_getElem? (i := 1132) (by decide +kernel)⟩
theorem lw_p68 : lw_okq (⟨"CoflowSimulatorModel", "sends", "(I)V"⟩, 20) := ⟨⟨by decide +kernel, by decide +kernel⟩, List.mem_of_getElem? (i := 863) (by decide +kernel), List.mem_of_getElem? (i := 1135) (by decide +kernel), List.mem_of_getElem? (i := 1136) (by decide +kernel)⟩
theorem lw_p69 : lw_okq (⟨"CoflowSimulatorModel", "many", "(I)I"⟩, 20) := ⟨⟨by decide +kernel, by decide +kernel⟩, List.mem_of_getElem? (i := 863) (by decide +kernel), List.mem_of_getElem? (i := 1139) (by decide +kernel), List.mem_of_getElem? (i := 1140) (by decide +kernel)⟩
theorem lw_p70 : lw_okq (⟨"CoflowSimulatorModel", "isGroup", "(I)Z"⟩, 20) := ⟨⟨by decide +kernel, by decide +kernel⟩, List.mem_of_getElem? (i := 863) (by decide +kernel), List.mem_of_getElem? (i := 1159) (by decide +kernel), List.mem_of_getElem? (i := 1160) (by decide +kernel)⟩
theorem lw_p71 : lw_okq (⟨"CoflowSimulatorModel", "isFlow", "(II)Z"⟩, 20) := ⟨⟨by decide +kernel, by decide +kernel⟩, List.mem_of_getElem? (i := 863) (by decide +kernel), List.mem_of_getElem? (i := 1179) (by decide +kernel), List.mem_of_getElem? (i := 1180) (by decide +kernel)⟩
theorem lw_p72 : lw_okq (⟨"CoflowSimulatorModel", "totalBy", "(I)I"⟩, 20) := ⟨⟨by decide +kernel, by decide +kernel⟩, List.mem_of_getElem? (i := 863) (by decide +kernel), List.mem_of_getElem? (i := 1220) (by decide +kernel), List.mem_of_getElem? (i := 1221) (by decide +kernel)⟩
theorem lw_p73 : lw_okq (⟨"CoflowSimulatorModel", "totalOf", "()I"⟩, 20) := ⟨⟨by decide +kernel, by decide +kernel⟩, List.mem_of_getElem? (i := 863) (by decide +kernel), List.mem_of_getElem? (i := 1224) (by decide +kernel), List.mem_of_getElem? (i := 1225) (by decide +kernel)⟩
theorem lw_p74 : lw_okq (⟨"CoflowSimulatorModel", "left", "()I"⟩, 20) := ⟨⟨by decide +kernel, by decide +kernel⟩, List.mem_of_getElem? (i := 863) (by decide +kernel), List.mem_of_getElem? (i := 1228) (by decide +kernel), List.mem_of_getElem? (i := 1229) (by decide +kernel)⟩
theorem lw_p75 : lw_okq (⟨"CoflowSimulatorModel", "findsBestOrder", "()I"⟩, 20) := ⟨⟨by decide +kernel, by decide +kernel⟩, List.mem_of_getElem? (i := 863) (by decide +kernel), List.mem_of_getElem? (i := 1240) (by decide +kernel), List.mem_of_getElem? (i := 1241) (by decide +kernel)⟩
theorem lw_p76 : lw_okq (⟨"CoflowSimulatorModel", "next", "()Z"⟩, 20) := ⟨⟨by decide +kernel, by decide +kernel⟩, List.mem_of_getElem? (i := 863) (by decide +kernel), List.mem_of_getElem? (i := 1244) (by decide +kernel), List.mem_of_getElem? (i := 1245) (by decide +kernel)⟩
theorem lw_p77 : lw_okq (⟨"CoflowSimulatorModel", "swaps", "(II)V"⟩, 20) := ⟨⟨by decide +kernel, by decide +kernel⟩, List.mem_of_getElem? (i := 863) (by decide +kernel), List.mem_of_getElem? (i := 1248) (by decide +kernel), List.mem_of_getElem? (i := 1249) (by decide +kernel)⟩
theorem lw_p78 : lw_okq (⟨"CoflowSimulatorModel", "note", "(I)V"⟩, 20) := ⟨⟨by decide +kernel, by decide +kernel⟩, List.mem_of_getElem? (i := 863) (by decide +kernel), List.mem_of_getElem? (i := 1282) (by decide +kernel), List.mem_of_getElem? (i := 1283) (by decide +kernel)⟩
theorem lw_p79 : lw_okq (⟨"CoflowSimulatorModel", "noteGroup", "(I)V"⟩, 20) := ⟨⟨by decide +kernel, by decide +kernel⟩, List.mem_of_getElem? (i := 863) (by decide +kernel), List.mem_of_getElem? (i := 1287) (by decide +kernel), List.mem_of_getElem? (i := 1288) (by decide +kernel)⟩
def lw_privs_5 : List (MethodName × Nat) := [(⟨"CoflowSimulatorModel", "isBefore", "(II)Z"⟩, 20), (⟨"CoflowSimulatorModel", "gives", "(I)V"⟩, 20), (⟨"CoflowSimulatorModel", "shares", "(I)V"⟩, 20), (⟨"CoflowSimulatorModel", "preempts", "()V"⟩, 20), (⟨"CoflowSimulatorModel", "sends", "(I)V"⟩, 20), (⟨"CoflowSimulatorModel", "many", "(I)I"⟩, 20), (⟨"CoflowSimulatorModel", "isGroup", "(I)Z"⟩, 20), (⟨"CoflowSimulatorModel", "isFlow", "(II)Z"⟩, 20), (⟨"CoflowSimulatorModel", "totalBy", "(I)I"⟩, 20), (⟨"CoflowSimulatorModel", "totalOf", "()I"⟩, 20), (⟨"CoflowSimulatorModel", "left", "()I"⟩, 20), (⟨"CoflowSimulatorModel", "findsBestOrder", "()I"⟩, 20), (⟨"CoflowSimulatorModel", "next", "()Z"⟩, 20), (⟨"CoflowSimulatorModel", "swaps", "(II)V"⟩, 20), (⟨"CoflowSimulatorModel", "note", "(I)V"⟩, 20), (⟨"CoflowSimulatorModel", "noteGroup", "(I)V"⟩, 20)]
theorem lw_r5 : ∀ q ∈ lw_privs_5, lw_okq q := List.forall_mem_cons.mpr ⟨lw_p64, List.forall_mem_cons.mpr ⟨lw_p65, List.forall_mem_cons.mpr ⟨lw_p66, List.forall_mem_cons.mpr ⟨lw_p67, List.forall_mem_cons.mpr ⟨lw_p68, List.forall_mem_cons.mpr ⟨lw_p69, List.forall_mem_cons.mpr ⟨lw_p70, List.forall_mem_cons.mpr ⟨lw_p71, List.forall_mem_cons.mpr ⟨lw_p72, List.forall_mem_cons.mpr ⟨lw_p73, List.forall_mem_cons.mpr ⟨lw_p74, List.forall_mem_cons.mpr ⟨lw_p75, List.forall_mem_cons.mpr ⟨lw_p76, List.forall_mem_cons.mpr ⟨lw_p77, List.forall_mem_cons.mpr ⟨lw_p78, List.forall_mem_cons.mpr ⟨lw_p79, fun _ h => absurd h List.not_mem_nil⟩⟩⟩⟩⟩⟩⟩⟩⟩⟩⟩⟩⟩⟩⟩⟩
def lw_privs : List (MethodName × Nat) := lw_privs_1 ++ (lw_privs_2 ++ (lw_privs_3 ++ (lw_privs_4 ++ (lw_privs_5))))
def lw_tbl : List Cond := k2_sels lw_privs ++ tables_1
theorem lw_privs_ok : ∀ q ∈ lw_privs, lw_okq q := by
  show ∀ q ∈ lw_privs_1 ++ (lw_privs_2 ++ (lw_privs_3 ++ (lw_privs_4 ++ (lw_privs_5)))), lw_okq q
  exact List.forall_mem_append.mpr ⟨lw_r1, List.forall_mem_append.mpr ⟨lw_r2, List.forall_mem_append.mpr ⟨lw_r3, List.forall_mem_append.mpr ⟨lw_r4, lw_r5⟩⟩⟩⟩

def RX0 : String := "CoflowSimulator$EventLog"
def TX0 : u_T := fun k => match k with
  | 0 => ("CoflowSimulator$EventLog", "kept", "I", false)
  | 1 => ("CoflowSimulator$EventLog", "next", "I", false)
  | 2 => ("CoflowSimulator$EventLog", "kind", "[I", true)
  | 3 => ("CoflowSimulator$EventLog", "group", "[I", true)
  | _ => ("CoflowSimulator$EventLog", "time", "[I", true)
def tyX0 : Nat → FieldType := fun k => match k with
  | 0 => .int
  | 1 => .int
  | 2 => .array .int
  | 3 => .array .int
  | _ => .array .int
theorem nmX0 : ∀ a, a < 5 → ∀ b, b < 5 → a ≠ b → (TX0 a).2.1 ≠ (TX0 b).2.1 := by decide +kernel
theorem tyX0_ok : ∀ k, k < 5 → parseFieldDescriptor (TX0 k).2.2.1 = some (tyX0 k) := by decide +kernel
def RX1 : String := "CoflowSimulator$FlowList"
def TX1 : u_T := fun k => match k with
  | 0 => ("CoflowSimulator$FlowList", "count", "I", false)
  | 1 => ("CoflowSimulator$FlowList", "sender", "[I", true)
  | 2 => ("CoflowSimulator$FlowList", "receiver", "[I", true)
  | 3 => ("CoflowSimulator$FlowList", "size", "[I", true)
  | 4 => ("CoflowSimulator$FlowList", "rest", "[I", true)
  | _ => ("CoflowSimulator$FlowList", "rate", "[I", true)
def tyX1 : Nat → FieldType := fun k => match k with
  | 0 => .int
  | 1 => .array .int
  | 2 => .array .int
  | 3 => .array .int
  | 4 => .array .int
  | _ => .array .int
theorem nmX1 : ∀ a, a < 6 → ∀ b, b < 6 → a ≠ b → (TX1 a).2.1 ≠ (TX1 b).2.1 := by decide +kernel
theorem tyX1_ok : ∀ k, k < 6 → parseFieldDescriptor (TX1 k).2.2.1 = some (tyX1 k) := by decide +kernel
def RX2 : String := "CoflowSimulator$FlowText"
def TX2 : u_T := fun k => match k with
  | 0 => ("CoflowSimulator$FlowText", "length", "I", false)
  | 1 => ("CoflowSimulator$FlowText", "at", "I", false)
  | 2 => ("CoflowSimulator$FlowText", "bytes", "[I", true)
  | _ => ("CoflowSimulator$FlowText", "found", "LCoflowSimulator$FlowList;", true)
def tyX2 : Nat → FieldType := fun k => match k with
  | 0 => .int
  | 1 => .int
  | 2 => .array .int
  | _ => .object "CoflowSimulator$FlowList"
theorem nmX2 : ∀ a, a < 4 → ∀ b, b < 4 → a ≠ b → (TX2 a).2.1 ≠ (TX2 b).2.1 := by decide +kernel
theorem tyX2_ok : ∀ k, k < 4 → parseFieldDescriptor (TX2 k).2.2.1 = some (tyX2 k) := by decide +kernel
def RX3 : String := "CoflowSimulator$Foretelling"
def TX3 : u_T := fun k => match k with
  | 0 => ("CoflowSimulator$Foretelling", "copy", "LCoflowSimulator$State;", true)
  | 1 => ("CoflowSimulator$Foretelling", "tick", "LCoflowSimulator$Tick;", true)
  | 2 => ("CoflowSimulator$Foretelling", "loads", "LCoflowSimulator$PortLoads;", true)
  | 3 => ("CoflowSimulator$Foretelling", "bestTotal", "I", false)
  | 4 => ("CoflowSimulator$Foretelling", "best", "[I", true)
  | 5 => ("CoflowSimulator$Foretelling", "bestKnown", "Z", false)
  | _ => ("CoflowSimulator$Foretelling", "trial", "[I", true)
def tyX3 : Nat → FieldType := fun k => match k with
  | 0 => .object "CoflowSimulator$State"
  | 1 => .object "CoflowSimulator$Tick"
  | 2 => .object "CoflowSimulator$PortLoads"
  | 3 => .int
  | 4 => .array .int
  | 5 => .boolean
  | _ => .array .int
theorem nmX3 : ∀ a, a < 7 → ∀ b, b < 7 → a ≠ b → (TX3 a).2.1 ≠ (TX3 b).2.1 := by decide +kernel
theorem tyX3_ok : ∀ k, k < 7 → parseFieldDescriptor (TX3 k).2.2.1 = some (tyX3 k) := by decide +kernel
def RX4 : String := "CoflowSimulator$Group"
def TX4 : u_T := fun k => match k with
  | 0 => ("CoflowSimulator$Group", "arrival", "I", false)
  | 1 => ("CoflowSimulator$Group", "weight", "I", false)
  | 2 => ("CoflowSimulator$Group", "deadline", "I", false)
  | 3 => ("CoflowSimulator$Group", "end", "I", false)
  | 4 => ("CoflowSimulator$Group", "rejected", "Z", false)
  | _ => ("CoflowSimulator$Group", "flows", "LCoflowSimulator$FlowList;", true)
def tyX4 : Nat → FieldType := fun k => match k with
  | 0 => .int
  | 1 => .int
  | 2 => .int
  | 3 => .int
  | 4 => .boolean
  | _ => .object "CoflowSimulator$FlowList"
theorem nmX4 : ∀ a, a < 6 → ∀ b, b < 6 → a ≠ b → (TX4 a).2.1 ≠ (TX4 b).2.1 := by decide +kernel
theorem tyX4_ok : ∀ k, k < 6 → parseFieldDescriptor (TX4 k).2.2.1 = some (tyX4 k) := by decide +kernel
def RX5 : String := "CoflowSimulator$History"
def TX5 : u_T := fun k => match k with
  | 0 => ("CoflowSimulator$History", "kept", "I", false)
  | 1 => ("CoflowSimulator$History", "next", "I", false)
  | _ => ("CoflowSimulator$History", "saved", "[LCoflowSimulator$State;", true)
def tyX5 : Nat → FieldType := fun k => match k with
  | 0 => .int
  | 1 => .int
  | _ => .array (.object "CoflowSimulator$State")
theorem nmX5 : ∀ a, a < 3 → ∀ b, b < 3 → a ≠ b → (TX5 a).2.1 ≠ (TX5 b).2.1 := by decide +kernel
theorem tyX5_ok : ∀ k, k < 3 → parseFieldDescriptor (TX5 k).2.2.1 = some (tyX5 k) := by decide +kernel
def RX6 : String := "CoflowSimulator$PortLoads"
def TX6 : u_T := fun k => match k with
  | _ => ("CoflowSimulator$PortLoads", "load", "[I", true)
def tyX6 : Nat → FieldType := fun k => match k with
  | _ => .array .int
theorem nmX6 : ∀ a, a < 1 → ∀ b, b < 1 → a ≠ b → (TX6 a).2.1 ≠ (TX6 b).2.1 := by decide +kernel
theorem tyX6_ok : ∀ k, k < 1 → parseFieldDescriptor (TX6 k).2.2.1 = some (tyX6 k) := by decide +kernel
def RX7 : String := "CoflowSimulator$State"
def TX7 : u_T := fun k => match k with
  | 0 => ("CoflowSimulator$State", "time", "I", false)
  | 1 => ("CoflowSimulator$State", "policy", "I", false)
  | 2 => ("CoflowSimulator$State", "sharing", "Z", false)
  | 3 => ("CoflowSimulator$State", "deadlines", "Z", false)
  | 4 => ("CoflowSimulator$State", "preemptions", "I", false)
  | 5 => ("CoflowSimulator$State", "leader", "I", false)
  | 6 => ("CoflowSimulator$State", "groupCount", "I", false)
  | 7 => ("CoflowSimulator$State", "capacity", "[I", true)
  | 8 => ("CoflowSimulator$State", "moved", "[I", true)
  | 9 => ("CoflowSimulator$State", "draft", "LCoflowSimulator$FlowList;", true)
  | 10 => ("CoflowSimulator$State", "groups", "[LCoflowSimulator$Group;", true)
  | _ => ("CoflowSimulator$State", "log", "LCoflowSimulator$EventLog;", true)
def tyX7 : Nat → FieldType := fun k => match k with
  | 0 => .int
  | 1 => .int
  | 2 => .boolean
  | 3 => .boolean
  | 4 => .int
  | 5 => .int
  | 6 => .int
  | 7 => .array .int
  | 8 => .array .int
  | 9 => .object "CoflowSimulator$FlowList"
  | 10 => .array (.object "CoflowSimulator$Group")
  | _ => .object "CoflowSimulator$EventLog"
theorem nmX7 : ∀ a, a < 12 → ∀ b, b < 12 → a ≠ b → (TX7 a).2.1 ≠ (TX7 b).2.1 := by decide +kernel
theorem tyX7_ok : ∀ k, k < 12 → parseFieldDescriptor (TX7 k).2.2.1 = some (tyX7 k) := by decide +kernel
def RX8 : String := "CoflowSimulator$Tick"
def TX8 : u_T := fun k => match k with
  | 0 => ("CoflowSimulator$Tick", "active", "I", false)
  | 1 => ("CoflowSimulator$Tick", "order", "[I", true)
  | 2 => ("CoflowSimulator$Tick", "span", "[I", true)
  | 3 => ("CoflowSimulator$Tick", "available", "[I", true)
  | 4 => ("CoflowSimulator$Tick", "fixedPlace", "[I", true)
  | 5 => ("CoflowSimulator$Tick", "tier", "[I", true)
  | 6 => ("CoflowSimulator$Tick", "number", "[J", true)
  | 7 => ("CoflowSimulator$Tick", "divisor", "[I", true)
  | 8 => ("CoflowSimulator$Tick", "units", "[I", true)
  | 9 => ("CoflowSimulator$Tick", "uses", "[I", true)
  | _ => ("CoflowSimulator$Tick", "load", "[I", true)
def tyX8 : Nat → FieldType := fun k => match k with
  | 0 => .int
  | 1 => .array .int
  | 2 => .array .int
  | 3 => .array .int
  | 4 => .array .int
  | 5 => .array .int
  | 6 => .array .long
  | 7 => .array .int
  | 8 => .array .int
  | 9 => .array .int
  | _ => .array .int
theorem nmX8 : ∀ a, a < 11 → ∀ b, b < 11 → a ≠ b → (TX8 a).2.1 ≠ (TX8 b).2.1 := by decide +kernel
theorem tyX8_ok : ∀ k, k < 11 → parseFieldDescriptor (TX8 k).2.2.1 = some (tyX8 k) := by decide +kernel
def RX9 : String := "CoflowSimulator"
def TX9 : u_T := fun k => match k with
  | 0 => ("CoflowSimulator", "text", "LCoflowSimulator$FlowText;", true)
  | 1 => ("CoflowSimulator", "now", "LCoflowSimulator$State;", true)
  | 2 => ("CoflowSimulator", "history", "LCoflowSimulator$History;", true)
  | 3 => ("CoflowSimulator", "tick", "LCoflowSimulator$Tick;", true)
  | 4 => ("CoflowSimulator", "loads", "LCoflowSimulator$PortLoads;", true)
  | _ => ("CoflowSimulator", "foretelling", "LCoflowSimulator$Foretelling;", true)
def tyX9 : Nat → FieldType := fun k => match k with
  | 0 => .object "CoflowSimulator$FlowText"
  | 1 => .object "CoflowSimulator$State"
  | 2 => .object "CoflowSimulator$History"
  | 3 => .object "CoflowSimulator$Tick"
  | 4 => .object "CoflowSimulator$PortLoads"
  | _ => .object "CoflowSimulator$Foretelling"
theorem nmX9 : ∀ a, a < 6 → ∀ b, b < 6 → a ≠ b → (TX9 a).2.1 ≠ (TX9 b).2.1 := by decide +kernel
theorem tyX9_ok : ∀ k, k < 6 → parseFieldDescriptor (TX9 k).2.2.1 = some (tyX9 k) := by decide +kernel
def RX10 : String := "CoflowSimulatorModel"
def TX10 : u_T := fun k => match k with
  | 0 => ("CoflowSimulatorModel", "row", "[I", true)
  | 1 => ("CoflowSimulatorModel", "saved", "I", false)
  | 2 => ("CoflowSimulatorModel", "text", "[I", true)
  | 3 => ("CoflowSimulatorModel", "length", "I", false)
  | 4 => ("CoflowSimulatorModel", "available", "[I", true)
  | 5 => ("CoflowSimulatorModel", "needed", "[I", true)
  | 6 => ("CoflowSimulatorModel", "order", "[I", true)
  | 7 => ("CoflowSimulatorModel", "ordered", "I", false)
  | 8 => ("CoflowSimulatorModel", "isFixed", "Z", false)
  | 9 => ("CoflowSimulatorModel", "fixed", "[I", true)
  | 10 => ("CoflowSimulatorModel", "fixedMany", "I", false)
  | 11 => ("CoflowSimulatorModel", "first", "[J", true)
  | 12 => ("CoflowSimulatorModel", "second", "[J", true)
  | 13 => ("CoflowSimulatorModel", "spans", "[I", true)
  | 14 => ("CoflowSimulatorModel", "rates", "[I", true)
  | 15 => ("CoflowSimulatorModel", "at", "I", false)
  | 16 => ("CoflowSimulatorModel", "read", "I", false)
  | 17 => ("CoflowSimulatorModel", "adds", "Z", false)
  | 18 => ("CoflowSimulatorModel", "bestOrder", "[I", true)
  | _ => ("CoflowSimulatorModel", "h", "J", false)
def tyX10 : Nat → FieldType := fun k => match k with
  | 0 => .array .int
  | 1 => .int
  | 2 => .array .int
  | 3 => .int
  | 4 => .array .int
  | 5 => .array .int
  | 6 => .array .int
  | 7 => .int
  | 8 => .boolean
  | 9 => .array .int
  | 10 => .int
  | 11 => .array .long
  | 12 => .array .long
  | 13 => .array .int
  | 14 => .array .int
  | 15 => .int
  | 16 => .int
  | 17 => .boolean
  | 18 => .array .int
  | _ => .long
theorem nmX10 : ∀ a, a < 20 → ∀ b, b < 20 → a ≠ b → (TX10 a).2.1 ≠ (TX10 b).2.1 := by decide +kernel
theorem tyX10_ok : ∀ k, k < 20 → parseFieldDescriptor (TX10 k).2.2.1 = some (tyX10 k) := by decide +kernel
def RL : String := "CoflowSimulatorLaw"
def RJ7 : String := "java/util/Arrays"
def RJ9 : String := "java/lang/Math"
def RJ10 : String := "java/lang/System"
abbrev cX0_init : ByteArray := prog_2_method_1_code
def yX0_init : MethodName := ⟨RX0, "<init>", "()V"⟩
abbrev cX0_add : ByteArray := prog_2_method_2_code
def yX0_add : MethodName := ⟨RX0, "add", "(III)V"⟩
abbrev cX0_slotOf : ByteArray := prog_2_method_3_code
def yX0_slotOf : MethodName := ⟨RX0, "slotOf", "(I)I"⟩
abbrev cX0_copyFrom : ByteArray := prog_2_method_4_code
def yX0_copyFrom : MethodName := ⟨RX0, "copyFrom", "(LCoflowSimulator$EventLog;)V"⟩
abbrev cX1_init : ByteArray := prog_3_method_1_code
def yX1_init : MethodName := ⟨RX1, "<init>", "()V"⟩
abbrev cX1_append : ByteArray := prog_3_method_2_code
def yX1_append : MethodName := ⟨RX1, "append", "(III)V"⟩
abbrev cX1_appendAll : ByteArray := prog_3_method_3_code
def yX1_appendAll : MethodName := ⟨RX1, "appendAll", "(LCoflowSimulator$FlowList;)V"⟩
abbrev cX1_copyFrom : ByteArray := prog_3_method_4_code
def yX1_copyFrom : MethodName := ⟨RX1, "copyFrom", "(LCoflowSimulator$FlowList;)V"⟩
abbrev cX1_sumOfRests : ByteArray := prog_3_method_5_code
def yX1_sumOfRests : MethodName := ⟨RX1, "sumOfRests", "()I"⟩
abbrev cX1_countUndone : ByteArray := prog_3_method_6_code
def yX1_countUndone : MethodName := ⟨RX1, "countUndone", "()I"⟩
abbrev cX1_levelReached : ByteArray := prog_3_method_7_code
def yX1_levelReached : MethodName := ⟨RX1, "levelReached", "()I"⟩
abbrev cX2_init : ByteArray := prog_4_method_1_code
def yX2_init : MethodName := ⟨RX2, "<init>", "()V"⟩
abbrev cX2_append : ByteArray := prog_4_method_2_code
def yX2_append : MethodName := ⟨RX2, "append", "(I)Z"⟩
abbrev cX2_findFault : ByteArray := prog_4_method_3_code
def yX2_findFault : MethodName := ⟨RX2, "findFault", "(I)I"⟩
abbrev cX2_takeFlow : ByteArray := prog_4_method_4_code
def yX2_takeFlow : MethodName := ⟨RX2, "takeFlow", "(I)Z"⟩
abbrev cX2_skipBlanks : ByteArray := prog_4_method_5_code
def yX2_skipBlanks : MethodName := ⟨RX2, "skipBlanks", "()V"⟩
abbrev cX2_takeSign : ByteArray := prog_4_method_6_code
def yX2_takeSign : MethodName := ⟨RX2, "takeSign", "(C)Z"⟩
abbrev cX2_takePort : ByteArray := prog_4_method_7_code
def yX2_takePort : MethodName := ⟨RX2, "takePort", "()I"⟩
abbrev cX2_takeSize : ByteArray := prog_4_method_8_code
def yX2_takeSize : MethodName := ⟨RX2, "takeSize", "()I"⟩
abbrev cX3_init : ByteArray := prog_5_method_1_code
def yX3_init : MethodName := ⟨RX3, "<init>", "()V"⟩
abbrev cX3_forget : ByteArray := prog_5_method_2_code
def yX3_forget : MethodName := ⟨RX3, "forget", "()V"⟩
abbrev cX3_planTick : ByteArray := prog_5_method_3_code
def yX3_planTick : MethodName := ⟨RX3, "planTick", "(LCoflowSimulator$State;)V"⟩
abbrev cX3_endOf : ByteArray := prog_5_method_4_code
def yX3_endOf : MethodName := ⟨RX3, "endOf", "(LCoflowSimulator$State;I)I"⟩
abbrev cX3_totalOf : ByteArray := prog_5_method_5_code
def yX3_totalOf : MethodName := ⟨RX3, "totalOf", "(LCoflowSimulator$State;I)I"⟩
abbrev cX3_runToTotal : ByteArray := prog_5_method_6_code
def yX3_runToTotal : MethodName := ⟨RX3, "runToTotal", "()I"⟩
abbrev cX3_findBestOrder : ByteArray := prog_5_method_7_code
def yX3_findBestOrder : MethodName := ⟨RX3, "findBestOrder", "(LCoflowSimulator$State;)V"⟩
abbrev cX3_listOpen : ByteArray := prog_5_method_8_code
def yX3_listOpen : MethodName := ⟨RX3, "listOpen", "(LCoflowSimulator$State;)I"⟩
abbrev cX3_setUpTrial : ByteArray := prog_5_method_9_code
def yX3_setUpTrial : MethodName := ⟨RX3, "setUpTrial", "(LCoflowSimulator$State;I)V"⟩
abbrev cX3_stepToNextOrder : ByteArray := prog_5_method_10_code
def yX3_stepToNextOrder : MethodName := ⟨RX3, "stepToNextOrder", "(I)Z"⟩
abbrev cX3_swap : ByteArray := prog_5_method_11_code
def yX3_swap : MethodName := ⟨RX3, "swap", "(II)V"⟩
abbrev cX4_init : ByteArray := prog_6_method_1_code
def yX4_init : MethodName := ⟨RX4, "<init>", "()V"⟩
abbrev cX4_copyFrom : ByteArray := prog_6_method_2_code
def yX4_copyFrom : MethodName := ⟨RX4, "copyFrom", "(LCoflowSimulator$Group;)V"⟩
abbrev cX4_stateAt : ByteArray := prog_6_method_3_code
def yX4_stateAt : MethodName := ⟨RX4, "stateAt", "(I)I"⟩
abbrev cX4_isOpen : ByteArray := prog_6_method_4_code
def yX4_isOpen : MethodName := ⟨RX4, "isOpen", "()Z"⟩
abbrev cX4_deadlineEnd : ByteArray := prog_6_method_5_code
def yX4_deadlineEnd : MethodName := ⟨RX4, "deadlineEnd", "()I"⟩
abbrev cX5_init : ByteArray := prog_7_method_1_code
def yX5_init : MethodName := ⟨RX5, "<init>", "()V"⟩
abbrev cX5_keep : ByteArray := prog_7_method_2_code
def yX5_keep : MethodName := ⟨RX5, "keep", "(LCoflowSimulator$State;)V"⟩
abbrev cX5_bringBack : ByteArray := prog_7_method_3_code
def yX5_bringBack : MethodName := ⟨RX5, "bringBack", "(LCoflowSimulator$State;)V"⟩
abbrev cX6_init : ByteArray := prog_8_method_1_code
def yX6_init : MethodName := ⟨RX6, "<init>", "()V"⟩
abbrev cX6_add : ByteArray := prog_8_method_2_code
def yX6_add : MethodName := ⟨RX6, "add", "(LCoflowSimulator$FlowList;II)V"⟩
abbrev cX6_haveRoomFor : ByteArray := prog_8_method_3_code
def yX6_haveRoomFor : MethodName := ⟨RX6, "haveRoomFor", "(LCoflowSimulator$State;I)Z"⟩
abbrev cX6_addCommitted : ByteArray := prog_8_method_4_code
def yX6_addCommitted : MethodName := ⟨RX6, "addCommitted", "(LCoflowSimulator$Group;I)V"⟩
abbrev cX6_boundOf : ByteArray := prog_8_method_5_code
def yX6_boundOf : MethodName := ⟨RX6, "boundOf", "(LCoflowSimulator$State;)I"⟩
abbrev cX6_addRests : ByteArray := prog_8_method_6_code
def yX6_addRests : MethodName := ⟨RX6, "addRests", "(LCoflowSimulator$FlowList;)V"⟩
abbrev cX6_needMoreThan : ByteArray := prog_8_method_7_code
def yX6_needMoreThan : MethodName := ⟨RX6, "needMoreThan", "(LCoflowSimulator$State;I)Z"⟩
abbrev cX7_init : ByteArray := prog_9_method_1_code
def yX7_init : MethodName := ⟨RX7, "<init>", "()V"⟩
abbrev cX7_copyFrom : ByteArray := prog_9_method_2_code
def yX7_copyFrom : MethodName := ⟨RX7, "copyFrom", "(LCoflowSimulator$State;)V"⟩
abbrev cX7_makeGroup : ByteArray := prog_9_method_3_code
def yX7_makeGroup : MethodName := ⟨RX7, "makeGroup", "(IIIZ)I"⟩
abbrev cX7_countGroups : ByteArray := prog_9_method_4_code
def yX7_countGroups : MethodName := ⟨RX7, "countGroups", "(I)I"⟩
abbrev cX7_countOpen : ByteArray := prog_9_method_5_code
def yX7_countOpen : MethodName := ⟨RX7, "countOpen", "()I"⟩
abbrev cX7_totalWhenAllDone : ByteArray := prog_9_method_6_code
def yX7_totalWhenAllDone : MethodName := ⟨RX7, "totalWhenAllDone", "()I"⟩
abbrev cX8_init : ByteArray := prog_10_method_1_code
def yX8_init : MethodName := ⟨RX8, "<init>", "()V"⟩
abbrev cX8_perform : ByteArray := prog_10_method_2_code
def yX8_perform : MethodName := ⟨RX8, "perform", "(LCoflowSimulator$State;)Z"⟩
abbrev cX8_putInOrder : ByteArray := prog_10_method_3_code
def yX8_putInOrder : MethodName := ⟨RX8, "putInOrder", "(LCoflowSimulator$State;)V"⟩
abbrev cX8_setKey : ByteArray := prog_10_method_4_code
def yX8_setKey : MethodName := ⟨RX8, "setKey", "(IIJI)V"⟩
abbrev cX8_setSpanKey : ByteArray := prog_10_method_5_code
def yX8_setSpanKey : MethodName := ⟨RX8, "setSpanKey", "(III)V"⟩
abbrev cX8_plainKey : ByteArray := prog_10_method_6_code
def yX8_plainKey : MethodName := ⟨RX8, "plainKey", "(LCoflowSimulator$State;I)J"⟩
abbrev cX8_insert : ByteArray := prog_10_method_7_code
def yX8_insert : MethodName := ⟨RX8, "insert", "(I)V"⟩
abbrev cX8_isBefore : ByteArray := prog_10_method_8_code
def yX8_isBefore : MethodName := ⟨RX8, "isBefore", "(II)Z"⟩
abbrev cX8_placeOf : ByteArray := prog_10_method_9_code
def yX8_placeOf : MethodName := ⟨RX8, "placeOf", "(I)I"⟩
abbrev cX8_notePreemption : ByteArray := prog_10_method_10_code
def yX8_notePreemption : MethodName := ⟨RX8, "notePreemption", "(LCoflowSimulator$State;)V"⟩
abbrev cX8_giveJustRates : ByteArray := prog_10_method_11_code
def yX8_giveJustRates : MethodName := ⟨RX8, "giveJustRates", "(LCoflowSimulator$State;)V"⟩
abbrev cX8_spread : ByteArray := prog_10_method_12_code
def yX8_spread : MethodName := ⟨RX8, "spread", "(LCoflowSimulator$FlowList;I)V"⟩
abbrev cX8_raise : ByteArray := prog_10_method_13_code
def yX8_raise : MethodName := ⟨RX8, "raise", "(LCoflowSimulator$FlowList;II)V"⟩
abbrev cX8_shareSpare : ByteArray := prog_10_method_14_code
def yX8_shareSpare : MethodName := ⟨RX8, "shareSpare", "(LCoflowSimulator$State;)V"⟩
abbrev cX8_sendAll : ByteArray := prog_10_method_15_code
def yX8_sendAll : MethodName := ⟨RX8, "sendAll", "(LCoflowSimulator$State;)I"⟩
abbrev cX8_noteDone : ByteArray := prog_10_method_16_code
def yX8_noteDone : MethodName := ⟨RX8, "noteDone", "(LCoflowSimulator$State;)V"⟩
abbrev cX8_noteLate : ByteArray := prog_10_method_17_code
def yX8_noteLate : MethodName := ⟨RX8, "noteLate", "(LCoflowSimulator$State;)V"⟩
abbrev cX8_spanOf : ByteArray := prog_10_method_18_code
def yX8_spanOf : MethodName := ⟨RX8, "spanOf", "(LCoflowSimulator$FlowList;[I)I"⟩
abbrev cX8_addUp : ByteArray := prog_10_method_19_code
def yX8_addUp : MethodName := ⟨RX8, "addUp", "(LCoflowSimulator$FlowList;)I"⟩
abbrev cX8_isEnough : ByteArray := prog_10_method_20_code
def yX8_isEnough : MethodName := ⟨RX8, "isEnough", "(LCoflowSimulator$FlowList;I[I)Z"⟩
abbrev cX9_init : ByteArray := prog_1_method_1_code
def yX9_init : MethodName := ⟨RX9, "<init>", "()V"⟩
abbrev cX9_type : ByteArray := prog_1_method_2_code
def yX9_type : MethodName := ⟨RX9, "type", "(I)I"⟩
abbrev cX9_clearText : ByteArray := prog_1_method_3_code
def yX9_clearText : MethodName := ⟨RX9, "clearText", "()I"⟩
abbrev cX9_textFault : ByteArray := prog_1_method_4_code
def yX9_textFault : MethodName := ⟨RX9, "textFault", "()I"⟩
abbrev cX9_flow : ByteArray := prog_1_method_5_code
def yX9_flow : MethodName := ⟨RX9, "flow", "(III)I"⟩
abbrev cX9_read : ByteArray := prog_1_method_6_code
def yX9_read : MethodName := ⟨RX9, "read", "()I"⟩
abbrev cX9_dropDraft : ByteArray := prog_1_method_7_code
def yX9_dropDraft : MethodName := ⟨RX9, "dropDraft", "()I"⟩
abbrev cX9_addGroup : ByteArray := prog_1_method_8_code
def yX9_addGroup : MethodName := ⟨RX9, "addGroup", "(III)I"⟩
abbrev cX9_setCapacity : ByteArray := prog_1_method_9_code
def yX9_setCapacity : MethodName := ⟨RX9, "setCapacity", "(II)I"⟩
abbrev cX9_setPolicy : ByteArray := prog_1_method_10_code
def yX9_setPolicy : MethodName := ⟨RX9, "setPolicy", "(I)I"⟩
abbrev cX9_setRules : ByteArray := prog_1_method_11_code
def yX9_setRules : MethodName := ⟨RX9, "setRules", "(ZZ)I"⟩
abbrev cX9_pass : ByteArray := prog_1_method_12_code
def yX9_pass : MethodName := ⟨RX9, "pass", "(I)I"⟩
abbrev cX9_undo : ByteArray := prog_1_method_13_code
def yX9_undo : MethodName := ⟨RX9, "undo", "()I"⟩
abbrev cX9_time : ByteArray := prog_1_method_14_code
def yX9_time : MethodName := ⟨RX9, "time", "()I"⟩
abbrev cX9_groupCount : ByteArray := prog_1_method_15_code
def yX9_groupCount : MethodName := ⟨RX9, "groupCount", "()I"⟩
abbrev cX9_state : ByteArray := prog_1_method_16_code
def yX9_state : MethodName := ⟨RX9, "state", "(I)I"⟩
abbrev cX9_arrival : ByteArray := prog_1_method_17_code
def yX9_arrival : MethodName := ⟨RX9, "arrival", "(I)I"⟩
abbrev cX9_end : ByteArray := prog_1_method_18_code
def yX9_end : MethodName := ⟨RX9, "end", "(I)I"⟩
abbrev cX9_flowCount : ByteArray := prog_1_method_19_code
def yX9_flowCount : MethodName := ⟨RX9, "flowCount", "(I)I"⟩
abbrev cX9_flowPart : ByteArray := prog_1_method_20_code
def yX9_flowPart : MethodName := ⟨RX9, "flowPart", "(III)I"⟩
abbrev cX9_rest : ByteArray := prog_1_method_21_code
def yX9_rest : MethodName := ⟨RX9, "rest", "(I)I"⟩
abbrev cX9_level : ByteArray := prog_1_method_22_code
def yX9_level : MethodName := ⟨RX9, "level", "(I)I"⟩
abbrev cX9_loneSpan : ByteArray := prog_1_method_23_code
def yX9_loneSpan : MethodName := ⟨RX9, "loneSpan", "(I)I"⟩
abbrev cX9_place : ByteArray := prog_1_method_24_code
def yX9_place : MethodName := ⟨RX9, "place", "(I)I"⟩
abbrev cX9_nextSpan : ByteArray := prog_1_method_25_code
def yX9_nextSpan : MethodName := ⟨RX9, "nextSpan", "(I)I"⟩
abbrev cX9_nextRate : ByteArray := prog_1_method_26_code
def yX9_nextRate : MethodName := ⟨RX9, "nextRate", "(II)I"⟩
abbrev cX9_spare : ByteArray := prog_1_method_27_code
def yX9_spare : MethodName := ⟨RX9, "spare", "(I)I"⟩
abbrev cX9_outlook : ByteArray := prog_1_method_28_code
def yX9_outlook : MethodName := ⟨RX9, "outlook", "(I)I"⟩
abbrev cX9_total : ByteArray := prog_1_method_29_code
def yX9_total : MethodName := ⟨RX9, "total", "(I)I"⟩
abbrev cX9_bestPolicy : ByteArray := prog_1_method_30_code
def yX9_bestPolicy : MethodName := ⟨RX9, "bestPolicy", "()I"⟩
abbrev cX9_bestOrder : ByteArray := prog_1_method_31_code
def yX9_bestOrder : MethodName := ⟨RX9, "bestOrder", "()I"⟩
abbrev cX9_bestOrderAt : ByteArray := prog_1_method_32_code
def yX9_bestOrderAt : MethodName := ⟨RX9, "bestOrderAt", "(I)I"⟩
abbrev cX9_bound : ByteArray := prog_1_method_33_code
def yX9_bound : MethodName := ⟨RX9, "bound", "()I"⟩
abbrev cX9_moved : ByteArray := prog_1_method_34_code
def yX9_moved : MethodName := ⟨RX9, "moved", "(I)I"⟩
abbrev cX9_preemptions : ByteArray := prog_1_method_35_code
def yX9_preemptions : MethodName := ⟨RX9, "preemptions", "()I"⟩
abbrev cX9_eventCount : ByteArray := prog_1_method_36_code
def yX9_eventCount : MethodName := ⟨RX9, "eventCount", "()I"⟩
abbrev cX9_event : ByteArray := prog_1_method_37_code
def yX9_event : MethodName := ⟨RX9, "event", "(II)I"⟩
abbrev cX9_digest : ByteArray := prog_1_method_38_code
def yX9_digest : MethodName := ⟨RX9, "digest", "()J"⟩
abbrev cX9_withDraft : ByteArray := prog_1_method_39_code
def yX9_withDraft : MethodName := ⟨RX9, "withDraft", "(J)J"⟩
abbrev cX9_withGroup : ByteArray := prog_1_method_40_code
def yX9_withGroup : MethodName := ⟨RX9, "withGroup", "(JLCoflowSimulator$Group;)J"⟩
abbrev cX9_withEvents : ByteArray := prog_1_method_41_code
def yX9_withEvents : MethodName := ⟨RX9, "withEvents", "(J)J"⟩
abbrev cX9_mixed : ByteArray := prog_1_method_42_code
def yX9_mixed : MethodName := ⟨RX9, "mixed", "(JJ)J"⟩
abbrev cX9_save : ByteArray := prog_1_method_43_code
def yX9_save : MethodName := ⟨RX9, "save", "()V"⟩
abbrev cX9_isGroup : ByteArray := prog_1_method_44_code
def yX9_isGroup : MethodName := ⟨RX9, "isGroup", "(I)Z"⟩
abbrev cX9_isFlow : ByteArray := prog_1_method_45_code
def yX9_isFlow : MethodName := ⟨RX9, "isFlow", "(II)Z"⟩
abbrev cX9_canBeOrdered : ByteArray := prog_1_method_46_code
def yX9_canBeOrdered : MethodName := ⟨RX9, "canBeOrdered", "()Z"⟩
abbrev cX9_isOneOf : ByteArray := prog_1_method_47_code
def yX9_isOneOf : MethodName := ⟨RX9, "isOneOf", "(II)Z"⟩
abbrev cX9_isLess : ByteArray := prog_1_method_48_code
def yX9_isLess : MethodName := ⟨RX9, "isLess", "(II)Z"⟩
abbrev cX9_roundedUp : ByteArray := prog_1_method_49_code
def yX9_roundedUp : MethodName := ⟨RX9, "roundedUp", "(II)I"⟩
abbrev cX10_init : ByteArray := prog_12_method_1_code
def yX10_init : MethodName := ⟨RX10, "<init>", "()V"⟩
abbrev cX10_in : ByteArray := prog_12_method_2_code
def yX10_in : MethodName := ⟨RX10, "in", "(JJJ)Z"⟩
abbrev cX10_copies : ByteArray := prog_12_method_3_code
def yX10_copies : MethodName := ⟨RX10, "copies", "(II)V"⟩
abbrev cX10_saves : ByteArray := prog_12_method_4_code
def yX10_saves : MethodName := ⟨RX10, "saves", "()V"⟩
abbrev cX10_of : ByteArray := prog_12_method_5_code
def yX10_of : MethodName := ⟨RX10, "of", "(II)I"⟩
abbrev cX10_sets : ByteArray := prog_12_method_6_code
def yX10_sets : MethodName := ⟨RX10, "sets", "(III)V"⟩
abbrev cX10_flowOf : ByteArray := prog_12_method_7_code
def yX10_flowOf : MethodName := ⟨RX10, "flowOf", "(III)I"⟩
abbrev cX10_setsFlow : ByteArray := prog_12_method_8_code
def yX10_setsFlow : MethodName := ⟨RX10, "setsFlow", "(IIII)V"⟩
abbrev cX10_isGroup : ByteArray := prog_12_method_9_code
def yX10_isGroup : MethodName := ⟨RX10, "isGroup", "(I)Z"⟩
abbrev cX10_stateOf : ByteArray := prog_12_method_10_code
def yX10_stateOf : MethodName := ⟨RX10, "stateOf", "(I)I"⟩
abbrev cX10_restOf : ByteArray := prog_12_method_11_code
def yX10_restOf : MethodName := ⟨RX10, "restOf", "(I)I"⟩
abbrev cX10_up : ByteArray := prog_12_method_12_code
def yX10_up : MethodName := ⟨RX10, "up", "(II)I"⟩
abbrev cX10_allAvailable : ByteArray := prog_12_method_13_code
def yX10_allAvailable : MethodName := ⟨RX10, "allAvailable", "()V"⟩
abbrev cX10_fits : ByteArray := prog_12_method_14_code
def yX10_fits : MethodName := ⟨RX10, "fits", "(II)Z"⟩
abbrev cX10_spanOf : ByteArray := prog_12_method_15_code
def yX10_spanOf : MethodName := ⟨RX10, "spanOf", "(I)I"⟩
abbrev cX10_loneSpanOf : ByteArray := prog_12_method_16_code
def yX10_loneSpanOf : MethodName := ⟨RX10, "loneSpanOf", "(I)I"⟩
abbrev cX10_levelOf : ByteArray := prog_12_method_17_code
def yX10_levelOf : MethodName := ⟨RX10, "levelOf", "(I)I"⟩
abbrev cX10_undone : ByteArray := prog_12_method_18_code
def yX10_undone : MethodName := ⟨RX10, "undone", "(I)I"⟩
abbrev cX10_keyOf : ByteArray := prog_12_method_19_code
def yX10_keyOf : MethodName := ⟨RX10, "keyOf", "(I)J"⟩
abbrev cX10_hasDeadline : ByteArray := prog_12_method_20_code
def yX10_hasDeadline : MethodName := ⟨RX10, "hasDeadline", "(I)Z"⟩
abbrev cX10_isBefore : ByteArray := prog_12_method_21_code
def yX10_isBefore : MethodName := ⟨RX10, "isBefore", "(II)Z"⟩
abbrev cX10_ordersFixed : ByteArray := prog_12_method_22_code
def yX10_ordersFixed : MethodName := ⟨RX10, "ordersFixed", "()V"⟩
abbrev cX10_orders : ByteArray := prog_12_method_23_code
def yX10_orders : MethodName := ⟨RX10, "orders", "()V"⟩
abbrev cX10_gives : ByteArray := prog_12_method_24_code
def yX10_gives : MethodName := ⟨RX10, "gives", "(I)V"⟩
abbrev cX10_shares : ByteArray := prog_12_method_25_code
def yX10_shares : MethodName := ⟨RX10, "shares", "(I)V"⟩
abbrev cX10_worksOut : ByteArray := prog_12_method_26_code
def yX10_worksOut : MethodName := ⟨RX10, "worksOut", "()V"⟩
abbrev cX10_notes : ByteArray := prog_12_method_27_code
def yX10_notes : MethodName := ⟨RX10, "notes", "(III)V"⟩
abbrev cX10_preempts : ByteArray := prog_12_method_28_code
def yX10_preempts : MethodName := ⟨RX10, "preempts", "()V"⟩
abbrev cX10_sends : ByteArray := prog_12_method_29_code
def yX10_sends : MethodName := ⟨RX10, "sends", "(I)V"⟩
abbrev cX10_ticks : ByteArray := prog_12_method_30_code
def yX10_ticks : MethodName := ⟨RX10, "ticks", "()V"⟩
abbrev cX10_many : ByteArray := prog_12_method_31_code
def yX10_many : MethodName := ⟨RX10, "many", "(I)I"⟩
abbrev cX10_left : ByteArray := prog_12_method_32_code
def yX10_left : MethodName := ⟨RX10, "left", "()I"⟩
abbrev cX10_type : ByteArray := prog_12_method_33_code
def yX10_type : MethodName := ⟨RX10, "type", "(I)I"⟩
abbrev cX10_clearText : ByteArray := prog_12_method_34_code
def yX10_clearText : MethodName := ⟨RX10, "clearText", "()I"⟩
abbrev cX10_here : ByteArray := prog_12_method_35_code
def yX10_here : MethodName := ⟨RX10, "here", "(I)Z"⟩
abbrev cX10_port : ByteArray := prog_12_method_36_code
def yX10_port : MethodName := ⟨RX10, "port", "()I"⟩
abbrev cX10_sign : ByteArray := prog_12_method_37_code
def yX10_sign : MethodName := ⟨RX10, "sign", "(I)Z"⟩
abbrev cX10_number : ByteArray := prog_12_method_38_code
def yX10_number : MethodName := ⟨RX10, "number", "()I"⟩
abbrev cX10_drafts : ByteArray := prog_12_method_39_code
def yX10_drafts : MethodName := ⟨RX10, "drafts", "(III)V"⟩
abbrev cX10_readsFlow : ByteArray := prog_12_method_40_code
def yX10_readsFlow : MethodName := ⟨RX10, "readsFlow", "()Z"⟩
abbrev cX10_readsAll : ByteArray := prog_12_method_41_code
def yX10_readsAll : MethodName := ⟨RX10, "readsAll", "(Z)Z"⟩
abbrev cX10_textFault : ByteArray := prog_12_method_42_code
def yX10_textFault : MethodName := ⟨RX10, "textFault", "()I"⟩
abbrev cX10_flow : ByteArray := prog_12_method_43_code
def yX10_flow : MethodName := ⟨RX10, "flow", "(III)I"⟩
abbrev cX10_read : ByteArray := prog_12_method_44_code
def yX10_read : MethodName := ⟨RX10, "read", "()I"⟩
abbrev cX10_dropDraft : ByteArray := prog_12_method_45_code
def yX10_dropDraft : MethodName := ⟨RX10, "dropDraft", "()I"⟩
abbrev cX10_committed : ByteArray := prog_12_method_46_code
def yX10_committed : MethodName := ⟨RX10, "committed", "(II)J"⟩
abbrev cX10_isAdmitted : ByteArray := prog_12_method_47_code
def yX10_isAdmitted : MethodName := ⟨RX10, "isAdmitted", "(I)Z"⟩
abbrev cX10_addGroup : ByteArray := prog_12_method_48_code
def yX10_addGroup : MethodName := ⟨RX10, "addGroup", "(III)I"⟩
abbrev cX10_becomes : ByteArray := prog_12_method_49_code
def yX10_becomes : MethodName := ⟨RX10, "becomes", "(II)I"⟩
abbrev cX10_setCapacity : ByteArray := prog_12_method_50_code
def yX10_setCapacity : MethodName := ⟨RX10, "setCapacity", "(II)I"⟩
abbrev cX10_setPolicy : ByteArray := prog_12_method_51_code
def yX10_setPolicy : MethodName := ⟨RX10, "setPolicy", "(I)I"⟩
abbrev cX10_setRules : ByteArray := prog_12_method_52_code
def yX10_setRules : MethodName := ⟨RX10, "setRules", "(ZZ)I"⟩
abbrev cX10_pass : ByteArray := prog_12_method_53_code
def yX10_pass : MethodName := ⟨RX10, "pass", "(I)I"⟩
abbrev cX10_undo : ByteArray := prog_12_method_54_code
def yX10_undo : MethodName := ⟨RX10, "undo", "()I"⟩
abbrev cX10_time : ByteArray := prog_12_method_55_code
def yX10_time : MethodName := ⟨RX10, "time", "()I"⟩
abbrev cX10_groupCount : ByteArray := prog_12_method_56_code
def yX10_groupCount : MethodName := ⟨RX10, "groupCount", "()I"⟩
abbrev cX10_state : ByteArray := prog_12_method_57_code
def yX10_state : MethodName := ⟨RX10, "state", "(I)I"⟩
abbrev cX10_arrival : ByteArray := prog_12_method_58_code
def yX10_arrival : MethodName := ⟨RX10, "arrival", "(I)I"⟩
abbrev cX10_end : ByteArray := prog_12_method_59_code
def yX10_end : MethodName := ⟨RX10, "end", "(I)I"⟩
abbrev cX10_flowCount : ByteArray := prog_12_method_60_code
def yX10_flowCount : MethodName := ⟨RX10, "flowCount", "(I)I"⟩
abbrev cX10_isFlow : ByteArray := prog_12_method_61_code
def yX10_isFlow : MethodName := ⟨RX10, "isFlow", "(II)Z"⟩
abbrev cX10_flowPart : ByteArray := prog_12_method_62_code
def yX10_flowPart : MethodName := ⟨RX10, "flowPart", "(III)I"⟩
abbrev cX10_rest : ByteArray := prog_12_method_63_code
def yX10_rest : MethodName := ⟨RX10, "rest", "(I)I"⟩
abbrev cX10_level : ByteArray := prog_12_method_64_code
def yX10_level : MethodName := ⟨RX10, "level", "(I)I"⟩
abbrev cX10_loneSpan : ByteArray := prog_12_method_65_code
def yX10_loneSpan : MethodName := ⟨RX10, "loneSpan", "(I)I"⟩
abbrev cX10_place : ByteArray := prog_12_method_66_code
def yX10_place : MethodName := ⟨RX10, "place", "(I)I"⟩
abbrev cX10_nextSpan : ByteArray := prog_12_method_67_code
def yX10_nextSpan : MethodName := ⟨RX10, "nextSpan", "(I)I"⟩
abbrev cX10_nextRate : ByteArray := prog_12_method_68_code
def yX10_nextRate : MethodName := ⟨RX10, "nextRate", "(II)I"⟩
abbrev cX10_spare : ByteArray := prog_12_method_69_code
def yX10_spare : MethodName := ⟨RX10, "spare", "(I)I"⟩
abbrev cX10_outlook : ByteArray := prog_12_method_70_code
def yX10_outlook : MethodName := ⟨RX10, "outlook", "(I)I"⟩
abbrev cX10_totalOf : ByteArray := prog_12_method_71_code
def yX10_totalOf : MethodName := ⟨RX10, "totalOf", "()I"⟩
abbrev cX10_totalBy : ByteArray := prog_12_method_72_code
def yX10_totalBy : MethodName := ⟨RX10, "totalBy", "(I)I"⟩
abbrev cX10_total : ByteArray := prog_12_method_73_code
def yX10_total : MethodName := ⟨RX10, "total", "(I)I"⟩
abbrev cX10_bestPolicy : ByteArray := prog_12_method_74_code
def yX10_bestPolicy : MethodName := ⟨RX10, "bestPolicy", "()I"⟩
abbrev cX10_next : ByteArray := prog_12_method_75_code
def yX10_next : MethodName := ⟨RX10, "next", "()Z"⟩
abbrev cX10_swaps : ByteArray := prog_12_method_76_code
def yX10_swaps : MethodName := ⟨RX10, "swaps", "(II)V"⟩
abbrev cX10_findsBestOrder : ByteArray := prog_12_method_77_code
def yX10_findsBestOrder : MethodName := ⟨RX10, "findsBestOrder", "()I"⟩
abbrev cX10_bestOrder : ByteArray := prog_12_method_78_code
def yX10_bestOrder : MethodName := ⟨RX10, "bestOrder", "()I"⟩
abbrev cX10_bestOrderAt : ByteArray := prog_12_method_79_code
def yX10_bestOrderAt : MethodName := ⟨RX10, "bestOrderAt", "(I)I"⟩
abbrev cX10_bound : ByteArray := prog_12_method_80_code
def yX10_bound : MethodName := ⟨RX10, "bound", "()I"⟩
abbrev cX10_moved : ByteArray := prog_12_method_81_code
def yX10_moved : MethodName := ⟨RX10, "moved", "(I)I"⟩
abbrev cX10_preemptions : ByteArray := prog_12_method_82_code
def yX10_preemptions : MethodName := ⟨RX10, "preemptions", "()I"⟩
abbrev cX10_eventCount : ByteArray := prog_12_method_83_code
def yX10_eventCount : MethodName := ⟨RX10, "eventCount", "()I"⟩
abbrev cX10_event : ByteArray := prog_12_method_84_code
def yX10_event : MethodName := ⟨RX10, "event", "(II)I"⟩
abbrev cX10_note : ByteArray := prog_12_method_85_code
def yX10_note : MethodName := ⟨RX10, "note", "(I)V"⟩
abbrev cX10_noteGroup : ByteArray := prog_12_method_86_code
def yX10_noteGroup : MethodName := ⟨RX10, "noteGroup", "(I)V"⟩
abbrev cX10_digest : ByteArray := prog_12_method_87_code
def yX10_digest : MethodName := ⟨RX10, "digest", "()J"⟩
abbrev cJ9_floorMod_7cf53 : ByteArray := prog_13_method_50_code
def yJ9_floorMod_7cf53 : MethodName := ⟨RJ9, "floorMod", "(II)I"⟩
abbrev cJ9_max_7cf53 : ByteArray := prog_13_method_65_code
def yJ9_max_7cf53 : MethodName := ⟨RJ9, "max", "(II)I"⟩
abbrev cJ9_min_7cf53 : ByteArray := prog_13_method_69_code
def yJ9_min_7cf53 : MethodName := ⟨RJ9, "min", "(II)I"⟩
abbrev cJ7_fill_53178 : ByteArray := prog_15_method_103_code
def yJ7_fill_53178 : MethodName := ⟨RJ7, "fill", "([II)V"⟩
abbrev cL_law : ByteArray := code
def yL_law : MethodName := ⟨RL, "law", "([I)Z"⟩
def cls_all : List vw_C := [(RX0, TX0, 5), (RX1, TX1, 6), (RX2, TX2, 4), (RX3, TX3, 7), (RX4, TX4, 6), (RX5, TX5, 3), (RX6, TX6, 1), (RX7, TX7, 12), (RX8, TX8, 11), (RX9, TX9, 6), (RX10, TX10, 20)]
def WT : List Cond := lw_tbl.filter goodWord
theorem WT_of (i : Nat) {w : Cond} (h : lw_tbl[i]? = some w) (hg : goodWord w = true) : w ∈ WT := List.mem_filter.mpr ⟨List.mem_of_getElem? h, hg⟩
theorem WT_good : ∀ w ∈ WT, (w.onTables && w.keeps) = true ∨ ∃ ty, w = .arrayClass ty := fun w h => good_of_word (List.mem_filter.mp h).2
def WS (y : MethodName) (b : ByteArray) (n : Nat) (r : Option FieldType) : List Cond := .code y b n r :: WT
theorem WS_good {y : MethodName} {b : ByteArray} {n : Nat} {r : Option FieldType} (h : Cond.code y b n r ∈ WT) : GoodIn WT (WS y b n r) := fun w hw => (List.mem_cons.mp hw).elim (fun e => by rw [e]; exact ⟨h, WT_good _ h⟩) (fun q => ⟨q, WT_good w q⟩)
theorem lyX0_0 : u_lay RX0 TX0 0 ∈ WT := WT_of 242 (by decide +kernel) (by decide +kernel)
theorem lyX0_1 : u_lay RX0 TX0 1 ∈ WT := WT_of 244 (by decide +kernel) (by decide +kernel)
theorem lyX0_2 : u_lay RX0 TX0 2 ∈ WT := WT_of 246 (by decide +kernel) (by decide +kernel)
theorem lyX0_3 : u_lay RX0 TX0 3 ∈ WT := WT_of 248 (by decide +kernel) (by decide +kernel)
theorem lyX0_4 : u_lay RX0 TX0 4 ∈ WT := WT_of 250 (by decide +kernel) (by decide +kernel)
theorem inX0 : ∀ w ∈ u_ws RX0 TX0 5, w ∈ WT := by
  intro w hw
  obtain ⟨k, hk, rfl⟩ := List.mem_map.mp hw
  have hk := List.mem_range.mp hk
  match k, hk with
  | 0, _ => exact lyX0_0
  | 1, _ => exact lyX0_1
  | 2, _ => exact lyX0_2
  | 3, _ => exact lyX0_3
  | 4, _ => exact lyX0_4
  | k + 5, h => exact absurd h (by omega)
theorem lyX1_0 : u_lay RX1 TX1 0 ∈ WT := WT_of 139 (by decide +kernel) (by decide +kernel)
theorem lyX1_1 : u_lay RX1 TX1 1 ∈ WT := WT_of 141 (by decide +kernel) (by decide +kernel)
theorem lyX1_2 : u_lay RX1 TX1 2 ∈ WT := WT_of 143 (by decide +kernel) (by decide +kernel)
theorem lyX1_3 : u_lay RX1 TX1 3 ∈ WT := WT_of 145 (by decide +kernel) (by decide +kernel)
theorem lyX1_4 : u_lay RX1 TX1 4 ∈ WT := WT_of 147 (by decide +kernel) (by decide +kernel)
theorem lyX1_5 : u_lay RX1 TX1 5 ∈ WT := WT_of 149 (by decide +kernel) (by decide +kernel)
theorem inX1 : ∀ w ∈ u_ws RX1 TX1 6, w ∈ WT := by
  intro w hw
  obtain ⟨k, hk, rfl⟩ := List.mem_map.mp hw
  have hk := List.mem_range.mp hk
  match k, hk with
  | 0, _ => exact lyX1_0
  | 1, _ => exact lyX1_1
  | 2, _ => exact lyX1_2
  | 3, _ => exact lyX1_3
  | 4, _ => exact lyX1_4
  | 5, _ => exact lyX1_5
  | k + 6, h => exact absurd h (by omega)
theorem lyX2_0 : u_lay RX2 TX2 0 ∈ WT := WT_of 159 (by decide +kernel) (by decide +kernel)
theorem lyX2_1 : u_lay RX2 TX2 1 ∈ WT := WT_of 161 (by decide +kernel) (by decide +kernel)
theorem lyX2_2 : u_lay RX2 TX2 2 ∈ WT := WT_of 163 (by decide +kernel) (by decide +kernel)
theorem lyX2_3 : u_lay RX2 TX2 3 ∈ WT := WT_of 165 (by decide +kernel) (by decide +kernel)
theorem inX2 : ∀ w ∈ u_ws RX2 TX2 4, w ∈ WT := by
  intro w hw
  obtain ⟨k, hk, rfl⟩ := List.mem_map.mp hw
  have hk := List.mem_range.mp hk
  match k, hk with
  | 0, _ => exact lyX2_0
  | 1, _ => exact lyX2_1
  | 2, _ => exact lyX2_2
  | 3, _ => exact lyX2_3
  | k + 4, h => exact absurd h (by omega)
theorem lyX3_0 : u_lay RX3 TX3 0 ∈ WT := WT_of 418 (by decide +kernel) (by decide +kernel)
theorem lyX3_1 : u_lay RX3 TX3 1 ∈ WT := WT_of 420 (by decide +kernel) (by decide +kernel)
theorem lyX3_2 : u_lay RX3 TX3 2 ∈ WT := WT_of 422 (by decide +kernel) (by decide +kernel)
theorem lyX3_3 : u_lay RX3 TX3 3 ∈ WT := WT_of 424 (by decide +kernel) (by decide +kernel)
theorem lyX3_4 : u_lay RX3 TX3 4 ∈ WT := WT_of 426 (by decide +kernel) (by decide +kernel)
theorem lyX3_5 : u_lay RX3 TX3 5 ∈ WT := WT_of 428 (by decide +kernel) (by decide +kernel)
theorem lyX3_6 : u_lay RX3 TX3 6 ∈ WT := WT_of 430 (by decide +kernel) (by decide +kernel)
theorem inX3 : ∀ w ∈ u_ws RX3 TX3 7, w ∈ WT := by
  intro w hw
  obtain ⟨k, hk, rfl⟩ := List.mem_map.mp hw
  have hk := List.mem_range.mp hk
  match k, hk with
  | 0, _ => exact lyX3_0
  | 1, _ => exact lyX3_1
  | 2, _ => exact lyX3_2
  | 3, _ => exact lyX3_3
  | 4, _ => exact lyX3_4
  | 5, _ => exact lyX3_5
  | 6, _ => exact lyX3_6
  | k + 7, h => exact absurd h (by omega)
theorem lyX4_0 : u_lay RX4 TX4 0 ∈ WT := WT_of 214 (by decide +kernel) (by decide +kernel)
theorem lyX4_1 : u_lay RX4 TX4 1 ∈ WT := WT_of 216 (by decide +kernel) (by decide +kernel)
theorem lyX4_2 : u_lay RX4 TX4 2 ∈ WT := WT_of 218 (by decide +kernel) (by decide +kernel)
theorem lyX4_3 : u_lay RX4 TX4 3 ∈ WT := WT_of 220 (by decide +kernel) (by decide +kernel)
theorem lyX4_4 : u_lay RX4 TX4 4 ∈ WT := WT_of 222 (by decide +kernel) (by decide +kernel)
theorem lyX4_5 : u_lay RX4 TX4 5 ∈ WT := WT_of 224 (by decide +kernel) (by decide +kernel)
theorem inX4 : ∀ w ∈ u_ws RX4 TX4 6, w ∈ WT := by
  intro w hw
  obtain ⟨k, hk, rfl⟩ := List.mem_map.mp hw
  have hk := List.mem_range.mp hk
  match k, hk with
  | 0, _ => exact lyX4_0
  | 1, _ => exact lyX4_1
  | 2, _ => exact lyX4_2
  | 3, _ => exact lyX4_3
  | 4, _ => exact lyX4_4
  | 5, _ => exact lyX4_5
  | k + 6, h => exact absurd h (by omega)
theorem lyX5_0 : u_lay RX5 TX5 0 ∈ WT := WT_of 334 (by decide +kernel) (by decide +kernel)
theorem lyX5_1 : u_lay RX5 TX5 1 ∈ WT := WT_of 336 (by decide +kernel) (by decide +kernel)
theorem lyX5_2 : u_lay RX5 TX5 2 ∈ WT := WT_of 338 (by decide +kernel) (by decide +kernel)
theorem inX5 : ∀ w ∈ u_ws RX5 TX5 3, w ∈ WT := by
  intro w hw
  obtain ⟨k, hk, rfl⟩ := List.mem_map.mp hw
  have hk := List.mem_range.mp hk
  match k, hk with
  | 0, _ => exact lyX5_0
  | 1, _ => exact lyX5_1
  | 2, _ => exact lyX5_2
  | k + 3, h => exact absurd h (by omega)
theorem lyX6_0 : u_lay RX6 TX6 0 ∈ WT := WT_of 392 (by decide +kernel) (by decide +kernel)
theorem inX6 : ∀ w ∈ u_ws RX6 TX6 1, w ∈ WT := by
  intro w hw
  obtain ⟨k, hk, rfl⟩ := List.mem_map.mp hw
  have hk := List.mem_range.mp hk
  match k, hk with
  | 0, _ => exact lyX6_0
  | k + 1, h => exact absurd h (by omega)
theorem lyX7_0 : u_lay RX7 TX7 0 ∈ WT := WT_of 296 (by decide +kernel) (by decide +kernel)
theorem lyX7_1 : u_lay RX7 TX7 1 ∈ WT := WT_of 298 (by decide +kernel) (by decide +kernel)
theorem lyX7_2 : u_lay RX7 TX7 2 ∈ WT := WT_of 300 (by decide +kernel) (by decide +kernel)
theorem lyX7_3 : u_lay RX7 TX7 3 ∈ WT := WT_of 302 (by decide +kernel) (by decide +kernel)
theorem lyX7_4 : u_lay RX7 TX7 4 ∈ WT := WT_of 304 (by decide +kernel) (by decide +kernel)
theorem lyX7_5 : u_lay RX7 TX7 5 ∈ WT := WT_of 306 (by decide +kernel) (by decide +kernel)
theorem lyX7_6 : u_lay RX7 TX7 6 ∈ WT := WT_of 308 (by decide +kernel) (by decide +kernel)
theorem lyX7_7 : u_lay RX7 TX7 7 ∈ WT := WT_of 310 (by decide +kernel) (by decide +kernel)
theorem lyX7_8 : u_lay RX7 TX7 8 ∈ WT := WT_of 312 (by decide +kernel) (by decide +kernel)
theorem lyX7_9 : u_lay RX7 TX7 9 ∈ WT := WT_of 314 (by decide +kernel) (by decide +kernel)
theorem lyX7_10 : u_lay RX7 TX7 10 ∈ WT := WT_of 316 (by decide +kernel) (by decide +kernel)
theorem lyX7_11 : u_lay RX7 TX7 11 ∈ WT := WT_of 318 (by decide +kernel) (by decide +kernel)
theorem inX7 : ∀ w ∈ u_ws RX7 TX7 12, w ∈ WT := by
  intro w hw
  obtain ⟨k, hk, rfl⟩ := List.mem_map.mp hw
  have hk := List.mem_range.mp hk
  match k, hk with
  | 0, _ => exact lyX7_0
  | 1, _ => exact lyX7_1
  | 2, _ => exact lyX7_2
  | 3, _ => exact lyX7_3
  | 4, _ => exact lyX7_4
  | 5, _ => exact lyX7_5
  | 6, _ => exact lyX7_6
  | 7, _ => exact lyX7_7
  | 8, _ => exact lyX7_8
  | 9, _ => exact lyX7_9
  | 10, _ => exact lyX7_10
  | 11, _ => exact lyX7_11
  | k + 12, h => exact absurd h (by omega)
theorem lyX8_0 : u_lay RX8 TX8 0 ∈ WT := WT_of 361 (by decide +kernel) (by decide +kernel)
theorem lyX8_1 : u_lay RX8 TX8 1 ∈ WT := WT_of 363 (by decide +kernel) (by decide +kernel)
theorem lyX8_2 : u_lay RX8 TX8 2 ∈ WT := WT_of 365 (by decide +kernel) (by decide +kernel)
theorem lyX8_3 : u_lay RX8 TX8 3 ∈ WT := WT_of 367 (by decide +kernel) (by decide +kernel)
theorem lyX8_4 : u_lay RX8 TX8 4 ∈ WT := WT_of 369 (by decide +kernel) (by decide +kernel)
theorem lyX8_5 : u_lay RX8 TX8 5 ∈ WT := WT_of 371 (by decide +kernel) (by decide +kernel)
theorem lyX8_6 : u_lay RX8 TX8 6 ∈ WT := WT_of 373 (by decide +kernel) (by decide +kernel)
theorem lyX8_7 : u_lay RX8 TX8 7 ∈ WT := WT_of 375 (by decide +kernel) (by decide +kernel)
theorem lyX8_8 : u_lay RX8 TX8 8 ∈ WT := WT_of 377 (by decide +kernel) (by decide +kernel)
theorem lyX8_9 : u_lay RX8 TX8 9 ∈ WT := WT_of 379 (by decide +kernel) (by decide +kernel)
theorem lyX8_10 : u_lay RX8 TX8 10 ∈ WT := WT_of 381 (by decide +kernel) (by decide +kernel)
theorem inX8 : ∀ w ∈ u_ws RX8 TX8 11, w ∈ WT := by
  intro w hw
  obtain ⟨k, hk, rfl⟩ := List.mem_map.mp hw
  have hk := List.mem_range.mp hk
  match k, hk with
  | 0, _ => exact lyX8_0
  | 1, _ => exact lyX8_1
  | 2, _ => exact lyX8_2
  | 3, _ => exact lyX8_3
  | 4, _ => exact lyX8_4
  | 5, _ => exact lyX8_5
  | 6, _ => exact lyX8_6
  | 7, _ => exact lyX8_7
  | 8, _ => exact lyX8_8
  | 9, _ => exact lyX8_9
  | 10, _ => exact lyX8_10
  | k + 11, h => exact absurd h (by omega)
theorem lyX9_0 : u_lay RX9 TX9 0 ∈ WT := WT_of 439 (by decide +kernel) (by decide +kernel)
theorem lyX9_1 : u_lay RX9 TX9 1 ∈ WT := WT_of 441 (by decide +kernel) (by decide +kernel)
theorem lyX9_2 : u_lay RX9 TX9 2 ∈ WT := WT_of 443 (by decide +kernel) (by decide +kernel)
theorem lyX9_3 : u_lay RX9 TX9 3 ∈ WT := WT_of 445 (by decide +kernel) (by decide +kernel)
theorem lyX9_4 : u_lay RX9 TX9 4 ∈ WT := WT_of 447 (by decide +kernel) (by decide +kernel)
theorem lyX9_5 : u_lay RX9 TX9 5 ∈ WT := WT_of 449 (by decide +kernel) (by decide +kernel)
theorem inX9 : ∀ w ∈ u_ws RX9 TX9 6, w ∈ WT := by
  intro w hw
  obtain ⟨k, hk, rfl⟩ := List.mem_map.mp hw
  have hk := List.mem_range.mp hk
  match k, hk with
  | 0, _ => exact lyX9_0
  | 1, _ => exact lyX9_1
  | 2, _ => exact lyX9_2
  | 3, _ => exact lyX9_3
  | 4, _ => exact lyX9_4
  | 5, _ => exact lyX9_5
  | k + 6, h => exact absurd h (by omega)
theorem lyX10_0 : u_lay RX10 TX10 0 ∈ WT := WT_of 968 (by decide +kernel) (by decide +kernel)
theorem lyX10_1 : u_lay RX10 TX10 1 ∈ WT := WT_of 970 (by decide +kernel) (by decide +kernel)
theorem lyX10_2 : u_lay RX10 TX10 2 ∈ WT := WT_of 972 (by decide +kernel) (by decide +kernel)
theorem lyX10_3 : u_lay RX10 TX10 3 ∈ WT := WT_of 974 (by decide +kernel) (by decide +kernel)
theorem lyX10_4 : u_lay RX10 TX10 4 ∈ WT := WT_of 976 (by decide +kernel) (by decide +kernel)
theorem lyX10_5 : u_lay RX10 TX10 5 ∈ WT := WT_of 978 (by decide +kernel) (by decide +kernel)
theorem lyX10_6 : u_lay RX10 TX10 6 ∈ WT := WT_of 980 (by decide +kernel) (by decide +kernel)
theorem lyX10_7 : u_lay RX10 TX10 7 ∈ WT := WT_of 982 (by decide +kernel) (by decide +kernel)
theorem lyX10_8 : u_lay RX10 TX10 8 ∈ WT := WT_of 984 (by decide +kernel) (by decide +kernel)
theorem lyX10_9 : u_lay RX10 TX10 9 ∈ WT := WT_of 986 (by decide +kernel) (by decide +kernel)
theorem lyX10_10 : u_lay RX10 TX10 10 ∈ WT := WT_of 988 (by decide +kernel) (by decide +kernel)
theorem lyX10_11 : u_lay RX10 TX10 11 ∈ WT := WT_of 990 (by decide +kernel) (by decide +kernel)
theorem lyX10_12 : u_lay RX10 TX10 12 ∈ WT := WT_of 992 (by decide +kernel) (by decide +kernel)
theorem lyX10_13 : u_lay RX10 TX10 13 ∈ WT := WT_of 994 (by decide +kernel) (by decide +kernel)
theorem lyX10_14 : u_lay RX10 TX10 14 ∈ WT := WT_of 996 (by decide +kernel) (by decide +kernel)
theorem lyX10_15 : u_lay RX10 TX10 15 ∈ WT := WT_of 998 (by decide +kernel) (by decide +kernel)
theorem lyX10_16 : u_lay RX10 TX10 16 ∈ WT := WT_of 1000 (by decide +kernel) (by decide +kernel)
theorem lyX10_17 : u_lay RX10 TX10 17 ∈ WT := WT_of 1002 (by decide +kernel) (by decide +kernel)
theorem lyX10_18 : u_lay RX10 TX10 18 ∈ WT := WT_of 1004 (by decide +kernel) (by decide +kernel)
theorem lyX10_19 : u_lay RX10 TX10 19 ∈ WT := WT_of 1006 (by decide +kernel) (by decide +kernel)
theorem inX10 : ∀ w ∈ u_ws RX10 TX10 20, w ∈ WT := by
  intro w hw
  obtain ⟨k, hk, rfl⟩ := List.mem_map.mp hw
  have hk := List.mem_range.mp hk
  match k, hk with
  | 0, _ => exact lyX10_0
  | 1, _ => exact lyX10_1
  | 2, _ => exact lyX10_2
  | 3, _ => exact lyX10_3
  | 4, _ => exact lyX10_4
  | 5, _ => exact lyX10_5
  | 6, _ => exact lyX10_6
  | 7, _ => exact lyX10_7
  | 8, _ => exact lyX10_8
  | 9, _ => exact lyX10_9
  | 10, _ => exact lyX10_10
  | 11, _ => exact lyX10_11
  | 12, _ => exact lyX10_12
  | 13, _ => exact lyX10_13
  | 14, _ => exact lyX10_14
  | 15, _ => exact lyX10_15
  | 16, _ => exact lyX10_16
  | 17, _ => exact lyX10_17
  | 18, _ => exact lyX10_18
  | 19, _ => exact lyX10_19
  | k + 20, h => exact absurd h (by omega)
