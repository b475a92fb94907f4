-- ===== PART A: goes FIRST, ahead of the names: the tables' words, and 'selects' of the private methods out of them =====
/-- a private method of a class that the tables say can be made, by its rows of tables_1 -/
def lw_okq (q : MethodName × Nat) : Prop := (q.1.cls ≠ "java/lang/invoke/MethodHandle" ∧ q.1.cls ≠ "java/lang/invoke/VarHandle") ∧ Cond.instantiable q.1.cls q.2 ∈ tables_1 ∧ Cond.privateMethod q.1 ∈ tables_1 ∧ Cond.instanceMethod q.1 ∈ tables_1
theorem lw_p0 : lw_okq (⟨"HuntingRudder$Tape", "readWord", "()V"⟩, 7) := ⟨⟨by decide +kernel, by decide +kernel⟩, List.mem_of_getElem? (i := 253) (by decide +kernel), List.mem_of_getElem? (i := 496) (by decide +kernel), List.mem_of_getElem? (i := 497) (by decide +kernel)⟩
theorem lw_p1 : lw_okq (⟨"HuntingRudder$Tape", "readNumber", "()V"⟩, 7) := ⟨⟨by decide +kernel, by decide +kernel⟩, List.mem_of_getElem? (i := 253) (by decide +kernel), List.mem_of_getElem? (i := 503) (by decide +kernel), List.mem_of_getElem? (i := 504) (by decide +kernel)⟩
theorem lw_p2 : lw_okq (⟨"HuntingRudder$Tape", "readSign", "(I)V"⟩, 7) := ⟨⟨by decide +kernel, by decide +kernel⟩, List.mem_of_getElem? (i := 253) (by decide +kernel), List.mem_of_getElem? (i := 507) (by decide +kernel), List.mem_of_getElem? (i := 508) (by decide +kernel)⟩
theorem lw_p3 : lw_okq (⟨"HuntingRudder$TextReader", "readWheelLine", "()Z"⟩, 13) := ⟨⟨by decide +kernel, by decide +kernel⟩, List.mem_of_getElem? (i := 247) (by decide +kernel), List.mem_of_getElem? (i := 526) (by decide +kernel), List.mem_of_getElem? (i := 527) (by decide +kernel)⟩
theorem lw_p4 : lw_okq (⟨"HuntingRudder$TextReader", "refuse", "(I)Z"⟩, 13) := ⟨⟨by decide +kernel, by decide +kernel⟩, List.mem_of_getElem? (i := 247) (by decide +kernel), List.mem_of_getElem? (i := 530) (by decide +kernel), List.mem_of_getElem? (i := 531) (by decide +kernel)⟩
theorem lw_p5 : lw_okq (⟨"HuntingRudder$TextReader", "atWord", "(I)Z"⟩, 13) := ⟨⟨by decide +kernel, by decide +kernel⟩, List.mem_of_getElem? (i := 247) (by decide +kernel), List.mem_of_getElem? (i := 539) (by decide +kernel), List.mem_of_getElem? (i := 540) (by decide +kernel)⟩
theorem lw_p6 : lw_okq (⟨"HuntingRudder$TextReader", "readExpression", "(LHuntingRudder$Knots;Z)Z"⟩, 13) := ⟨⟨by decide +kernel, by decide +kernel⟩, List.mem_of_getElem? (i := 247) (by decide +kernel), List.mem_of_getElem? (i := 544) (by decide +kernel), List.mem_of_getElem? (i := 545) (by decide +kernel)⟩
theorem lw_p7 : lw_okq (⟨"HuntingRudder$TextReader", "goOnBehindOperand", "()Z"⟩, 13) := ⟨⟨by decide +kernel, by decide +kernel⟩, List.mem_of_getElem? (i := 247) (by decide +kernel), List.mem_of_getElem? (i := 552) (by decide +kernel), List.mem_of_getElem? (i := 553) (by decide +kernel)⟩
theorem lw_p8 : lw_okq (⟨"HuntingRudder$TextReader", "atSign", "(I)Z"⟩, 13) := ⟨⟨by decide +kernel, by decide +kernel⟩, List.mem_of_getElem? (i := 247) (by decide +kernel), List.mem_of_getElem? (i := 556) (by decide +kernel), List.mem_of_getElem? (i := 557) (by decide +kernel)⟩
theorem lw_p9 : lw_okq (⟨"HuntingRudder$TextReader", "closeOne", "()Z"⟩, 13) := ⟨⟨by decide +kernel, by decide +kernel⟩, List.mem_of_getElem? (i := 247) (by decide +kernel), List.mem_of_getElem? (i := 560) (by decide +kernel), List.mem_of_getElem? (i := 561) (by decide +kernel)⟩
theorem lw_p10 : lw_okq (⟨"HuntingRudder$TextReader", "writeWaiting", "(I)V"⟩, 13) := ⟨⟨by decide +kernel, by decide +kernel⟩, List.mem_of_getElem? (i := 247) (by decide +kernel), List.mem_of_getElem? (i := 564) (by decide +kernel), List.mem_of_getElem? (i := 565) (by decide +kernel)⟩
theorem lw_p11 : lw_okq (⟨"HuntingRudder$TextReader", "signHere", "()I"⟩, 13) := ⟨⟨by decide +kernel, by decide +kernel⟩, List.mem_of_getElem? (i := 247) (by decide +kernel), List.mem_of_getElem? (i := 575) (by decide +kernel), List.mem_of_getElem? (i := 576) (by decide +kernel)⟩
theorem lw_p12 : lw_okq (⟨"HuntingRudder$TextReader", "endExpression", "()Z"⟩, 13) := ⟨⟨by decide +kernel, by decide +kernel⟩, List.mem_of_getElem? (i := 247) (by decide +kernel), List.mem_of_getElem? (i := 582) (by decide +kernel), List.mem_of_getElem? (i := 583) (by decide +kernel)⟩
theorem lw_p13 : lw_okq (⟨"HuntingRudder$TextReader", "putOff", "(II)Z"⟩, 13) := ⟨⟨by decide +kernel, by decide +kernel⟩, List.mem_of_getElem? (i := 247) (by decide +kernel), List.mem_of_getElem? (i := 590) (by decide +kernel), List.mem_of_getElem? (i := 591) (by decide +kernel)⟩
theorem lw_p14 : lw_okq (⟨"HuntingRudder$TextReader", "readOperand", "()Z"⟩, 13) := ⟨⟨by decide +kernel, by decide +kernel⟩, List.mem_of_getElem? (i := 247) (by decide +kernel), List.mem_of_getElem? (i := 594) (by decide +kernel), List.mem_of_getElem? (i := 595) (by decide +kernel)⟩
theorem lw_p15 : lw_okq (⟨"HuntingRudder$TextReader", "gearWordHere", "()I"⟩, 13) := ⟨⟨by decide +kernel, by decide +kernel⟩, List.mem_of_getElem? (i := 247) (by decide +kernel), List.mem_of_getElem? (i := 599) (by decide +kernel), List.mem_of_getElem? (i := 600) (by decide +kernel)⟩
def lw_privs_1 : List (MethodName × Nat) := [(⟨"HuntingRudder$Tape", "readWord", "()V"⟩, 7), (⟨"HuntingRudder$Tape", "readNumber", "()V"⟩, 7), (⟨"HuntingRudder$Tape", "readSign", "(I)V"⟩, 7), (⟨"HuntingRudder$TextReader", "readWheelLine", "()Z"⟩, 13), (⟨"HuntingRudder$TextReader", "refuse", "(I)Z"⟩, 13), (⟨"HuntingRudder$TextReader", "atWord", "(I)Z"⟩, 13), (⟨"HuntingRudder$TextReader", "readExpression", "(LHuntingRudder$Knots;Z)Z"⟩, 13), (⟨"HuntingRudder$TextReader", "goOnBehindOperand", "()Z"⟩, 13), (⟨"HuntingRudder$TextReader", "atSign", "(I)Z"⟩, 13), (⟨"HuntingRudder$TextReader", "closeOne", "()Z"⟩, 13), (⟨"HuntingRudder$TextReader", "writeWaiting", "(I)V"⟩, 13), (⟨"HuntingRudder$TextReader", "signHere", "()I"⟩, 13), (⟨"HuntingRudder$TextReader", "endExpression", "()Z"⟩, 13), (⟨"HuntingRudder$TextReader", "putOff", "(II)Z"⟩, 13), (⟨"HuntingRudder$TextReader", "readOperand", "()Z"⟩, 13), (⟨"HuntingRudder$TextReader", "gearWordHere", "()I"⟩, 13)]
theorem lw_r1 : ∀ q ∈ lw_privs_1, lw_okq q := List.forall_mem_cons.mpr ⟨lw_p0, List.forall_mem_cons.mpr ⟨lw_p1, List.forall_mem_cons.mpr ⟨lw_p2, List.forall_mem_cons.mpr ⟨lw_p3, List.forall_mem_cons.mpr ⟨lw_p4, List.forall_mem_cons.mpr ⟨lw_p5, List.forall_mem_cons.mpr ⟨lw_p6, List.forall_mem_cons.mpr ⟨lw_p7, List.forall_mem_cons.mpr ⟨lw_p8, List.forall_mem_cons.mpr ⟨lw_p9, List.forall_mem_cons.mpr ⟨lw_p10, List.forall_mem_cons.mpr ⟨lw_p11, List.forall_mem_cons.mpr ⟨lw_p12, List.forall_mem_cons.mpr ⟨lw_p13, List.forall_mem_cons.mpr ⟨lw_p14, List.forall_mem_cons.mpr ⟨lw_p15, fun _ h => absurd h List.not_mem_nil⟩⟩⟩⟩⟩⟩⟩⟩⟩⟩⟩⟩⟩⟩⟩⟩
theorem lw_p16 : lw_okq (⟨"HuntingRudder$TextReader", "valueHere", "()I"⟩, 13) := ⟨⟨by decide +kernel, by decide +kernel⟩, List.mem_of_getElem? (i := 247) (by decide +kernel), List.mem_of_getElem? (i := 603) (by decide +kernel), List.mem_of_getElem? (i := 604) (by decide +kernel)⟩
theorem lw_p17 : lw_okq (⟨"HuntingRudder$TextReader", "readGearLine", "()Z"⟩, 13) := ⟨⟨by decide +kernel, by decide +kernel⟩, List.mem_of_getElem? (i := 247) (by decide +kernel), List.mem_of_getElem? (i := 616) (by decide +kernel), List.mem_of_getElem? (i := 617) (by decide +kernel)⟩
theorem lw_p18 : lw_okq (⟨"HuntingRudder$TextReader", "readSafeLine", "()Z"⟩, 13) := ⟨⟨by decide +kernel, by decide +kernel⟩, List.mem_of_getElem? (i := 247) (by decide +kernel), List.mem_of_getElem? (i := 628) (by decide +kernel), List.mem_of_getElem? (i := 629) (by decide +kernel)⟩
theorem lw_p19 : lw_okq (⟨"HuntingRudder$TextReader", "readRowLine", "()Z"⟩, 13) := ⟨⟨by decide +kernel, by decide +kernel⟩, List.mem_of_getElem? (i := 247) (by decide +kernel), List.mem_of_getElem? (i := 632) (by decide +kernel), List.mem_of_getElem? (i := 633) (by decide +kernel)⟩
theorem lw_p20 : lw_okq (⟨"HuntingRudder$TextReader", "readRowOrder", "()Z"⟩, 13) := ⟨⟨by decide +kernel, by decide +kernel⟩, List.mem_of_getElem? (i := 247) (by decide +kernel), List.mem_of_getElem? (i := 640) (by decide +kernel), List.mem_of_getElem? (i := 641) (by decide +kernel)⟩
theorem lw_p21 : lw_okq (⟨"HuntingRudder$State", "lagging", "(II)I"⟩, 8) := ⟨⟨by decide +kernel, by decide +kernel⟩, List.mem_of_getElem? (i := 54) (by decide +kernel), List.mem_of_getElem? (i := 755) (by decide +kernel), List.mem_of_getElem? (i := 756) (by decide +kernel)⟩
theorem lw_p22 : lw_okq (⟨"HuntingRudder$Track", "keep", "(I)I"⟩, 7) := ⟨⟨by decide +kernel, by decide +kernel⟩, List.mem_of_getElem? (i := 87) (by decide +kernel), List.mem_of_getElem? (i := 795) (by decide +kernel), List.mem_of_getElem? (i := 796) (by decide +kernel)⟩
theorem lw_p23 : lw_okq (⟨"HuntingRudder$Track", "swingOf", "(II)I"⟩, 7) := ⟨⟨by decide +kernel, by decide +kernel⟩, List.mem_of_getElem? (i := 87) (by decide +kernel), List.mem_of_getElem? (i := 803) (by decide +kernel), List.mem_of_getElem? (i := 804) (by decide +kernel)⟩
theorem lw_p24 : lw_okq (⟨"HuntingRudder", "farthest", "(IILHuntingRudder$Settings;I)I"⟩, 10) := ⟨⟨by decide +kernel, by decide +kernel⟩, List.mem_of_getElem? (i := 27) (by decide +kernel), List.mem_of_getElem? (i := 819) (by decide +kernel), List.mem_of_getElem? (i := 820) (by decide +kernel)⟩
theorem lw_p25 : lw_okq (⟨"HuntingRudder$Wake", "addIfFits", "(ILHuntingRudder$Text;)V"⟩, 13) := ⟨⟨by decide +kernel, by decide +kernel⟩, List.mem_of_getElem? (i := 122) (by decide +kernel), List.mem_of_getElem? (i := 864) (by decide +kernel), List.mem_of_getElem? (i := 865) (by decide +kernel)⟩
theorem lw_p26 : lw_okq (⟨"HuntingRudder$Wake", "tryPart", "(ILHuntingRudder$Text;LHuntingRudder$Settings;)V"⟩, 13) := ⟨⟨by decide +kernel, by decide +kernel⟩, List.mem_of_getElem? (i := 122) (by decide +kernel), List.mem_of_getElem? (i := 878) (by decide +kernel), List.mem_of_getElem? (i := 879) (by decide +kernel)⟩
theorem lw_p27 : lw_okq (⟨"HuntingRudder$Wake", "tryPair", "(IILHuntingRudder$Text;LHuntingRudder$Settings;)V"⟩, 13) := ⟨⟨by decide +kernel, by decide +kernel⟩, List.mem_of_getElem? (i := 122) (by decide +kernel), List.mem_of_getElem? (i := 885) (by decide +kernel), List.mem_of_getElem? (i := 886) (by decide +kernel)⟩
theorem lw_p28 : lw_okq (⟨"HuntingRudder$Wake", "sumUp", "()V"⟩, 13) := ⟨⟨by decide +kernel, by decide +kernel⟩, List.mem_of_getElem? (i := 122) (by decide +kernel), List.mem_of_getElem? (i := 889) (by decide +kernel), List.mem_of_getElem? (i := 890) (by decide +kernel)⟩
theorem lw_p29 : lw_okq (⟨"HuntingRudder$Groups", "goOn", "(ILHuntingRudder$Wake;LHuntingRudder$Settings;)V"⟩, 7) := ⟨⟨by decide +kernel, by decide +kernel⟩, List.mem_of_getElem? (i := 178) (by decide +kernel), List.mem_of_getElem? (i := 921) (by decide +kernel), List.mem_of_getElem? (i := 922) (by decide +kernel)⟩
theorem lw_p30 : lw_okq (⟨"HuntingRudder$Groups", "partGroups", "()V"⟩, 7) := ⟨⟨by decide +kernel, by decide +kernel⟩, List.mem_of_getElem? (i := 178) (by decide +kernel), List.mem_of_getElem? (i := 936) (by decide +kernel), List.mem_of_getElem? (i := 937) (by decide +kernel)⟩
theorem lw_p31 : lw_okq (⟨"HuntingRudder$Groups", "sameOff", "(II)Z"⟩, 7) := ⟨⟨by decide +kernel, by decide +kernel⟩, List.mem_of_getElem? (i := 178) (by decide +kernel), List.mem_of_getElem? (i := 941) (by decide +kernel), List.mem_of_getElem? (i := 942) (by decide +kernel)⟩
def lw_privs_2 : List (MethodName × Nat) := [(⟨"HuntingRudder$TextReader", "valueHere", "()I"⟩, 13), (⟨"HuntingRudder$TextReader", "readGearLine", "()Z"⟩, 13), (⟨"HuntingRudder$TextReader", "readSafeLine", "()Z"⟩, 13), (⟨"HuntingRudder$TextReader", "readRowLine", "()Z"⟩, 13), (⟨"HuntingRudder$TextReader", "readRowOrder", "()Z"⟩, 13), (⟨"HuntingRudder$State", "lagging", "(II)I"⟩, 8), (⟨"HuntingRudder$Track", "keep", "(I)I"⟩, 7), (⟨"HuntingRudder$Track", "swingOf", "(II)I"⟩, 7), (⟨"HuntingRudder", "farthest", "(IILHuntingRudder$Settings;I)I"⟩, 10), (⟨"HuntingRudder$Wake", "addIfFits", "(ILHuntingRudder$Text;)V"⟩, 13), (⟨"HuntingRudder$Wake", "tryPart", "(ILHuntingRudder$Text;LHuntingRudder$Settings;)V"⟩, 13), (⟨"HuntingRudder$Wake", "tryPair", "(IILHuntingRudder$Text;LHuntingRudder$Settings;)V"⟩, 13), (⟨"HuntingRudder$Wake", "sumUp", "()V"⟩, 13), (⟨"HuntingRudder$Groups", "goOn", "(ILHuntingRudder$Wake;LHuntingRudder$Settings;)V"⟩, 7), (⟨"HuntingRudder$Groups", "partGroups", "()V"⟩, 7), (⟨"HuntingRudder$Groups", "sameOff", "(II)Z"⟩, 7)]
theorem lw_r2 : ∀ q ∈ lw_privs_2, lw_okq q := List.forall_mem_cons.mpr ⟨lw_p16, List.forall_mem_cons.mpr ⟨lw_p17, List.forall_mem_cons.mpr ⟨lw_p18, List.forall_mem_cons.mpr ⟨lw_p19, List.forall_mem_cons.mpr ⟨lw_p20, List.forall_mem_cons.mpr ⟨lw_p21, List.forall_mem_cons.mpr ⟨lw_p22, List.forall_mem_cons.mpr ⟨lw_p23, List.forall_mem_cons.mpr ⟨lw_p24, List.forall_mem_cons.mpr ⟨lw_p25, List.forall_mem_cons.mpr ⟨lw_p26, List.forall_mem_cons.mpr ⟨lw_p27, List.forall_mem_cons.mpr ⟨lw_p28, List.forall_mem_cons.mpr ⟨lw_p29, List.forall_mem_cons.mpr ⟨lw_p30, List.forall_mem_cons.mpr ⟨lw_p31, fun _ h => absurd h List.not_mem_nil⟩⟩⟩⟩⟩⟩⟩⟩⟩⟩⟩⟩⟩⟩⟩⟩
theorem lw_p32 : lw_okq (⟨"HuntingRudder$Groups", "newLeader", "(II)I"⟩, 7) := ⟨⟨by decide +kernel, by decide +kernel⟩, List.mem_of_getElem? (i := 178) (by decide +kernel), List.mem_of_getElem? (i := 946) (by decide +kernel), List.mem_of_getElem? (i := 947) (by decide +kernel)⟩
theorem lw_p33 : lw_okq (⟨"HuntingRudder$Groups", "greatestSize", "()I"⟩, 7) := ⟨⟨by decide +kernel, by decide +kernel⟩, List.mem_of_getElem? (i := 178) (by decide +kernel), List.mem_of_getElem? (i := 950) (by decide +kernel), List.mem_of_getElem? (i := 951) (by decide +kernel)⟩
theorem lw_p34 : lw_okq (⟨"HuntingRudder$Drill", "walk", "(ILHuntingRudder$Text;)V"⟩, 3) := ⟨⟨by decide +kernel, by decide +kernel⟩, List.mem_of_getElem? (i := 210) (by decide +kernel), List.mem_of_getElem? (i := 984) (by decide +kernel), List.mem_of_getElem? (i := 985) (by decide +kernel)⟩
theorem lw_p35 : lw_okq (⟨"java/lang/Throwable", "fillInStackTrace", "(I)Ljava/lang/Throwable;"⟩, 6) := ⟨⟨by decide +kernel, by decide +kernel⟩, List.mem_of_getElem? (i := 1074) (by decide +kernel), List.mem_of_getElem? (i := 1072) (by decide +kernel), List.mem_of_getElem? (i := 1073) (by decide +kernel)⟩
theorem lw_p36 : lw_okq (⟨"HuntingRudderModel", "next", "()V"⟩, 66) := ⟨⟨by decide +kernel, by decide +kernel⟩, List.mem_of_getElem? (i := 1120) (by decide +kernel), List.mem_of_getElem? (i := 1339) (by decide +kernel), List.mem_of_getElem? (i := 1340) (by decide +kernel)⟩
theorem lw_p37 : lw_okq (⟨"HuntingRudderModel", "here", "()I"⟩, 66) := ⟨⟨by decide +kernel, by decide +kernel⟩, List.mem_of_getElem? (i := 1120) (by decide +kernel), List.mem_of_getElem? (i := 1343) (by decide +kernel), List.mem_of_getElem? (i := 1344) (by decide +kernel)⟩
theorem lw_p38 : lw_okq (⟨"HuntingRudderModel", "word", "()I"⟩, 66) := ⟨⟨by decide +kernel, by decide +kernel⟩, List.mem_of_getElem? (i := 1120) (by decide +kernel), List.mem_of_getElem? (i := 1350) (by decide +kernel), List.mem_of_getElem? (i := 1351) (by decide +kernel)⟩
theorem lw_p39 : lw_okq (⟨"HuntingRudderModel", "name", "()V"⟩, 66) := ⟨⟨by decide +kernel, by decide +kernel⟩, List.mem_of_getElem? (i := 1120) (by decide +kernel), List.mem_of_getElem? (i := 1403) (by decide +kernel), List.mem_of_getElem? (i := 1404) (by decide +kernel)⟩
theorem lw_p40 : lw_okq (⟨"HuntingRudderModel", "sign", "(I)V"⟩, 66) := ⟨⟨by decide +kernel, by decide +kernel⟩, List.mem_of_getElem? (i := 1120) (by decide +kernel), List.mem_of_getElem? (i := 1410) (by decide +kernel), List.mem_of_getElem? (i := 1411) (by decide +kernel)⟩
theorem lw_p41 : lw_okq (⟨"HuntingRudderModel", "line", "()V"⟩, 66) := ⟨⟨by decide +kernel, by decide +kernel⟩, List.mem_of_getElem? (i := 1120) (by decide +kernel), List.mem_of_getElem? (i := 1414) (by decide +kernel), List.mem_of_getElem? (i := 1415) (by decide +kernel)⟩
theorem lw_p42 : lw_okq (⟨"HuntingRudderModel", "isWord", "(I)Z"⟩, 66) := ⟨⟨by decide +kernel, by decide +kernel⟩, List.mem_of_getElem? (i := 1120) (by decide +kernel), List.mem_of_getElem? (i := 1418) (by decide +kernel), List.mem_of_getElem? (i := 1419) (by decide +kernel)⟩
theorem lw_p43 : lw_okq (⟨"HuntingRudderModel", "wrong", "(I)V"⟩, 66) := ⟨⟨by decide +kernel, by decide +kernel⟩, List.mem_of_getElem? (i := 1120) (by decide +kernel), List.mem_of_getElem? (i := 1422) (by decide +kernel), List.mem_of_getElem? (i := 1423) (by decide +kernel)⟩
theorem lw_p44 : lw_okq (⟨"HuntingRudderModel", "wheelLine", "(I)V"⟩, 66) := ⟨⟨by decide +kernel, by decide +kernel⟩, List.mem_of_getElem? (i := 1120) (by decide +kernel), List.mem_of_getElem? (i := 1426) (by decide +kernel), List.mem_of_getElem? (i := 1427) (by decide +kernel)⟩
theorem lw_p45 : lw_okq (⟨"HuntingRudderModel", "expression", "()V"⟩, 66) := ⟨⟨by decide +kernel, by decide +kernel⟩, List.mem_of_getElem? (i := 1120) (by decide +kernel), List.mem_of_getElem? (i := 1430) (by decide +kernel), List.mem_of_getElem? (i := 1431) (by decide +kernel)⟩
theorem lw_p46 : lw_okq (⟨"HuntingRudderModel", "conjunction", "()V"⟩, 66) := ⟨⟨by decide +kernel, by decide +kernel⟩, List.mem_of_getElem? (i := 1120) (by decide +kernel), List.mem_of_getElem? (i := 1434) (by decide +kernel), List.mem_of_getElem? (i := 1435) (by decide +kernel)⟩
theorem lw_p47 : lw_okq (⟨"HuntingRudderModel", "negation", "()V"⟩, 66) := ⟨⟨by decide +kernel, by decide +kernel⟩, List.mem_of_getElem? (i := 1120) (by decide +kernel), List.mem_of_getElem? (i := 1438) (by decide +kernel), List.mem_of_getElem? (i := 1439) (by decide +kernel)⟩
def lw_privs_3 : List (MethodName × Nat) := [(⟨"HuntingRudder$Groups", "newLeader", "(II)I"⟩, 7), (⟨"HuntingRudder$Groups", "greatestSize", "()I"⟩, 7), (⟨"HuntingRudder$Drill", "walk", "(ILHuntingRudder$Text;)V"⟩, 3), (⟨"java/lang/Throwable", "fillInStackTrace", "(I)Ljava/lang/Throwable;"⟩, 6), (⟨"HuntingRudderModel", "next", "()V"⟩, 66), (⟨"HuntingRudderModel", "here", "()I"⟩, 66), (⟨"HuntingRudderModel", "word", "()I"⟩, 66), (⟨"HuntingRudderModel", "name", "()V"⟩, 66), (⟨"HuntingRudderModel", "sign", "(I)V"⟩, 66), (⟨"HuntingRudderModel", "line", "()V"⟩, 66), (⟨"HuntingRudderModel", "isWord", "(I)Z"⟩, 66), (⟨"HuntingRudderModel", "wrong", "(I)V"⟩, 66), (⟨"HuntingRudderModel", "wheelLine", "(I)V"⟩, 66), (⟨"HuntingRudderModel", "expression", "()V"⟩, 66), (⟨"HuntingRudderModel", "conjunction", "()V"⟩, 66), (⟨"HuntingRudderModel", "negation", "()V"⟩, 66)]
theorem lw_r3 : ∀ q ∈ lw_privs_3, lw_okq q := List.forall_mem_cons.mpr ⟨lw_p32, List.forall_mem_cons.mpr ⟨lw_p33, List.forall_mem_cons.mpr ⟨lw_p34, List.forall_mem_cons.mpr ⟨lw_p35, List.forall_mem_cons.mpr ⟨lw_p36, List.forall_mem_cons.mpr ⟨lw_p37, List.forall_mem_cons.mpr ⟨lw_p38, List.forall_mem_cons.mpr ⟨lw_p39, List.forall_mem_cons.mpr ⟨lw_p40, List.forall_mem_cons.mpr ⟨lw_p41, List.forall_mem_cons.mpr ⟨lw_p42, List.forall_mem_cons.mpr ⟨lw_p43, List.forall_mem_cons.mpr ⟨lw_p44, List.forall_mem_cons.mpr ⟨lw_p45, List.forall_mem_cons.mpr ⟨lw_p46, List.forall_mem_cons.mpr ⟨lw_p47, fun _ h => absurd h List.not_mem_nil⟩⟩⟩⟩⟩⟩⟩⟩⟩⟩⟩⟩⟩⟩⟩⟩
theorem lw_p48 : lw_okq (⟨"HuntingRudderModel", "knot", "()V"⟩, 66) := ⟨⟨by decide +kernel, by decide +kernel⟩, List.mem_of_getElem? (i := 1120) (by decide +kernel), List.mem_of_getElem? (i := 1442) (by decide +kernel), List.mem_of_getElem? (i := 1443) (by decide +kernel)⟩
theorem lw_p49 : lw_okq (⟨"HuntingRudderModel", "goOn", "()V"⟩, 66) := ⟨⟨by decide +kernel, by decide +kernel⟩, List.mem_of_getElem? (i := 1120) (by decide +kernel), List.mem_of_getElem? (i := 1446) (by decide +kernel), List.mem_of_getElem? (i := 1447) (by decide +kernel)⟩
theorem lw_p50 : lw_okq (⟨"HuntingRudderModel", "puts", "(II)V"⟩, 66) := ⟨⟨by decide +kernel, by decide +kernel⟩, List.mem_of_getElem? (i := 1120) (by decide +kernel), List.mem_of_getElem? (i := 1450) (by decide +kernel), List.mem_of_getElem? (i := 1451) (by decide +kernel)⟩
theorem lw_p51 : lw_okq (⟨"HuntingRudderModel", "sum", "()V"⟩, 66) := ⟨⟨by decide +kernel, by decide +kernel⟩, List.mem_of_getElem? (i := 1120) (by decide +kernel), List.mem_of_getElem? (i := 1454) (by decide +kernel), List.mem_of_getElem? (i := 1455) (by decide +kernel)⟩
theorem lw_p52 : lw_okq (⟨"HuntingRudderModel", "product", "()V"⟩, 66) := ⟨⟨by decide +kernel, by decide +kernel⟩, List.mem_of_getElem? (i := 1120) (by decide +kernel), List.mem_of_getElem? (i := 1458) (by decide +kernel), List.mem_of_getElem? (i := 1459) (by decide +kernel)⟩
theorem lw_p53 : lw_okq (⟨"HuntingRudderModel", "primary", "()V"⟩, 66) := ⟨⟨by decide +kernel, by decide +kernel⟩, List.mem_of_getElem? (i := 1120) (by decide +kernel), List.mem_of_getElem? (i := 1462) (by decide +kernel), List.mem_of_getElem? (i := 1463) (by decide +kernel)⟩
theorem lw_p54 : lw_okq (⟨"HuntingRudderModel", "isSign", "(I)Z"⟩, 66) := ⟨⟨by decide +kernel, by decide +kernel⟩, List.mem_of_getElem? (i := 1120) (by decide +kernel), List.mem_of_getElem? (i := 1466) (by decide +kernel), List.mem_of_getElem? (i := 1467) (by decide +kernel)⟩
theorem lw_p55 : lw_okq (⟨"HuntingRudderModel", "closes", "()V"⟩, 66) := ⟨⟨by decide +kernel, by decide +kernel⟩, List.mem_of_getElem? (i := 1120) (by decide +kernel), List.mem_of_getElem? (i := 1470) (by decide +kernel), List.mem_of_getElem? (i := 1471) (by decide +kernel)⟩
theorem lw_p56 : lw_okq (⟨"HuntingRudderModel", "gearLine", "(I)V"⟩, 66) := ⟨⟨by decide +kernel, by decide +kernel⟩, List.mem_of_getElem? (i := 1120) (by decide +kernel), List.mem_of_getElem? (i := 1474) (by decide +kernel), List.mem_of_getElem? (i := 1475) (by decide +kernel)⟩
theorem lw_p57 : lw_okq (⟨"HuntingRudderModel", "either", "()V"⟩, 66) := ⟨⟨by decide +kernel, by decide +kernel⟩, List.mem_of_getElem? (i := 1120) (by decide +kernel), List.mem_of_getElem? (i := 1481) (by decide +kernel), List.mem_of_getElem? (i := 1482) (by decide +kernel)⟩
theorem lw_p58 : lw_okq (⟨"HuntingRudderModel", "both", "()V"⟩, 66) := ⟨⟨by decide +kernel, by decide +kernel⟩, List.mem_of_getElem? (i := 1120) (by decide +kernel), List.mem_of_getElem? (i := 1485) (by decide +kernel), List.mem_of_getElem? (i := 1486) (by decide +kernel)⟩
theorem lw_p59 : lw_okq (⟨"HuntingRudderModel", "holding", "()V"⟩, 66) := ⟨⟨by decide +kernel, by decide +kernel⟩, List.mem_of_getElem? (i := 1120) (by decide +kernel), List.mem_of_getElem? (i := 1489) (by decide +kernel), List.mem_of_getElem? (i := 1490) (by decide +kernel)⟩
theorem lw_p60 : lw_okq (⟨"HuntingRudderModel", "bitKnot", "()V"⟩, 66) := ⟨⟨by decide +kernel, by decide +kernel⟩, List.mem_of_getElem? (i := 1120) (by decide +kernel), List.mem_of_getElem? (i := 1493) (by decide +kernel), List.mem_of_getElem? (i := 1494) (by decide +kernel)⟩
theorem lw_p61 : lw_okq (⟨"HuntingRudderModel", "lays", "(III)V"⟩, 66) := ⟨⟨by decide +kernel, by decide +kernel⟩, List.mem_of_getElem? (i := 1120) (by decide +kernel), List.mem_of_getElem? (i := 1497) (by decide +kernel), List.mem_of_getElem? (i := 1498) (by decide +kernel)⟩
theorem lw_p62 : lw_okq (⟨"HuntingRudderModel", "rowLine", "(I)V"⟩, 66) := ⟨⟨by decide +kernel, by decide +kernel⟩, List.mem_of_getElem? (i := 1120) (by decide +kernel), List.mem_of_getElem? (i := 1501) (by decide +kernel), List.mem_of_getElem? (i := 1502) (by decide +kernel)⟩
theorem lw_p63 : lw_okq (⟨"HuntingRudderModel", "numeral", "(II)I"⟩, 66) := ⟨⟨by decide +kernel, by decide +kernel⟩, List.mem_of_getElem? (i := 1120) (by decide +kernel), List.mem_of_getElem? (i := 1505) (by decide +kernel), List.mem_of_getElem? (i := 1506) (by decide +kernel)⟩
def lw_privs_4 : List (MethodName × Nat) := [(⟨"HuntingRudderModel", "knot", "()V"⟩, 66), (⟨"HuntingRudderModel", "goOn", "()V"⟩, 66), (⟨"HuntingRudderModel", "puts", "(II)V"⟩, 66), (⟨"HuntingRudderModel", "sum", "()V"⟩, 66), (⟨"HuntingRudderModel", "product", "()V"⟩, 66), (⟨"HuntingRudderModel", "primary", "()V"⟩, 66), (⟨"HuntingRudderModel", "isSign", "(I)Z"⟩, 66), (⟨"HuntingRudderModel", "closes", "()V"⟩, 66), (⟨"HuntingRudderModel", "gearLine", "(I)V"⟩, 66), (⟨"HuntingRudderModel", "either", "()V"⟩, 66), (⟨"HuntingRudderModel", "both", "()V"⟩, 66), (⟨"HuntingRudderModel", "holding", "()V"⟩, 66), (⟨"HuntingRudderModel", "bitKnot", "()V"⟩, 66), (⟨"HuntingRudderModel", "lays", "(III)V"⟩, 66), (⟨"HuntingRudderModel", "rowLine", "(I)V"⟩, 66), (⟨"HuntingRudderModel", "numeral", "(II)I"⟩, 66)]
theorem lw_r4 : ∀ q ∈ lw_privs_4, lw_okq q := List.forall_mem_cons.mpr ⟨lw_p48, List.forall_mem_cons.mpr ⟨lw_p49, List.forall_mem_cons.mpr ⟨lw_p50, List.forall_mem_cons.mpr ⟨lw_p51, List.forall_mem_cons.mpr ⟨lw_p52, List.forall_mem_cons.mpr ⟨lw_p53, List.forall_mem_cons.mpr ⟨lw_p54, List.forall_mem_cons.mpr ⟨lw_p55, List.forall_mem_cons.mpr ⟨lw_p56, List.forall_mem_cons.mpr ⟨lw_p57, List.forall_mem_cons.mpr ⟨lw_p58, List.forall_mem_cons.mpr ⟨lw_p59, List.forall_mem_cons.mpr ⟨lw_p60, List.forall_mem_cons.mpr ⟨lw_p61, List.forall_mem_cons.mpr ⟨lw_p62, List.forall_mem_cons.mpr ⟨lw_p63, fun _ h => absurd h List.not_mem_nil⟩⟩⟩⟩⟩⟩⟩⟩⟩⟩⟩⟩⟩⟩⟩⟩
theorem lw_p64 : lw_okq (⟨"HuntingRudderModel", "laid", "()V"⟩, 66) := ⟨⟨by decide +kernel, by decide +kernel⟩, List.mem_of_getElem? (i := 1120) (by decide +kernel), List.mem_of_getElem? (i := 1509) (by decide +kernel), List.mem_of_getElem? (i := 1510) (by decide +kernel)⟩
theorem lw_p65 : lw_okq (⟨"HuntingRudderModel", "starts", "(I)V"⟩, 66) := ⟨⟨by decide +kernel, by decide +kernel⟩, List.mem_of_getElem? (i := 1120) (by decide +kernel), List.mem_of_getElem? (i := 1543) (by decide +kernel), List.mem_of_getElem? (i := 1544) (by decide +kernel)⟩
theorem lw_p66 : lw_okq (⟨"HuntingRudderModel", "ordered", "()I"⟩, 66) := ⟨⟨by decide +kernel, by decide +kernel⟩, List.mem_of_getElem? (i := 1120) (by decide +kernel), List.mem_of_getElem? (i := 1547) (by decide +kernel), List.mem_of_getElem? (i := 1548) (by decide +kernel)⟩
theorem lw_p67 : lw_okq (⟨"HuntingRudderModel", "goes", "(II)Z"⟩, 66) := ⟨⟨by decide +kernel, by decide +kernel⟩, List.mem_of_getElem? (i := 1120) (by decide +kernel), List.mem_of_getElem? (i := 1551) (by decide +kernel), List.mem_of_getElem? (i := 1552) (by decide +kernel)⟩
theorem lw_p68 : lw_okq (⟨"HuntingRudderModel", "works", "(I)Z"⟩, 66) := ⟨⟨by decide +kernel, by decide +kernel⟩, List.mem_of_getElem? (i := 1120) (by decide +kernel), List.mem_of_getElem? (i := 1555) (by decide +kernel), List.mem_of_getElem? (i := 1556) (by decide +kernel)⟩
theorem lw_p69 : lw_okq (⟨"HuntingRudderModel", "nameOf", "(I)J"⟩, 66) := ⟨⟨by decide +kernel, by decide +kernel⟩, List.mem_of_getElem? (i := 1120) (by decide +kernel), List.mem_of_getElem? (i := 1567) (by decide +kernel), List.mem_of_getElem? (i := 1568) (by decide +kernel)⟩
theorem lw_p70 : lw_okq (⟨"HuntingRudderModel", "steps", "(I)V"⟩, 66) := ⟨⟨by decide +kernel, by decide +kernel⟩, List.mem_of_getElem? (i := 1120) (by decide +kernel), List.mem_of_getElem? (i := 1575) (by decide +kernel), List.mem_of_getElem? (i := 1576) (by decide +kernel)⟩
theorem lw_p71 : lw_okq (⟨"HuntingRudderModel", "what", "(I)I"⟩, 66) := ⟨⟨by decide +kernel, by decide +kernel⟩, List.mem_of_getElem? (i := 1120) (by decide +kernel), List.mem_of_getElem? (i := 1584) (by decide +kernel), List.mem_of_getElem? (i := 1585) (by decide +kernel)⟩
theorem lw_p72 : lw_okq (⟨"HuntingRudderModel", "rowed", "(II)I"⟩, 66) := ⟨⟨by decide +kernel, by decide +kernel⟩, List.mem_of_getElem? (i := 1120) (by decide +kernel), List.mem_of_getElem? (i := 1592) (by decide +kernel), List.mem_of_getElem? (i := 1593) (by decide +kernel)⟩
theorem lw_p73 : lw_okq (⟨"HuntingRudderModel", "hunts", "(I)V"⟩, 66) := ⟨⟨by decide +kernel, by decide +kernel⟩, List.mem_of_getElem? (i := 1120) (by decide +kernel), List.mem_of_getElem? (i := 1600) (by decide +kernel), List.mem_of_getElem? (i := 1601) (by decide +kernel)⟩
theorem lw_p74 : lw_okq (⟨"HuntingRudderModel", "keeps", "(I)V"⟩, 66) := ⟨⟨by decide +kernel, by decide +kernel⟩, List.mem_of_getElem? (i := 1120) (by decide +kernel), List.mem_of_getElem? (i := 1604) (by decide +kernel), List.mem_of_getElem? (i := 1605) (by decide +kernel)⟩
theorem lw_p75 : lw_okq (⟨"HuntingRudderModel", "isLike", "(II)Z"⟩, 66) := ⟨⟨by decide +kernel, by decide +kernel⟩, List.mem_of_getElem? (i := 1120) (by decide +kernel), List.mem_of_getElem? (i := 1608) (by decide +kernel), List.mem_of_getElem? (i := 1609) (by decide +kernel)⟩
theorem lw_p76 : lw_okq (⟨"HuntingRudderModel", "furthest", "(III)I"⟩, 66) := ⟨⟨by decide +kernel, by decide +kernel⟩, List.mem_of_getElem? (i := 1120) (by decide +kernel), List.mem_of_getElem? (i := 1617) (by decide +kernel), List.mem_of_getElem? (i := 1618) (by decide +kernel)⟩
theorem lw_p77 : lw_okq (⟨"HuntingRudderModel", "seeks", "(II)V"⟩, 66) := ⟨⟨by decide +kernel, by decide +kernel⟩, List.mem_of_getElem? (i := 1120) (by decide +kernel), List.mem_of_getElem? (i := 1640) (by decide +kernel), List.mem_of_getElem? (i := 1641) (by decide +kernel)⟩
theorem lw_p78 : lw_okq (⟨"HuntingRudderModel", "isFit", "(II)Z"⟩, 66) := ⟨⟨by decide +kernel, by decide +kernel⟩, List.mem_of_getElem? (i := 1120) (by decide +kernel), List.mem_of_getElem? (i := 1644) (by decide +kernel), List.mem_of_getElem? (i := 1645) (by decide +kernel)⟩
theorem lw_p79 : lw_okq (⟨"HuntingRudderModel", "adds", "(IIII)V"⟩, 66) := ⟨⟨by decide +kernel, by decide +kernel⟩, List.mem_of_getElem? (i := 1120) (by decide +kernel), List.mem_of_getElem? (i := 1648) (by decide +kernel), List.mem_of_getElem? (i := 1649) (by decide +kernel)⟩
def lw_privs_5 : List (MethodName × Nat) := [(⟨"HuntingRudderModel", "laid", "()V"⟩, 66), (⟨"HuntingRudderModel", "starts", "(I)V"⟩, 66), (⟨"HuntingRudderModel", "ordered", "()I"⟩, 66), (⟨"HuntingRudderModel", "goes", "(II)Z"⟩, 66), (⟨"HuntingRudderModel", "works", "(I)Z"⟩, 66), (⟨"HuntingRudderModel", "nameOf", "(I)J"⟩, 66), (⟨"HuntingRudderModel", "steps", "(I)V"⟩, 66), (⟨"HuntingRudderModel", "what", "(I)I"⟩, 66), (⟨"HuntingRudderModel", "rowed", "(II)I"⟩, 66), (⟨"HuntingRudderModel", "hunts", "(I)V"⟩, 66), (⟨"HuntingRudderModel", "keeps", "(I)V"⟩, 66), (⟨"HuntingRudderModel", "isLike", "(II)Z"⟩, 66), (⟨"HuntingRudderModel", "furthest", "(III)I"⟩, 66), (⟨"HuntingRudderModel", "seeks", "(II)V"⟩, 66), (⟨"HuntingRudderModel", "isFit", "(II)Z"⟩, 66), (⟨"HuntingRudderModel", "adds", "(IIII)V"⟩, 66)]
theorem lw_r5 : ∀ q ∈ lw_privs_5, lw_okq q := List.forall_mem_cons.mpr ⟨lw_p64, List.forall_mem_cons.mpr ⟨lw_p65, List.forall_mem_cons.mpr ⟨lw_p66, List.forall_mem_cons.mpr ⟨lw_p67, List.forall_mem_cons.mpr ⟨lw_p68, List.forall_mem_cons.mpr ⟨lw_p69, List.forall_mem_cons.mpr ⟨lw_p70, List.forall_mem_cons.mpr ⟨lw_p71, List.forall_mem_cons.mpr ⟨lw_p72, List.forall_mem_cons.mpr ⟨lw_p73, List.forall_mem_cons.mpr ⟨lw_p74, List.forall_mem_cons.mpr ⟨lw_p75, List.forall_mem_cons.mpr ⟨lw_p76, List.forall_mem_cons.mpr ⟨lw_p77, List.forall_mem_cons.mpr ⟨lw_p78, List.forall_mem_cons.mpr ⟨lw_p79, fun _ h => absurd h List.not_mem_nil⟩⟩⟩⟩⟩⟩⟩⟩⟩⟩⟩⟩⟩⟩⟩⟩
theorem lw_p80 : lw_okq (⟨"HuntingRudderModel", "pairs", "(IIII)V"⟩, 66) := ⟨⟨by decide +kernel, by decide +kernel⟩, List.mem_of_getElem? (i := 1120) (by decide +kernel), List.mem_of_getElem? (i := 1652) (by decide +kernel), List.mem_of_getElem? (i := 1653) (by decide +kernel)⟩
theorem lw_p81 : lw_okq (⟨"HuntingRudderModel", "greatestGroup", "(II)I"⟩, 66) := ⟨⟨by decide +kernel, by decide +kernel⟩, List.mem_of_getElem? (i := 1120) (by decide +kernel), List.mem_of_getElem? (i := 1664) (by decide +kernel), List.mem_of_getElem? (i := 1665) (by decide +kernel)⟩
theorem lw_p82 : lw_okq (⟨"HuntingRudderModel", "wake", "(III)V"⟩, 66) := ⟨⟨by decide +kernel, by decide +kernel⟩, List.mem_of_getElem? (i := 1120) (by decide +kernel), List.mem_of_getElem? (i := 1668) (by decide +kernel), List.mem_of_getElem? (i := 1669) (by decide +kernel)⟩
theorem lw_p83 : lw_okq (⟨"HuntingRudderModel", "isSame", "(III)Z"⟩, 66) := ⟨⟨by decide +kernel, by decide +kernel⟩, List.mem_of_getElem? (i := 1120) (by decide +kernel), List.mem_of_getElem? (i := 1672) (by decide +kernel), List.mem_of_getElem? (i := 1673) (by decide +kernel)⟩
theorem lw_p84 : lw_okq (⟨"HuntingRudderModel", "isGears", "(I)Z"⟩, 66) := ⟨⟨by decide +kernel, by decide +kernel⟩, List.mem_of_getElem? (i := 1120) (by decide +kernel), List.mem_of_getElem? (i := 1684) (by decide +kernel), List.mem_of_getElem? (i := 1685) (by decide +kernel)⟩
theorem lw_p85 : lw_okq (⟨"HuntingRudderModel", "isSafe", "(I)Z"⟩, 66) := ⟨⟨by decide +kernel, by decide +kernel⟩, List.mem_of_getElem? (i := 1120) (by decide +kernel), List.mem_of_getElem? (i := 1688) (by decide +kernel), List.mem_of_getElem? (i := 1689) (by decide +kernel)⟩
theorem lw_p86 : lw_okq (⟨"HuntingRudderModel", "holdsBy", "(III)Z"⟩, 66) := ⟨⟨by decide +kernel, by decide +kernel⟩, List.mem_of_getElem? (i := 1120) (by decide +kernel), List.mem_of_getElem? (i := 1692) (by decide +kernel), List.mem_of_getElem? (i := 1693) (by decide +kernel)⟩
theorem lw_p87 : lw_okq (⟨"HuntingRudderModel", "measures", "(I)V"⟩, 66) := ⟨⟨by decide +kernel, by decide +kernel⟩, List.mem_of_getElem? (i := 1120) (by decide +kernel), List.mem_of_getElem? (i := 1700) (by decide +kernel), List.mem_of_getElem? (i := 1701) (by decide +kernel)⟩
theorem lw_p88 : lw_okq (⟨"HuntingRudderModel", "mayChange", "(II)Z"⟩, 66) := ⟨⟨by decide +kernel, by decide +kernel⟩, List.mem_of_getElem? (i := 1120) (by decide +kernel), List.mem_of_getElem? (i := 1704) (by decide +kernel), List.mem_of_getElem? (i := 1705) (by decide +kernel)⟩
theorem lw_p89 : lw_okq (⟨"HuntingRudderModel", "leaves", "(I)V"⟩, 66) := ⟨⟨by decide +kernel, by decide +kernel⟩, List.mem_of_getElem? (i := 1120) (by decide +kernel), List.mem_of_getElem? (i := 1712) (by decide +kernel), List.mem_of_getElem? (i := 1713) (by decide +kernel)⟩
theorem lw_p90 : lw_okq (⟨"HuntingRudderModel", "brings", "(I)V"⟩, 66) := ⟨⟨by decide +kernel, by decide +kernel⟩, List.mem_of_getElem? (i := 1120) (by decide +kernel), List.mem_of_getElem? (i := 1720) (by decide +kernel), List.mem_of_getElem? (i := 1721) (by decide +kernel)⟩
def lw_privs_6 : List (MethodName × Nat) := [(⟨"HuntingRudderModel", "pairs", "(IIII)V"⟩, 66), (⟨"HuntingRudderModel", "greatestGroup", "(II)I"⟩, 66), (⟨"HuntingRudderModel", "wake", "(III)V"⟩, 66), (⟨"HuntingRudderModel", "isSame", "(III)Z"⟩, 66), (⟨"HuntingRudderModel", "isGears", "(I)Z"⟩, 66), (⟨"HuntingRudderModel", "isSafe", "(I)Z"⟩, 66), (⟨"HuntingRudderModel", "holdsBy", "(III)Z"⟩, 66), (⟨"HuntingRudderModel", "measures", "(I)V"⟩, 66), (⟨"HuntingRudderModel", "mayChange", "(II)Z"⟩, 66), (⟨"HuntingRudderModel", "leaves", "(I)V"⟩, 66), (⟨"HuntingRudderModel", "brings", "(I)V"⟩, 66)]
theorem lw_r6 : ∀ q ∈ lw_privs_6, lw_okq q := List.forall_mem_cons.mpr ⟨lw_p80, List.forall_mem_cons.mpr ⟨lw_p81, List.forall_mem_cons.mpr ⟨lw_p82, List.forall_mem_cons.mpr ⟨lw_p83, List.forall_mem_cons.mpr ⟨lw_p84, List.forall_mem_cons.mpr ⟨lw_p85, List.forall_mem_cons.mpr ⟨lw_p86, List.forall_mem_cons.mpr ⟨lw_p87, List.forall_mem_cons.mpr ⟨lw_p88, List.forall_mem_cons.mpr ⟨lw_p89, List.forall_mem_cons.mpr ⟨lw_p90, fun _ h => absurd h List.not_mem_nil⟩⟩⟩⟩⟩⟩⟩⟩⟩⟩⟩
def lw_privs : List (MethodName × Nat) := lw_privs_1 ++ (lw_privs_2 ++ (lw_privs_3 ++ (lw_privs_4 ++ (lw_privs_5 ++ (lw_privs_6)))))
def lw_tbl : List Cond := k2_sels lw_privs ++ tables_1
theorem lw_privs_ok : ∀ q ∈ lw_privs, lw_okq q := by
  show ∀ q ∈ lw_privs_1 ++ (lw_privs_2 ++ (lw_privs_3 ++ (lw_privs_4 ++ (lw_privs_5 ++ (lw_privs_6))))), lw_okq q
  exact List.forall_mem_append.mpr ⟨lw_r1, List.forall_mem_append.mpr ⟨lw_r2, List.forall_mem_append.mpr ⟨lw_r3, List.forall_mem_append.mpr ⟨lw_r4, List.forall_mem_append.mpr ⟨lw_r5, lw_r6⟩⟩⟩⟩⟩
def RX0 : String := "HuntingRudder$Drill"
def TX0 : u_T := fun k => match k with
  | 0 => ("HuntingRudder$Drill", "away", "[J", true)
  | 1 => ("HuntingRudder$Drill", "changes", "[I", true)
  | _ => ("HuntingRudder$Drill", "length", "I", false)
def tyX0 : Nat → FieldType := fun k => match k with
  | 0 => .array .long
  | 1 => .array .int
  | _ => .int
abbrev wsX00 : List Cond := u_ws RX0 TX0 3
theorem nmX0 : ∀ a, a < 3 → ∀ b, b < 3 → a ≠ b → (TX0 a).2.1 ≠ (TX0 b).2.1 := by decide +kernel
theorem tyX0_ok : ∀ k, k < 3 → parseFieldDescriptor (TX0 k).2.2.1 = some (tyX0 k) := by decide +kernel
abbrev cX0_init : ByteArray := prog_2_method_1_code
def yX0_init : MethodName := ⟨RX0, "<init>", "()V"⟩
abbrev cX0_find : ByteArray := prog_2_method_2_code
def yX0_find : MethodName := ⟨RX0, "find", "(IILHuntingRudder$Text;)Z"⟩
abbrev cX0_gearAt : ByteArray := prog_2_method_3_code
def yX0_gearAt : MethodName := ⟨RX0, "gearAt", "(I)I"⟩
abbrev cX0_aheadOf : ByteArray := prog_2_method_4_code
def yX0_aheadOf : MethodName := ⟨RX0, "aheadOf", "(JLHuntingRudder$Text;)J"⟩
abbrev cX0_changed : ByteArray := prog_2_method_5_code
def yX0_changed : MethodName := ⟨RX0, "changed", "(JI)J"⟩
abbrev cX0_walk : ByteArray := prog_2_method_6_code
def yX0_walk : MethodName := ⟨RX0, "walk", "(ILHuntingRudder$Text;)V"⟩
def RX1 : String := "HuntingRudder$Groups"
def TX1 : u_T := fun k => match k with
  | 0 => ("HuntingRudder$Groups", "state", "LHuntingRudder$State;", true)
  | 1 => ("HuntingRudder$Groups", "tried", "LHuntingRudder$Settings;", true)
  | 2 => ("HuntingRudder$Groups", "states", "[J", true)
  | 3 => ("HuntingRudder$Groups", "leaders", "[I", true)
  | 4 => ("HuntingRudder$Groups", "leadersAhead", "[I", true)
  | 5 => ("HuntingRudder$Groups", "sizes", "[I", true)
  | _ => ("HuntingRudder$Groups", "members", "I", false)
def tyX1 : Nat → FieldType := fun k => match k with
  | 0 => .object "HuntingRudder$State"
  | 1 => .object "HuntingRudder$Settings"
  | 2 => .array .long
  | 3 => .array .int
  | 4 => .array .int
  | 5 => .array .int
  | _ => .int
abbrev wsX10 : List Cond := u_ws RX1 TX1 7
theorem nmX1 : ∀ a, a < 7 → ∀ b, b < 7 → a ≠ b → (TX1 a).2.1 ≠ (TX1 b).2.1 := by decide +kernel
theorem tyX1_ok : ∀ k, k < 7 → parseFieldDescriptor (TX1 k).2.2.1 = some (tyX1 k) := by decide +kernel
abbrev cX1_init : ByteArray := prog_3_method_1_code
def yX1_init : MethodName := ⟨RX1, "<init>", "()V"⟩
abbrev cX1_greatest : ByteArray := prog_3_method_2_code
def yX1_greatest : MethodName := ⟨RX1, "greatest", "(IILHuntingRudder$Wake;LHuntingRudder$Text;LHuntingRudder$Settings;)I"⟩
abbrev cX1_goOn : ByteArray := prog_3_method_3_code
def yX1_goOn : MethodName := ⟨RX1, "goOn", "(ILHuntingRudder$Wake;LHuntingRudder$Settings;)V"⟩
abbrev cX1_partGroups : ByteArray := prog_3_method_4_code
def yX1_partGroups : MethodName := ⟨RX1, "partGroups", "()V"⟩
abbrev cX1_sameOff : ByteArray := prog_3_method_5_code
def yX1_sameOff : MethodName := ⟨RX1, "sameOff", "(II)Z"⟩
abbrev cX1_newLeader : ByteArray := prog_3_method_6_code
def yX1_newLeader : MethodName := ⟨RX1, "newLeader", "(II)I"⟩
abbrev cX1_greatestSize : ByteArray := prog_3_method_7_code
def yX1_greatestSize : MethodName := ⟨RX1, "greatestSize", "()I"⟩
def RX2 : String := "HuntingRudder$Knots"
def TX2 : u_T := fun k => match k with
  | 0 => ("HuntingRudder$Knots", "knots", "[I", true)
  | 1 => ("HuntingRudder$Knots", "places", "[I", true)
  | 2 => ("HuntingRudder$Knots", "values", "[J", true)
  | 3 => ("HuntingRudder$Knots", "counted", "I", false)
  | _ => ("HuntingRudder$Knots", "written", "I", false)
def tyX2 : Nat → FieldType := fun k => match k with
  | 0 => .array .int
  | 1 => .array .int
  | 2 => .array .long
  | 3 => .int
  | _ => .int
abbrev wsX20 : List Cond := u_ws RX2 TX2 5
theorem nmX2 : ∀ a, a < 5 → ∀ b, b < 5 → a ≠ b → (TX2 a).2.1 ≠ (TX2 b).2.1 := by decide +kernel
theorem tyX2_ok : ∀ k, k < 5 → parseFieldDescriptor (TX2 k).2.2.1 = some (tyX2 k) := by decide +kernel
abbrev cX2_init : ByteArray := prog_4_method_1_code
def yX2_init : MethodName := ⟨RX2, "<init>", "()V"⟩
abbrev cX2_clear : ByteArray := prog_4_method_2_code
def yX2_clear : MethodName := ⟨RX2, "clear", "()V"⟩
abbrev cX2_addOne : ByteArray := prog_4_method_3_code
def yX2_addOne : MethodName := ⟨RX2, "addOne", "()Z"⟩
abbrev cX2_write : ByteArray := prog_4_method_4_code
def yX2_write : MethodName := ⟨RX2, "write", "(II)V"⟩
abbrev cX2_settleGears : ByteArray := prog_4_method_5_code
def yX2_settleGears : MethodName := ⟨RX2, "settleGears", "(LHuntingRudder$Text;)I"⟩
abbrev cX2_workOut : ByteArray := prog_4_method_6_code
def yX2_workOut : MethodName := ⟨RX2, "workOut", "(IILHuntingRudder$State;)J"⟩
abbrev cX2_joined : ByteArray := prog_4_method_7_code
def yX2_joined : MethodName := ⟨RX2, "joined", "(IJJ)J"⟩
abbrev cX2_tableOf : ByteArray := prog_4_method_8_code
def yX2_tableOf : MethodName := ⟨RX2, "tableOf", "(II)J"⟩
abbrev cX2_rank : ByteArray := prog_4_method_9_code
def yX2_rank : MethodName := ⟨RX2, "rank", "(I)I"⟩
def RX3 : String := "HuntingRudder$Settings"
def TX3 : u_T := fun k => match k with
  | 0 => ("HuntingRudder$Settings", "parts", "[I", true)
  | _ => ("HuntingRudder$Settings", "ship", "[I", true)
def tyX3 : Nat → FieldType := fun k => match k with
  | 0 => .array .int
  | _ => .array .int
abbrev wsX30 : List Cond := u_ws RX3 TX3 2
theorem nmX3 : ∀ a, a < 2 → ∀ b, b < 2 → a ≠ b → (TX3 a).2.1 ≠ (TX3 b).2.1 := by decide +kernel
theorem tyX3_ok : ∀ k, k < 2 → parseFieldDescriptor (TX3 k).2.2.1 = some (tyX3 k) := by decide +kernel
abbrev cX3_init : ByteArray := prog_5_method_1_code
def yX3_init : MethodName := ⟨RX3, "<init>", "()V"⟩
abbrev cX3_setPart : ByteArray := prog_5_method_2_code
def yX3_setPart : MethodName := ⟨RX3, "setPart", "(II)Z"⟩
abbrev cX3_setShip : ByteArray := prog_5_method_3_code
def yX3_setShip : MethodName := ⟨RX3, "setShip", "(II)Z"⟩
abbrev cX3_copy : ByteArray := prog_5_method_4_code
def yX3_copy : MethodName := ⟨RX3, "copy", "(LHuntingRudder$Settings;)V"⟩
def RX4 : String := "HuntingRudder$State"
def TX4 : u_T := fun k => match k with
  | 0 => ("HuntingRudder$State", "wheel", "I", false)
  | 1 => ("HuntingRudder$State", "ram", "I", false)
  | 2 => ("HuntingRudder$State", "rudder", "I", false)
  | 3 => ("HuntingRudder$State", "turn", "I", false)
  | 4 => ("HuntingRudder$State", "off", "I", false)
  | 5 => ("HuntingRudder$State", "latest", "I", false)
  | 6 => ("HuntingRudder$State", "second", "I", false)
  | _ => ("HuntingRudder$State", "third", "I", false)
def tyX4 : Nat → FieldType := fun k => match k with
  | 0 => .int
  | 1 => .int
  | 2 => .int
  | 3 => .int
  | 4 => .int
  | 5 => .int
  | 6 => .int
  | _ => .int
abbrev wsX40 : List Cond := u_ws RX4 TX4 8
theorem nmX4 : ∀ a, a < 8 → ∀ b, b < 8 → a ≠ b → (TX4 a).2.1 ≠ (TX4 b).2.1 := by decide +kernel
theorem tyX4_ok : ∀ k, k < 8 → parseFieldDescriptor (TX4 k).2.2.1 = some (tyX4 k) := by decide +kernel
abbrev cX4_init : ByteArray := prog_6_method_1_code
def yX4_init : MethodName := ⟨RX4, "<init>", "()V"⟩
abbrev cX4_start : ByteArray := prog_6_method_2_code
def yX4_start : MethodName := ⟨RX4, "start", "(I)V"⟩
abbrev cX4_step : ByteArray := prog_6_method_3_code
def yX4_step : MethodName := ⟨RX4, "step", "(ILHuntingRudder$Settings;)V"⟩
abbrev cX4_goOn : ByteArray := prog_6_method_4_code
def yX4_goOn : MethodName := ⟨RX4, "goOn", "(LHuntingRudder$Text;LHuntingRudder$Settings;)Z"⟩
abbrev cX4_lagging : ByteArray := prog_6_method_5_code
def yX4_lagging : MethodName := ⟨RX4, "lagging", "(II)I"⟩
abbrev cX4_pull : ByteArray := prog_6_method_6_code
def yX4_pull : MethodName := ⟨RX4, "pull", "(III)I"⟩
abbrev cX4_look : ByteArray := prog_6_method_7_code
def yX4_look : MethodName := ⟨RX4, "look", "(I)I"⟩
abbrev cX4_packed : ByteArray := prog_6_method_8_code
def yX4_packed : MethodName := ⟨RX4, "packed", "()J"⟩
abbrev cX4_offOf : ByteArray := prog_6_method_9_code
def yX4_offOf : MethodName := ⟨RX4, "offOf", "(J)I"⟩
abbrev cX4_unpack : ByteArray := prog_6_method_10_code
def yX4_unpack : MethodName := ⟨RX4, "unpack", "(J)V"⟩
def RX5 : String := "HuntingRudder$Tape"
def TX5 : u_T := fun k => match k with
  | 0 => ("HuntingRudder$Tape", "bytes", "[B", true)
  | 1 => ("HuntingRudder$Tape", "held", "I", false)
  | 2 => ("HuntingRudder$Tape", "length", "I", false)
  | 3 => ("HuntingRudder$Tape", "next", "I", false)
  | 4 => ("HuntingRudder$Tape", "kind", "I", false)
  | 5 => ("HuntingRudder$Tape", "value", "I", false)
  | _ => ("HuntingRudder$Tape", "place", "I", false)
def tyX5 : Nat → FieldType := fun k => match k with
  | 0 => .array .byte
  | 1 => .int
  | 2 => .int
  | 3 => .int
  | 4 => .int
  | 5 => .int
  | _ => .int
abbrev wsX50 : List Cond := u_ws RX5 TX5 7
theorem nmX5 : ∀ a, a < 7 → ∀ b, b < 7 → a ≠ b → (TX5 a).2.1 ≠ (TX5 b).2.1 := by decide +kernel
theorem tyX5_ok : ∀ k, k < 7 → parseFieldDescriptor (TX5 k).2.2.1 = some (tyX5 k) := by decide +kernel
abbrev cX5_init : ByteArray := prog_7_method_1_code
def yX5_init : MethodName := ⟨RX5, "<init>", "()V"⟩
abbrev cX5_hasRoom : ByteArray := prog_7_method_2_code
def yX5_hasRoom : MethodName := ⟨RX5, "hasRoom", "()Z"⟩
abbrev cX5_put : ByteArray := prog_7_method_3_code
def yX5_put : MethodName := ⟨RX5, "put", "(I)V"⟩
abbrev cX5_open : ByteArray := prog_7_method_4_code
def yX5_open : MethodName := ⟨RX5, "open", "(I)V"⟩
abbrev cX5_bytesInAll : ByteArray := prog_7_method_5_code
def yX5_bytesInAll : MethodName := ⟨RX5, "bytesInAll", "()I"⟩
abbrev cX5_advance : ByteArray := prog_7_method_6_code
def yX5_advance : MethodName := ⟨RX5, "advance", "()V"⟩
abbrev cX5_readWord : ByteArray := prog_7_method_7_code
def yX5_readWord : MethodName := ⟨RX5, "readWord", "()V"⟩
abbrev cX5_isOfLanguage : ByteArray := prog_7_method_8_code
def yX5_isOfLanguage : MethodName := ⟨RX5, "isOfLanguage", "(I)Z"⟩
abbrev cX5_readNumber : ByteArray := prog_7_method_9_code
def yX5_readNumber : MethodName := ⟨RX5, "readNumber", "()V"⟩
abbrev cX5_readSign : ByteArray := prog_7_method_10_code
def yX5_readSign : MethodName := ⟨RX5, "readSign", "(I)V"⟩
abbrev cX5_comparison : ByteArray := prog_7_method_11_code
def yX5_comparison : MethodName := ⟨RX5, "comparison", "(II)I"⟩
abbrev cX5_singleSign : ByteArray := prog_7_method_12_code
def yX5_singleSign : MethodName := ⟨RX5, "singleSign", "(I)I"⟩
def RX6 : String := "HuntingRudder$Text"
def TX6 : u_T := fun k => match k with
  | 0 => ("HuntingRudder$Text", "orders", "LHuntingRudder$Knots;", true)
  | 1 => ("HuntingRudder$Text", "conditions", "LHuntingRudder$Knots;", true)
  | 2 => ("HuntingRudder$Text", "starts", "[I", true)
  | 3 => ("HuntingRudder$Text", "middles", "[I", true)
  | 4 => ("HuntingRudder$Text", "names", "[I", true)
  | 5 => ("HuntingRudder$Text", "mayTables", "[J", true)
  | 6 => ("HuntingRudder$Text", "rowSteps", "[I", true)
  | 7 => ("HuntingRudder$Text", "rowLengths", "[I", true)
  | 8 => ("HuntingRudder$Text", "rowOrders", "[I", true)
  | 9 => ("HuntingRudder$Text", "safeTable", "J", false)
  | 10 => ("HuntingRudder$Text", "lines", "I", false)
  | 11 => ("HuntingRudder$Text", "wheelLines", "I", false)
  | 12 => ("HuntingRudder$Text", "gears", "I", false)
  | _ => ("HuntingRudder$Text", "rows", "I", false)
def tyX6 : Nat → FieldType := fun k => match k with
  | 0 => .object "HuntingRudder$Knots"
  | 1 => .object "HuntingRudder$Knots"
  | 2 => .array .int
  | 3 => .array .int
  | 4 => .array .int
  | 5 => .array .long
  | 6 => .array .int
  | 7 => .array .int
  | 8 => .array .int
  | 9 => .long
  | 10 => .int
  | 11 => .int
  | 12 => .int
  | _ => .int
abbrev wsX60 : List Cond := u_ws RX6 TX6 14
theorem nmX6 : ∀ a, a < 14 → ∀ b, b < 14 → a ≠ b → (TX6 a).2.1 ≠ (TX6 b).2.1 := by decide +kernel
theorem tyX6_ok : ∀ k, k < 14 → parseFieldDescriptor (TX6 k).2.2.1 = some (tyX6 k) := by decide +kernel
abbrev cX6_init : ByteArray := prog_8_method_1_code
def yX6_init : MethodName := ⟨RX6, "<init>", "()V"⟩
abbrev cX6_clear : ByteArray := prog_8_method_2_code
def yX6_clear : MethodName := ⟨RX6, "clear", "()V"⟩
abbrev cX6_startWheelLine : ByteArray := prog_8_method_3_code
def yX6_startWheelLine : MethodName := ⟨RX6, "startWheelLine", "()V"⟩
abbrev cX6_endIf : ByteArray := prog_8_method_4_code
def yX6_endIf : MethodName := ⟨RX6, "endIf", "()V"⟩
abbrev cX6_endWheelLine : ByteArray := prog_8_method_5_code
def yX6_endWheelLine : MethodName := ⟨RX6, "endWheelLine", "()V"⟩
abbrev cX6_addGear : ByteArray := prog_8_method_6_code
def yX6_addGear : MethodName := ⟨RX6, "addGear", "(I)V"⟩
abbrev cX6_addRow : ByteArray := prog_8_method_7_code
def yX6_addRow : MethodName := ⟨RX6, "addRow", "(I)V"⟩
abbrev cX6_latestLength : ByteArray := prog_8_method_8_code
def yX6_latestLength : MethodName := ⟨RX6, "latestLength", "()I"⟩
abbrev cX6_addRowOrder : ByteArray := prog_8_method_9_code
def yX6_addRowOrder : MethodName := ⟨RX6, "addRowOrder", "(I)V"⟩
abbrev cX6_hasRow : ByteArray := prog_8_method_10_code
def yX6_hasRow : MethodName := ⟨RX6, "hasRow", "(I)Z"⟩
abbrev cX6_hasGears : ByteArray := prog_8_method_11_code
def yX6_hasGears : MethodName := ⟨RX6, "hasGears", "(I)Z"⟩
abbrev cX6_rowOrder : ByteArray := prog_8_method_12_code
def yX6_rowOrder : MethodName := ⟨RX6, "rowOrder", "(II)I"⟩
abbrev cX6_orderOfRow : ByteArray := prog_8_method_13_code
def yX6_orderOfRow : MethodName := ⟨RX6, "orderOfRow", "(II)I"⟩
abbrev cX6_gearOf : ByteArray := prog_8_method_14_code
def yX6_gearOf : MethodName := ⟨RX6, "gearOf", "(I)I"⟩
abbrev cX6_orderIn : ByteArray := prog_8_method_15_code
def yX6_orderIn : MethodName := ⟨RX6, "orderIn", "(LHuntingRudder$State;)I"⟩
def RX7 : String := "HuntingRudder$TextReader"
def TX7 : u_T := fun k => match k with
  | 0 => ("HuntingRudder$TextReader", "tape", "LHuntingRudder$Tape;", true)
  | 1 => ("HuntingRudder$TextReader", "waiting", "[I", true)
  | 2 => ("HuntingRudder$TextReader", "froms", "[I", true)
  | 3 => ("HuntingRudder$TextReader", "tos", "[I", true)
  | 4 => ("HuntingRudder$TextReader", "into", "LHuntingRudder$Text;", false)
  | 5 => ("HuntingRudder$TextReader", "list", "LHuntingRudder$Knots;", false)
  | 6 => ("HuntingRudder$TextReader", "ofGears", "Z", false)
  | 7 => ("HuntingRudder$TextReader", "waitings", "I", false)
  | 8 => ("HuntingRudder$TextReader", "opened", "I", false)
  | 9 => ("HuntingRudder$TextReader", "phase", "I", false)
  | 10 => ("HuntingRudder$TextReader", "hasSafe", "Z", false)
  | 11 => ("HuntingRudder$TextReader", "fault", "I", false)
  | _ => ("HuntingRudder$TextReader", "faultPlace", "I", false)
def tyX7 : Nat → FieldType := fun k => match k with
  | 0 => .object "HuntingRudder$Tape"
  | 1 => .array .int
  | 2 => .array .int
  | 3 => .array .int
  | 4 => .object "HuntingRudder$Text"
  | 5 => .object "HuntingRudder$Knots"
  | 6 => .boolean
  | 7 => .int
  | 8 => .int
  | 9 => .int
  | 10 => .boolean
  | 11 => .int
  | _ => .int
abbrev wsX70 : List Cond := u_ws RX7 TX7 13
theorem nmX7 : ∀ a, a < 13 → ∀ b, b < 13 → a ≠ b → (TX7 a).2.1 ≠ (TX7 b).2.1 := by decide +kernel
theorem tyX7_ok : ∀ k, k < 13 → parseFieldDescriptor (TX7 k).2.2.1 = some (tyX7 k) := by decide +kernel
abbrev cX7_init : ByteArray := prog_9_method_1_code
def yX7_init : MethodName := ⟨RX7, "<init>", "()V"⟩
abbrev cX7_open : ByteArray := prog_9_method_2_code
def yX7_open : MethodName := ⟨RX7, "open", "(I)V"⟩
abbrev cX7_atEnd : ByteArray := prog_9_method_3_code
def yX7_atEnd : MethodName := ⟨RX7, "atEnd", "()Z"⟩
abbrev cX7_close : ByteArray := prog_9_method_4_code
def yX7_close : MethodName := ⟨RX7, "close", "()Z"⟩
abbrev cX7_exchange : ByteArray := prog_9_method_5_code
def yX7_exchange : MethodName := ⟨RX7, "exchange", "(LHuntingRudder$Text;)LHuntingRudder$Text;"⟩
abbrev cX7_refuse : ByteArray := prog_9_method_6_code
def yX7_refuse : MethodName := ⟨RX7, "refuse", "(I)Z"⟩
abbrev cX7_readLine : ByteArray := prog_9_method_7_code
def yX7_readLine : MethodName := ⟨RX7, "readLine", "()Z"⟩
abbrev cX7_atSign : ByteArray := prog_9_method_8_code
def yX7_atSign : MethodName := ⟨RX7, "atSign", "(I)Z"⟩
abbrev cX7_atWord : ByteArray := prog_9_method_9_code
def yX7_atWord : MethodName := ⟨RX7, "atWord", "(I)Z"⟩
abbrev cX7_readWheelLine : ByteArray := prog_9_method_10_code
def yX7_readWheelLine : MethodName := ⟨RX7, "readWheelLine", "()Z"⟩
abbrev cX7_readGearLine : ByteArray := prog_9_method_11_code
def yX7_readGearLine : MethodName := ⟨RX7, "readGearLine", "()Z"⟩
abbrev cX7_readSafeLine : ByteArray := prog_9_method_12_code
def yX7_readSafeLine : MethodName := ⟨RX7, "readSafeLine", "()Z"⟩
abbrev cX7_readRowLine : ByteArray := prog_9_method_13_code
def yX7_readRowLine : MethodName := ⟨RX7, "readRowLine", "()Z"⟩
abbrev cX7_readRowOrder : ByteArray := prog_9_method_14_code
def yX7_readRowOrder : MethodName := ⟨RX7, "readRowOrder", "()Z"⟩
abbrev cX7_readExpression : ByteArray := prog_9_method_15_code
def yX7_readExpression : MethodName := ⟨RX7, "readExpression", "(LHuntingRudder$Knots;Z)Z"⟩
abbrev cX7_readOperand : ByteArray := prog_9_method_16_code
def yX7_readOperand : MethodName := ⟨RX7, "readOperand", "()Z"⟩
abbrev cX7_putOff : ByteArray := prog_9_method_17_code
def yX7_putOff : MethodName := ⟨RX7, "putOff", "(II)Z"⟩
abbrev cX7_gearWordHere : ByteArray := prog_9_method_18_code
def yX7_gearWordHere : MethodName := ⟨RX7, "gearWordHere", "()I"⟩
abbrev cX7_valueHere : ByteArray := prog_9_method_19_code
def yX7_valueHere : MethodName := ⟨RX7, "valueHere", "()I"⟩
abbrev cX7_goOnBehindOperand : ByteArray := prog_9_method_20_code
def yX7_goOnBehindOperand : MethodName := ⟨RX7, "goOnBehindOperand", "()Z"⟩
abbrev cX7_closeOne : ByteArray := prog_9_method_21_code
def yX7_closeOne : MethodName := ⟨RX7, "closeOne", "()Z"⟩
abbrev cX7_endExpression : ByteArray := prog_9_method_22_code
def yX7_endExpression : MethodName := ⟨RX7, "endExpression", "()Z"⟩
abbrev cX7_signHere : ByteArray := prog_9_method_23_code
def yX7_signHere : MethodName := ⟨RX7, "signHere", "()I"⟩
abbrev cX7_writeWaiting : ByteArray := prog_9_method_24_code
def yX7_writeWaiting : MethodName := ⟨RX7, "writeWaiting", "(I)V"⟩
def RX8 : String := "HuntingRudder$Track"
def TX8 : u_T := fun k => match k with
  | 0 => ("HuntingRudder$Track", "state", "LHuntingRudder$State;", true)
  | 1 => ("HuntingRudder$Track", "seen", "[J", true)
  | 2 => ("HuntingRudder$Track", "slots", "[I", true)
  | 3 => ("HuntingRudder$Track", "kind", "I", false)
  | 4 => ("HuntingRudder$Track", "first", "I", false)
  | 5 => ("HuntingRudder$Track", "period", "I", false)
  | _ => ("HuntingRudder$Track", "swing", "I", false)
def tyX8 : Nat → FieldType := fun k => match k with
  | 0 => .object "HuntingRudder$State"
  | 1 => .array .long
  | 2 => .array .int
  | 3 => .int
  | 4 => .int
  | 5 => .int
  | _ => .int
abbrev wsX80 : List Cond := u_ws RX8 TX8 7
theorem nmX8 : ∀ a, a < 7 → ∀ b, b < 7 → a ≠ b → (TX8 a).2.1 ≠ (TX8 b).2.1 := by decide +kernel
theorem tyX8_ok : ∀ k, k < 7 → parseFieldDescriptor (TX8 k).2.2.1 = some (tyX8 k) := by decide +kernel
abbrev cX8_init : ByteArray := prog_10_method_1_code
def yX8_init : MethodName := ⟨RX8, "<init>", "()V"⟩
abbrev cX8_follow : ByteArray := prog_10_method_2_code
def yX8_follow : MethodName := ⟨RX8, "follow", "(ILHuntingRudder$Text;LHuntingRudder$Settings;)V"⟩
abbrev cX8_keep : ByteArray := prog_10_method_3_code
def yX8_keep : MethodName := ⟨RX8, "keep", "(I)I"⟩
abbrev cX8_swingOf : ByteArray := prog_10_method_4_code
def yX8_swingOf : MethodName := ⟨RX8, "swingOf", "(II)I"⟩
def RX9 : String := "HuntingRudder$Trial"
def TX9 : u_T := fun k => match k with
  | 0 => ("HuntingRudder$Trial", "state", "LHuntingRudder$State;", true)
  | 1 => ("HuntingRudder$Trial", "states", "[J", true)
  | _ => ("HuntingRudder$Trial", "steps", "I", false)
def tyX9 : Nat → FieldType := fun k => match k with
  | 0 => .object "HuntingRudder$State"
  | 1 => .array .long
  | _ => .int
abbrev wsX90 : List Cond := u_ws RX9 TX9 3
theorem nmX9 : ∀ a, a < 3 → ∀ b, b < 3 → a ≠ b → (TX9 a).2.1 ≠ (TX9 b).2.1 := by decide +kernel
theorem tyX9_ok : ∀ k, k < 3 → parseFieldDescriptor (TX9 k).2.2.1 = some (tyX9 k) := by decide +kernel
abbrev cX9_init : ByteArray := prog_11_method_1_code
def yX9_init : MethodName := ⟨RX9, "<init>", "()V"⟩
abbrev cX9_start : ByteArray := prog_11_method_2_code
def yX9_start : MethodName := ⟨RX9, "start", "(I)V"⟩
abbrev cX9_step : ByteArray := prog_11_method_3_code
def yX9_step : MethodName := ⟨RX9, "step", "(ILHuntingRudder$Settings;)Z"⟩
abbrev cX9_takeBack : ByteArray := prog_11_method_4_code
def yX9_takeBack : MethodName := ⟨RX9, "takeBack", "()Z"⟩
def RX10 : String := "HuntingRudder$Wake"
def TX10 : u_T := fun k => match k with
  | 0 => ("HuntingRudder$Wake", "state", "LHuntingRudder$State;", true)
  | 1 => ("HuntingRudder$Wake", "tried", "LHuntingRudder$Settings;", true)
  | 2 => ("HuntingRudder$Wake", "steps", "[I", true)
  | 3 => ("HuntingRudder$Wake", "offs", "[I", true)
  | 4 => ("HuntingRudder$Wake", "marks", "I", false)
  | 5 => ("HuntingRudder$Wake", "found", "[I", true)
  | 6 => ("HuntingRudder$Wake", "suspects", "I", false)
  | 7 => ("HuntingRudder$Wake", "fewest", "I", false)
  | 8 => ("HuntingRudder$Wake", "inSome", "I", false)
  | 9 => ("HuntingRudder$Wake", "inAll", "I", false)
  | 10 => ("HuntingRudder$Wake", "known", "Z", false)
  | 11 => ("HuntingRudder$Wake", "distance", "I", false)
  | _ => ("HuntingRudder$Wake", "start", "I", false)
def tyX10 : Nat → FieldType := fun k => match k with
  | 0 => .object "HuntingRudder$State"
  | 1 => .object "HuntingRudder$Settings"
  | 2 => .array .int
  | 3 => .array .int
  | 4 => .int
  | 5 => .array .int
  | 6 => .int
  | 7 => .int
  | 8 => .int
  | 9 => .int
  | 10 => .boolean
  | 11 => .int
  | _ => .int
abbrev wsX100 : List Cond := u_ws RX10 TX10 13
theorem nmX10 : ∀ a, a < 13 → ∀ b, b < 13 → a ≠ b → (TX10 a).2.1 ≠ (TX10 b).2.1 := by decide +kernel
theorem tyX10_ok : ∀ k, k < 13 → parseFieldDescriptor (TX10 k).2.2.1 = some (tyX10 k) := by decide +kernel
abbrev cX10_init : ByteArray := prog_12_method_1_code
def yX10_init : MethodName := ⟨RX10, "<init>", "()V"⟩
abbrev cX10_addMark : ByteArray := prog_12_method_2_code
def yX10_addMark : MethodName := ⟨RX10, "addMark", "(II)Z"⟩
abbrev cX10_forget : ByteArray := prog_12_method_3_code
def yX10_forget : MethodName := ⟨RX10, "forget", "()V"⟩
abbrev cX10_suspectAt : ByteArray := prog_12_method_4_code
def yX10_suspectAt : MethodName := ⟨RX10, "suspectAt", "(I)I"⟩
abbrev cX10_look : ByteArray := prog_12_method_5_code
def yX10_look : MethodName := ⟨RX10, "look", "(II)I"⟩
abbrev cX10_fail : ByteArray := prog_12_method_6_code
def yX10_fail : MethodName := ⟨RX10, "fail", "(ILHuntingRudder$Settings;)V"⟩
abbrev cX10_find : ByteArray := prog_12_method_7_code
def yX10_find : MethodName := ⟨RX10, "find", "(IILHuntingRudder$Text;LHuntingRudder$Settings;)V"⟩
abbrev cX10_tryPart : ByteArray := prog_12_method_8_code
def yX10_tryPart : MethodName := ⟨RX10, "tryPart", "(ILHuntingRudder$Text;LHuntingRudder$Settings;)V"⟩
abbrev cX10_tryPair : ByteArray := prog_12_method_9_code
def yX10_tryPair : MethodName := ⟨RX10, "tryPair", "(IILHuntingRudder$Text;LHuntingRudder$Settings;)V"⟩
abbrev cX10_addIfFits : ByteArray := prog_12_method_10_code
def yX10_addIfFits : MethodName := ⟨RX10, "addIfFits", "(ILHuntingRudder$Text;)V"⟩
abbrev cX10_sumUp : ByteArray := prog_12_method_11_code
def yX10_sumUp : MethodName := ⟨RX10, "sumUp", "()V"⟩
abbrev cX10_bitOf : ByteArray := prog_12_method_12_code
def yX10_bitOf : MethodName := ⟨RX10, "bitOf", "(I)I"⟩
def RX11 : String := "HuntingRudder"
def TX11 : u_T := fun k => match k with
  | 0 => ("HuntingRudder", "settings", "LHuntingRudder$Settings;", true)
  | 1 => ("HuntingRudder", "tried", "LHuntingRudder$Settings;", true)
  | 2 => ("HuntingRudder", "state", "LHuntingRudder$State;", true)
  | 3 => ("HuntingRudder", "track", "LHuntingRudder$Track;", true)
  | 4 => ("HuntingRudder", "wake", "LHuntingRudder$Wake;", true)
  | 5 => ("HuntingRudder", "groups", "LHuntingRudder$Groups;", true)
  | 6 => ("HuntingRudder", "way", "LHuntingRudder$Drill;", true)
  | 7 => ("HuntingRudder", "trial", "LHuntingRudder$Trial;", true)
  | 8 => ("HuntingRudder", "reader", "LHuntingRudder$TextReader;", true)
  | _ => ("HuntingRudder", "helm", "LHuntingRudder$Text;", false)
def tyX11 : Nat → FieldType := fun k => match k with
  | 0 => .object "HuntingRudder$Settings"
  | 1 => .object "HuntingRudder$Settings"
  | 2 => .object "HuntingRudder$State"
  | 3 => .object "HuntingRudder$Track"
  | 4 => .object "HuntingRudder$Wake"
  | 5 => .object "HuntingRudder$Groups"
  | 6 => .object "HuntingRudder$Drill"
  | 7 => .object "HuntingRudder$Trial"
  | 8 => .object "HuntingRudder$TextReader"
  | _ => .object "HuntingRudder$Text"
abbrev wsX110 : List Cond := u_ws RX11 TX11 10
theorem nmX11 : ∀ a, a < 10 → ∀ b, b < 10 → a ≠ b → (TX11 a).2.1 ≠ (TX11 b).2.1 := by decide +kernel
theorem tyX11_ok : ∀ k, k < 10 → parseFieldDescriptor (TX11 k).2.2.1 = some (tyX11 k) := by decide +kernel
abbrev cX11_init : ByteArray := prog_1_method_1_code
def yX11_init : MethodName := ⟨RX11, "<init>", "()V"⟩
abbrev cX11_feed : ByteArray := prog_1_method_2_code
def yX11_feed : MethodName := ⟨RX11, "feed", "(IIIII)I"⟩
abbrev cX11_text : ByteArray := prog_1_method_3_code
def yX11_text : MethodName := ⟨RX11, "text", "(I)I"⟩
abbrev cX11_fault : ByteArray := prog_1_method_4_code
def yX11_fault : MethodName := ⟨RX11, "fault", "(I)I"⟩
abbrev cX11_part : ByteArray := prog_1_method_5_code
def yX11_part : MethodName := ⟨RX11, "part", "(II)Z"⟩
abbrev cX11_ship : ByteArray := prog_1_method_6_code
def yX11_ship : MethodName := ⟨RX11, "ship", "(II)Z"⟩
abbrev cX11_row : ByteArray := prog_1_method_7_code
def yX11_row : MethodName := ⟨RX11, "row", "(II)I"⟩
abbrev cX11_led : ByteArray := prog_1_method_8_code
def yX11_led : MethodName := ⟨RX11, "led", "(III)I"⟩
abbrev cX11_steer : ByteArray := prog_1_method_9_code
def yX11_steer : MethodName := ⟨RX11, "steer", "(IIII)I"⟩
abbrev cX11_hunt : ByteArray := prog_1_method_10_code
def yX11_hunt : MethodName := ⟨RX11, "hunt", "(II)I"⟩
abbrev cX11_worst : ByteArray := prog_1_method_11_code
def yX11_worst : MethodName := ⟨RX11, "worst", "(IIIII)I"⟩
abbrev cX11_holds : ByteArray := prog_1_method_12_code
def yX11_holds : MethodName := ⟨RX11, "holds", "(II)I"⟩
abbrev cX11_farthest : ByteArray := prog_1_method_13_code
def yX11_farthest : MethodName := ⟨RX11, "farthest", "(IILHuntingRudder$Settings;I)I"⟩
abbrev cX11_mark : ByteArray := prog_1_method_14_code
def yX11_mark : MethodName := ⟨RX11, "mark", "(II)I"⟩
abbrev cX11_wipe : ByteArray := prog_1_method_15_code
def yX11_wipe : MethodName := ⟨RX11, "wipe", "()I"⟩
abbrev cX11_fits : ByteArray := prog_1_method_16_code
def yX11_fits : MethodName := ⟨RX11, "fits", "(III)I"⟩
abbrev cX11_suspect : ByteArray := prog_1_method_17_code
def yX11_suspect : MethodName := ⟨RX11, "suspect", "(IIII)I"⟩
abbrev cX11_parts : ByteArray := prog_1_method_18_code
def yX11_parts : MethodName := ⟨RX11, "parts", "(IIII)I"⟩
abbrev cX11_named : ByteArray := prog_1_method_19_code
def yX11_named : MethodName := ⟨RX11, "named", "(I)I"⟩
abbrev cX11_safe : ByteArray := prog_1_method_20_code
def yX11_safe : MethodName := ⟨RX11, "safe", "(I)I"⟩
abbrev cX11_drill : ByteArray := prog_1_method_21_code
def yX11_drill : MethodName := ⟨RX11, "drill", "(III)I"⟩
abbrev cX11_begin : ByteArray := prog_1_method_22_code
def yX11_begin : MethodName := ⟨RX11, "begin", "(I)Z"⟩
abbrev cX11_order : ByteArray := prog_1_method_23_code
def yX11_order : MethodName := ⟨RX11, "order", "(I)I"⟩
abbrev cX11_back : ByteArray := prog_1_method_24_code
def yX11_back : MethodName := ⟨RX11, "back", "()I"⟩
abbrev cX11_now : ByteArray := prog_1_method_25_code
def yX11_now : MethodName := ⟨RX11, "now", "(I)I"⟩
abbrev cX11_count : ByteArray := prog_1_method_26_code
def yX11_count : MethodName := ⟨RX11, "count", "(I)I"⟩
abbrev cX11_isOff : ByteArray := prog_1_method_27_code
def yX11_isOff : MethodName := ⟨RX11, "isOff", "(I)Z"⟩
abbrev cX11_isDistance : ByteArray := prog_1_method_28_code
def yX11_isDistance : MethodName := ⟨RX11, "isDistance", "(I)Z"⟩
def RX12 : String := "HuntingRudderModel"
def TX12 : u_T := fun k => match k with
  | 0 => ("HuntingRudderModel", "thrown", "I", false)
  | 1 => ("HuntingRudderModel", "tape", "[I", true)
  | 2 => ("HuntingRudderModel", "taped", "I", false)
  | 3 => ("HuntingRudderModel", "knotSort", "[I", true)
  | 4 => ("HuntingRudderModel", "knotValue", "[I", true)
  | 5 => ("HuntingRudderModel", "knotPlace", "[I", true)
  | 6 => ("HuntingRudderModel", "whenFrom", "[I", true)
  | 7 => ("HuntingRudderModel", "whenTo", "[I", true)
  | 8 => ("HuntingRudderModel", "orderTo", "[I", true)
  | 9 => ("HuntingRudderModel", "gearName", "[I", true)
  | 10 => ("HuntingRudderModel", "gearFrom", "[I", true)
  | 11 => ("HuntingRudderModel", "gearTo", "[I", true)
  | 12 => ("HuntingRudderModel", "rowSteps", "[I", true)
  | 13 => ("HuntingRudderModel", "rowMany", "[I", true)
  | 14 => ("HuntingRudderModel", "rowOrder", "[I", true)
  | 15 => ("HuntingRudderModel", "wheels", "I", false)
  | 16 => ("HuntingRudderModel", "gears", "I", false)
  | 17 => ("HuntingRudderModel", "rows", "I", false)
  | 18 => ("HuntingRudderModel", "sums", "I", false)
  | 19 => ("HuntingRudderModel", "bits", "I", false)
  | 20 => ("HuntingRudderModel", "safeFrom", "I", false)
  | 21 => ("HuntingRudderModel", "safeTo", "I", false)
  | 22 => ("HuntingRudderModel", "wheelsNew", "I", false)
  | 23 => ("HuntingRudderModel", "gearsNew", "I", false)
  | 24 => ("HuntingRudderModel", "rowsNew", "I", false)
  | 25 => ("HuntingRudderModel", "sumsNew", "I", false)
  | 26 => ("HuntingRudderModel", "bitsNew", "I", false)
  | 27 => ("HuntingRudderModel", "safeFromNew", "I", false)
  | 28 => ("HuntingRudderModel", "safeToNew", "I", false)
  | 29 => ("HuntingRudderModel", "sumsCounted", "I", false)
  | 30 => ("HuntingRudderModel", "bitsCounted", "I", false)
  | 31 => ("HuntingRudderModel", "lines", "I", false)
  | 32 => ("HuntingRudderModel", "size", "I", false)
  | 33 => ("HuntingRudderModel", "at", "I", false)
  | 34 => ("HuntingRudderModel", "place", "I", false)
  | 35 => ("HuntingRudderModel", "sort", "I", false)
  | 36 => ("HuntingRudderModel", "value", "I", false)
  | 37 => ("HuntingRudderModel", "fault", "I", false)
  | 38 => ("HuntingRudderModel", "faultPlace", "I", false)
  | 39 => ("HuntingRudderModel", "lastFault", "I", false)
  | 40 => ("HuntingRudderModel", "lastPlace", "I", false)
  | 41 => ("HuntingRudderModel", "open", "I", false)
  | 42 => ("HuntingRudderModel", "part", "[I", true)
  | 43 => ("HuntingRudderModel", "ship", "[I", true)
  | 44 => ("HuntingRudderModel", "now", "[I", true)
  | 45 => ("HuntingRudderModel", "worked", "[J", true)
  | 46 => ("HuntingRudderModel", "workedMany", "I", false)
  | 47 => ("HuntingRudderModel", "states", "[I", true)
  | 48 => ("HuntingRudderModel", "first", "I", false)
  | 49 => ("HuntingRudderModel", "period", "I", false)
  | 50 => ("HuntingRudderModel", "marks", "I", false)
  | 51 => ("HuntingRudderModel", "markStep", "[I", true)
  | 52 => ("HuntingRudderModel", "markOff", "[I", true)
  | 53 => ("HuntingRudderModel", "suspects", "I", false)
  | 54 => ("HuntingRudderModel", "fewest", "I", false)
  | 55 => ("HuntingRudderModel", "onePart", "[I", true)
  | 56 => ("HuntingRudderModel", "oneValue", "[I", true)
  | 57 => ("HuntingRudderModel", "twoPart", "[I", true)
  | 58 => ("HuntingRudderModel", "twoValue", "[I", true)
  | 59 => ("HuntingRudderModel", "wakes", "[I", true)
  | 60 => ("HuntingRudderModel", "group", "[I", true)
  | 61 => ("HuntingRudderModel", "pile", "[Z", true)
  | 62 => ("HuntingRudderModel", "left", "[I", true)
  | 63 => ("HuntingRudderModel", "isTrial", "Z", false)
  | 64 => ("HuntingRudderModel", "trialSteps", "I", false)
  | _ => ("HuntingRudderModel", "kept", "[I", true)
def tyX12 : Nat → FieldType := fun k => match k with
  | 0 => .int
  | 1 => .array .int
  | 2 => .int
  | 3 => .array .int
  | 4 => .array .int
  | 5 => .array .int
  | 6 => .array .int
  | 7 => .array .int
  | 8 => .array .int
  | 9 => .array .int
  | 10 => .array .int
  | 11 => .array .int
  | 12 => .array .int
  | 13 => .array .int
  | 14 => .array .int
  | 15 => .int
  | 16 => .int
  | 17 => .int
  | 18 => .int
  | 19 => .int
  | 20 => .int
  | 21 => .int
  | 22 => .int
  | 23 => .int
  | 24 => .int
  | 25 => .int
  | 26 => .int
  | 27 => .int
  | 28 => .int
  | 29 => .int
  | 30 => .int
  | 31 => .int
  | 32 => .int
  | 33 => .int
  | 34 => .int
  | 35 => .int
  | 36 => .int
  | 37 => .int
  | 38 => .int
  | 39 => .int
  | 40 => .int
  | 41 => .int
  | 42 => .array .int
  | 43 => .array .int
  | 44 => .array .int
  | 45 => .array .long
  | 46 => .int
  | 47 => .array .int
  | 48 => .int
  | 49 => .int
  | 50 => .int
  | 51 => .array .int
  | 52 => .array .int
  | 53 => .int
  | 54 => .int
  | 55 => .array .int
  | 56 => .array .int
  | 57 => .array .int
  | 58 => .array .int
  | 59 => .array .int
  | 60 => .array .int
  | 61 => .array .boolean
  | 62 => .array .int
  | 63 => .boolean
  | 64 => .int
  | _ => .array .int
abbrev wsX120 : List Cond := u_ws RX12 TX12 66
theorem nmX12 : ∀ a, a < 66 → ∀ b, b < 66 → a ≠ b → (TX12 a).2.1 ≠ (TX12 b).2.1 := by decide +kernel
theorem tyX12_ok : ∀ k, k < 66 → parseFieldDescriptor (TX12 k).2.2.1 = some (tyX12 k) := by decide +kernel
abbrev cX12_init : ByteArray := prog_14_method_1_code
def yX12_init : MethodName := ⟨RX12, "<init>", "()V"⟩
abbrev cX12_thrown : ByteArray := prog_14_method_2_code
def yX12_thrown : MethodName := ⟨RX12, "thrown", "()I"⟩
abbrev cX12_feed : ByteArray := prog_14_method_3_code
def yX12_feed : MethodName := ⟨RX12, "feed", "(IIIII)I"⟩
abbrev cX12_here : ByteArray := prog_14_method_4_code
def yX12_here : MethodName := ⟨RX12, "here", "()I"⟩
abbrev cX12_isSmall : ByteArray := prog_14_method_5_code
def yX12_isSmall : MethodName := ⟨RX12, "isSmall", "(I)Z"⟩
abbrev cX12_isDigit : ByteArray := prog_14_method_6_code
def yX12_isDigit : MethodName := ⟨RX12, "isDigit", "(I)Z"⟩
abbrev cX12_next : ByteArray := prog_14_method_7_code
def yX12_next : MethodName := ⟨RX12, "next", "()V"⟩
abbrev cX12_sign : ByteArray := prog_14_method_8_code
def yX12_sign : MethodName := ⟨RX12, "sign", "(I)V"⟩
abbrev cX12_word : ByteArray := prog_14_method_9_code
def yX12_word : MethodName := ⟨RX12, "word", "()I"⟩
abbrev cX12_name : ByteArray := prog_14_method_10_code
def yX12_name : MethodName := ⟨RX12, "name", "()V"⟩
abbrev cX12_wrong : ByteArray := prog_14_method_11_code
def yX12_wrong : MethodName := ⟨RX12, "wrong", "(I)V"⟩
abbrev cX12_isWord : ByteArray := prog_14_method_12_code
def yX12_isWord : MethodName := ⟨RX12, "isWord", "(I)Z"⟩
abbrev cX12_isSign : ByteArray := prog_14_method_13_code
def yX12_isSign : MethodName := ⟨RX12, "isSign", "(I)Z"⟩
abbrev cX12_goOn : ByteArray := prog_14_method_14_code
def yX12_goOn : MethodName := ⟨RX12, "goOn", "()V"⟩
abbrev cX12_numeral : ByteArray := prog_14_method_15_code
def yX12_numeral : MethodName := ⟨RX12, "numeral", "(II)I"⟩
abbrev cX12_found : ByteArray := prog_14_method_16_code
def yX12_found : MethodName := ⟨RX12, "found", "([IIII)I"⟩
abbrev cX12_line : ByteArray := prog_14_method_17_code
def yX12_line : MethodName := ⟨RX12, "line", "()V"⟩
abbrev cX12_wheelLine : ByteArray := prog_14_method_18_code
def yX12_wheelLine : MethodName := ⟨RX12, "wheelLine", "(I)V"⟩
abbrev cX12_gearLine : ByteArray := prog_14_method_19_code
def yX12_gearLine : MethodName := ⟨RX12, "gearLine", "(I)V"⟩
abbrev cX12_rowLine : ByteArray := prog_14_method_20_code
def yX12_rowLine : MethodName := ⟨RX12, "rowLine", "(I)V"⟩
abbrev cX12_puts : ByteArray := prog_14_method_21_code
def yX12_puts : MethodName := ⟨RX12, "puts", "(II)V"⟩
abbrev cX12_knot : ByteArray := prog_14_method_22_code
def yX12_knot : MethodName := ⟨RX12, "knot", "()V"⟩
abbrev cX12_expression : ByteArray := prog_14_method_23_code
def yX12_expression : MethodName := ⟨RX12, "expression", "()V"⟩
abbrev cX12_conjunction : ByteArray := prog_14_method_24_code
def yX12_conjunction : MethodName := ⟨RX12, "conjunction", "()V"⟩
abbrev cX12_negation : ByteArray := prog_14_method_25_code
def yX12_negation : MethodName := ⟨RX12, "negation", "()V"⟩
abbrev cX12_sum : ByteArray := prog_14_method_26_code
def yX12_sum : MethodName := ⟨RX12, "sum", "()V"⟩
abbrev cX12_product : ByteArray := prog_14_method_27_code
def yX12_product : MethodName := ⟨RX12, "product", "()V"⟩
abbrev cX12_primary : ByteArray := prog_14_method_28_code
def yX12_primary : MethodName := ⟨RX12, "primary", "()V"⟩
abbrev cX12_closes : ByteArray := prog_14_method_29_code
def yX12_closes : MethodName := ⟨RX12, "closes", "()V"⟩
abbrev cX12_lays : ByteArray := prog_14_method_30_code
def yX12_lays : MethodName := ⟨RX12, "lays", "(III)V"⟩
abbrev cX12_bitKnot : ByteArray := prog_14_method_31_code
def yX12_bitKnot : MethodName := ⟨RX12, "bitKnot", "()V"⟩
abbrev cX12_either : ByteArray := prog_14_method_32_code
def yX12_either : MethodName := ⟨RX12, "either", "()V"⟩
abbrev cX12_both : ByteArray := prog_14_method_33_code
def yX12_both : MethodName := ⟨RX12, "both", "()V"⟩
abbrev cX12_holding : ByteArray := prog_14_method_34_code
def yX12_holding : MethodName := ⟨RX12, "holding", "()V"⟩
abbrev cX12_text : ByteArray := prog_14_method_35_code
def yX12_text : MethodName := ⟨RX12, "text", "(I)I"⟩
abbrev cX12_laid : ByteArray := prog_14_method_36_code
def yX12_laid : MethodName := ⟨RX12, "laid", "()V"⟩
abbrev cX12_fault : ByteArray := prog_14_method_37_code
def yX12_fault : MethodName := ⟨RX12, "fault", "(I)I"⟩
abbrev cX12_least : ByteArray := prog_14_method_38_code
def yX12_least : MethodName := ⟨RX12, "least", "(I)I"⟩
abbrev cX12_greatest : ByteArray := prog_14_method_39_code
def yX12_greatest : MethodName := ⟨RX12, "greatest", "(I)I"⟩
abbrev cX12_part : ByteArray := prog_14_method_40_code
def yX12_part : MethodName := ⟨RX12, "part", "(II)Z"⟩
abbrev cX12_ship : ByteArray := prog_14_method_41_code
def yX12_ship : MethodName := ⟨RX12, "ship", "(II)Z"⟩
abbrev cX12_row : ByteArray := prog_14_method_42_code
def yX12_row : MethodName := ⟨RX12, "row", "(II)I"⟩
abbrev cX12_isOff : ByteArray := prog_14_method_43_code
def yX12_isOff : MethodName := ⟨RX12, "isOff", "(I)Z"⟩
abbrev cX12_starts : ByteArray := prog_14_method_44_code
def yX12_starts : MethodName := ⟨RX12, "starts", "(I)V"⟩
abbrev cX12_nearer : ByteArray := prog_14_method_45_code
def yX12_nearer : MethodName := ⟨RX12, "nearer", "(III)I"⟩
abbrev cX12_steps : ByteArray := prog_14_method_46_code
def yX12_steps : MethodName := ⟨RX12, "steps", "(I)V"⟩
abbrev cX12_nameOf : ByteArray := prog_14_method_47_code
def yX12_nameOf : MethodName := ⟨RX12, "nameOf", "(I)J"⟩
abbrev cX12_is : ByteArray := prog_14_method_48_code
def yX12_is : MethodName := ⟨RX12, "is", "(Z)J"⟩
abbrev cX12_works : ByteArray := prog_14_method_49_code
def yX12_works : MethodName := ⟨RX12, "works", "(I)Z"⟩
abbrev cX12_goes : ByteArray := prog_14_method_50_code
def yX12_goes : MethodName := ⟨RX12, "goes", "(II)Z"⟩
abbrev cX12_ordered : ByteArray := prog_14_method_51_code
def yX12_ordered : MethodName := ⟨RX12, "ordered", "()I"⟩
abbrev cX12_rowed : ByteArray := prog_14_method_52_code
def yX12_rowed : MethodName := ⟨RX12, "rowed", "(II)I"⟩
abbrev cX12_what : ByteArray := prog_14_method_53_code
def yX12_what : MethodName := ⟨RX12, "what", "(I)I"⟩
abbrev cX12_led : ByteArray := prog_14_method_54_code
def yX12_led : MethodName := ⟨RX12, "led", "(III)I"⟩
abbrev cX12_steer : ByteArray := prog_14_method_55_code
def yX12_steer : MethodName := ⟨RX12, "steer", "(IIII)I"⟩
abbrev cX12_isLike : ByteArray := prog_14_method_56_code
def yX12_isLike : MethodName := ⟨RX12, "isLike", "(II)Z"⟩
abbrev cX12_keeps : ByteArray := prog_14_method_57_code
def yX12_keeps : MethodName := ⟨RX12, "keeps", "(I)V"⟩
abbrev cX12_hunts : ByteArray := prog_14_method_58_code
def yX12_hunts : MethodName := ⟨RX12, "hunts", "(I)V"⟩
abbrev cX12_hunt : ByteArray := prog_14_method_59_code
def yX12_hunt : MethodName := ⟨RX12, "hunt", "(II)I"⟩
abbrev cX12_furthest : ByteArray := prog_14_method_60_code
def yX12_furthest : MethodName := ⟨RX12, "furthest", "(III)I"⟩
abbrev cX12_worst : ByteArray := prog_14_method_61_code
def yX12_worst : MethodName := ⟨RX12, "worst", "(IIIII)I"⟩
abbrev cX12_holds : ByteArray := prog_14_method_62_code
def yX12_holds : MethodName := ⟨RX12, "holds", "(II)I"⟩
abbrev cX12_mark : ByteArray := prog_14_method_63_code
def yX12_mark : MethodName := ⟨RX12, "mark", "(II)I"⟩
abbrev cX12_wipe : ByteArray := prog_14_method_64_code
def yX12_wipe : MethodName := ⟨RX12, "wipe", "()I"⟩
abbrev cX12_isFit : ByteArray := prog_14_method_65_code
def yX12_isFit : MethodName := ⟨RX12, "isFit", "(II)Z"⟩
abbrev cX12_adds : ByteArray := prog_14_method_66_code
def yX12_adds : MethodName := ⟨RX12, "adds", "(IIII)V"⟩
abbrev cX12_seeks : ByteArray := prog_14_method_67_code
def yX12_seeks : MethodName := ⟨RX12, "seeks", "(II)V"⟩
abbrev cX12_pairs : ByteArray := prog_14_method_68_code
def yX12_pairs : MethodName := ⟨RX12, "pairs", "(IIII)V"⟩
abbrev cX12_isDoubt : ByteArray := prog_14_method_69_code
def yX12_isDoubt : MethodName := ⟨RX12, "isDoubt", "(I)Z"⟩
abbrev cX12_fits : ByteArray := prog_14_method_70_code
def yX12_fits : MethodName := ⟨RX12, "fits", "(III)I"⟩
abbrev cX12_suspect : ByteArray := prog_14_method_71_code
def yX12_suspect : MethodName := ⟨RX12, "suspect", "(IIII)I"⟩
abbrev cX12_wake : ByteArray := prog_14_method_72_code
def yX12_wake : MethodName := ⟨RX12, "wake", "(III)V"⟩
abbrev cX12_isSame : ByteArray := prog_14_method_73_code
def yX12_isSame : MethodName := ⟨RX12, "isSame", "(III)Z"⟩
abbrev cX12_greatestGroup : ByteArray := prog_14_method_74_code
def yX12_greatestGroup : MethodName := ⟨RX12, "greatestGroup", "(II)I"⟩
abbrev cX12_parts : ByteArray := prog_14_method_75_code
def yX12_parts : MethodName := ⟨RX12, "parts", "(IIII)I"⟩
abbrev cX12_named : ByteArray := prog_14_method_76_code
def yX12_named : MethodName := ⟨RX12, "named", "(I)I"⟩
abbrev cX12_holdsBy : ByteArray := prog_14_method_77_code
def yX12_holdsBy : MethodName := ⟨RX12, "holdsBy", "(III)Z"⟩
abbrev cX12_isSafe : ByteArray := prog_14_method_78_code
def yX12_isSafe : MethodName := ⟨RX12, "isSafe", "(I)Z"⟩
abbrev cX12_isGears : ByteArray := prog_14_method_79_code
def yX12_isGears : MethodName := ⟨RX12, "isGears", "(I)Z"⟩
abbrev cX12_safe : ByteArray := prog_14_method_80_code
def yX12_safe : MethodName := ⟨RX12, "safe", "(I)I"⟩
abbrev cX12_mayChange : ByteArray := prog_14_method_81_code
def yX12_mayChange : MethodName := ⟨RX12, "mayChange", "(II)Z"⟩
abbrev cX12_measures : ByteArray := prog_14_method_82_code
def yX12_measures : MethodName := ⟨RX12, "measures", "(I)V"⟩
abbrev cX12_drill : ByteArray := prog_14_method_83_code
def yX12_drill : MethodName := ⟨RX12, "drill", "(III)I"⟩
abbrev cX12_brings : ByteArray := prog_14_method_84_code
def yX12_brings : MethodName := ⟨RX12, "brings", "(I)V"⟩
abbrev cX12_leaves : ByteArray := prog_14_method_85_code
def yX12_leaves : MethodName := ⟨RX12, "leaves", "(I)V"⟩
abbrev cX12_begin : ByteArray := prog_14_method_86_code
def yX12_begin : MethodName := ⟨RX12, "begin", "(I)Z"⟩
abbrev cX12_order : ByteArray := prog_14_method_87_code
def yX12_order : MethodName := ⟨RX12, "order", "(I)I"⟩
abbrev cX12_back : ByteArray := prog_14_method_88_code
def yX12_back : MethodName := ⟨RX12, "back", "()I"⟩
abbrev cX12_now : ByteArray := prog_14_method_89_code
def yX12_now : MethodName := ⟨RX12, "now", "(I)I"⟩
abbrev cX12_count : ByteArray := prog_14_method_90_code
def yX12_count : MethodName := ⟨RX12, "count", "(I)I"⟩
def RJx145de : String := "java/io/Serializable"
def RJx9f9b0 : String := "java/lang/CharSequence"
def RJxb160c : String := "java/lang/Comparable"
def RJ9 : String := "java/lang/Math"
abbrev cJ9_abs_0f7a4 : ByteArray := prog_20_method_59_code
def yJ9_abs_0f7a4 : MethodName := ⟨RJ9, "abs", "(I)I"⟩
abbrev cJ9_abs_067f4 : ByteArray := prog_20_method_61_code
def yJ9_abs_067f4 : MethodName := ⟨RJ9, "abs", "(J)J"⟩
abbrev cJ9_max_7cf53 : ByteArray := prog_20_method_65_code
def yJ9_max_7cf53 : MethodName := ⟨RJ9, "max", "(II)I"⟩
abbrev cJ9_max_f86c9 : ByteArray := prog_20_method_66_code
def yJ9_max_f86c9 : MethodName := ⟨RJ9, "max", "(JJ)J"⟩
abbrev cJ9_min_7cf53 : ByteArray := prog_20_method_69_code
def yJ9_min_7cf53 : MethodName := ⟨RJ9, "min", "(II)I"⟩
abbrev cJ9_min_f86c9 : ByteArray := prog_20_method_70_code
def yJ9_min_f86c9 : MethodName := ⟨RJ9, "min", "(JJ)J"⟩
def RJ0 : String := "java/lang/String"
abbrev cJ0_length_8abf5 : ByteArray := prog_22_method_54_code
def yJ0_length_8abf5 : MethodName := ⟨RJ0, "length", "()I"⟩
abbrev cJ0_charAt_5068e : ByteArray := prog_22_method_56_code
def yJ0_charAt_5068e : MethodName := ⟨RJ0, "charAt", "(I)C"⟩
abbrev cJ0_coder_7d493 : ByteArray := prog_22_method_152_code
def yJ0_coder_7d493 : MethodName := ⟨RJ0, "coder", "()B"⟩
abbrev cJ0_isLatin1_aae02 : ByteArray := prog_22_method_154_code
def yJ0_isLatin1_aae02 : MethodName := ⟨RJ0, "isLatin1", "()Z"⟩
abbrev cJ0_checkIndex_df160 : ByteArray := prog_22_method_155_code
def yJ0_checkIndex_df160 : MethodName := ⟨RJ0, "checkIndex", "(II)V"⟩
def RJ1 : String := "java/lang/StringLatin1"
abbrev cJ1_charAt_3b067 : ByteArray := prog_23_method_2_code
def yJ1_charAt_3b067 : MethodName := ⟨RJ1, "charAt", "([BI)C"⟩
def RJ2 : String := "java/lang/StringUTF16"
abbrev cJ2_getChar_3b067 : ByteArray := prog_24_method_5_code
def yJ2_getChar_3b067 : MethodName := ⟨RJ2, "getChar", "([BI)C"⟩
abbrev cJ2_length_9d52b : ByteArray := prog_24_method_6_code
def yJ2_length_9d52b : MethodName := ⟨RJ2, "length", "([B)I"⟩
abbrev cJ2_charAt_3b067 : ByteArray := prog_24_method_83_code
def yJ2_charAt_3b067 : MethodName := ⟨RJ2, "charAt", "([BI)C"⟩
abbrev cJ2_checkIndex_2214a : ByteArray := prog_24_method_91_code
def yJ2_checkIndex_2214a : MethodName := ⟨RJ2, "checkIndex", "(I[B)V"⟩
def RJ10 : String := "java/lang/System"
def RJxfd54e : String := "java/lang/constant/Constable"
def RJx3cf43 : String := "java/lang/constant/ConstantDesc"
def RJ7 : String := "java/util/Arrays"
abbrev cJ7_fill_d0a16 : ByteArray := prog_29_method_101_code
def yJ7_fill_d0a16 : MethodName := ⟨RJ7, "fill", "([JJ)V"⟩
abbrev cJ7_fill_53178 : ByteArray := prog_29_method_103_code
def yJ7_fill_53178 : MethodName := ⟨RJ7, "fill", "([II)V"⟩
def RJ3 : String := "jdk/internal/util/Preconditions"
abbrev cJ3_checkIndex_8e157 : ByteArray := prog_31_method_11_code
def yJ3_checkIndex_8e157 : MethodName := ⟨RJ3, "checkIndex", "(IILjava/util/function/BiFunction;)I"⟩
def RL : String := "HuntingRudderLaw"
abbrev cL_row : ByteArray := method_3_code
def yL_row : MethodName := ⟨RL, "row", "(LHuntingRudder;II[J)I"⟩
abbrev cL_law : ByteArray := code
def yL_law : MethodName := ⟨RL, "law", "([I)Z"⟩
abbrev vwCl : List vw_C := [(RX0, TX0, 3), (RX1, TX1, 7), (RX2, TX2, 5), (RX3, TX3, 2), (RX4, TX4, 8), (RX5, TX5, 7), (RX6, TX6, 14), (RX7, TX7, 13), (RX8, TX8, 7), (RX9, TX9, 3), (RX10, TX10, 13), (RX11, TX11, 10), (RX12, TX12, 66)]
